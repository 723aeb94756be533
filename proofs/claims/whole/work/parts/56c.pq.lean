/-! planned: once all is laid it stays so -/
section xk_pq
variable {n ns x d a p : Nat} {W W0 : xw} {bar : Int32} {s : xw × Int32 × Int32}
theorem lay_n : ∀ (c i : Nat) (W : xw) (l v : Int32), ∃ m, m ≤ c ∧ (sp_lay n c i W l v).2 = v + nI m ∧ (m = 0 → (sp_lay n c i W l v).1 = W) := by
  intro c
  induction c with
  | zero => intro i W l v; exact ⟨0, Nat.le_refl _, (Int32.add_zero v).symm, fun _ => rfl⟩
  | succ c ih =>
    intro i W l v
    rw [sp_lay]
    split
    · split
      · obtain ⟨m, h1, h2, h3⟩ := ih (i + 1) (sp_lay1 n W (sp_ix W (30 + i))) (l + Int32.ofInt (-1)) (v + nI 1)
        refine ⟨m + 1, by omega, ?_, fun z => absurd z (by omega)⟩
        rw [h2, Int32.add_assoc, nI_add, Nat.add_comm 1 m]
      · obtain ⟨m, h1, h2, h3⟩ := ih (i + 1) W l v
        exact ⟨m, by omega, h2, h3⟩
    · exact ⟨0, by omega, (Int32.add_zero v).symm, fun _ => rfl⟩
theorem lay_all (ho : ok n ns W) (h : lmN W n = n) : ∀ (c i : Nat) (l v : Int32), i + c = n → sp_lay n c i W l v = (W, v) := by
  intro c
  induction c with
  | zero => intros; rfl
  | succ c ih =>
    intro i l v hi
    obtain ⟨b, hb, eb, ib⟩ := ok_or ho (show i < n by omega)
    rw [sp_lay, ib]
    have hc : ¬ sp_canB n W b = true := by
      intro z
      unfold sp_canB at z
      simp only [Bool.and_eq_true, decide_eq_true_eq] at z
      have := lmN_all n h b hb
      rw [this] at z
      exact absurd z.1.1.1 (by decide)
    rw [if_neg hc, ih (i + 1) l v (by omega)]
    split <;> rfl
theorem th_wk2 : (sp_week false bar n W).2 = (sp_lay n n 0 (th_V bar n W) (if sp_frost (th_V bar n W) then nI 0 else th_V bar n W 14) (nI 0)).2 := by
  rw [th_week_eq]; rfl
theorem wkA (ho : ok n ns W) (hn : 0 < n) (h : lmN W n = n) : lmN (sp_week false bar n W).1 n = n ∧ (sp_week false bar n W).2 = nI 0 := by
  have hV : lmN (th_V bar n W) n = n := (lmN_V ho).trans h
  have e := lay_all (ok_V (bar := bar) ho) hV n 0 (if sp_frost (th_V bar n W) then nI 0 else th_V bar n W 14) (nI 0) (by omega)
  refine ⟨(lmN_wk ho hn).mpr ?_, ?_⟩
  · rw [th_U, e]; exact hV
  · rw [th_wk2, e]
theorem wkB (ho : ok n ns W) (hn : 0 < n) (h : lmN W n < n) (h2 : lmN (sp_week false bar n W).1 n = n) : ¬ (sp_week false bar n W).2 = nI 0 := by
  have n14 := ho.1.2.1
  intro z
  rw [th_wk2] at z
  obtain ⟨m, m1, m2, m3⟩ := lay_n (n := n) n 0 (th_V bar n W) (if sp_frost (th_V bar n W) then nI 0 else th_V bar n W 14) (nI 0)
  rw [m2, nI_add] at z
  have m0 : m = 0 := by have := (xn_eq (by omega) (by omega)).mp z; omega
  have e := m3 m0
  have := (lmN_wk ho hn).mp h2
  rw [th_U, e, lmN_V ho] at this
  omega
/-- what the two know of the closing -/
def pqI (n : Nat) (s : xw × Int32 × Int32) : Prop := s.1 6 = nI 200 ∧ s.2.1 = s.2.2 ∧ (s.2.1 = Int32.ofInt (-1) → lmN s.1 n < n) ∧ (¬ s.2.1 = Int32.ofInt (-1) → lmN s.1 n = n)
theorem pq_wk (hn : 0 < n) (ho : ok n ns s.1) (e : s.1 2 = nI x) (hx : x < 20000) (h : pqI n s) : pqI n (wk1 false n s) := by
  obtain ⟨h1, h2, h3, h4⟩ := h
  have le := lmN_le (W := (sp_week false (Int32.ofInt (-1)) n s.1).1) n
  refine ⟨(bkf_week ho h1).1, ?_, ?_, ?_⟩
  all_goals simp only [wk1]
  · rw [← h2]
    by_cases hc : s.2.1 = Int32.ofInt (-1)
    · by_cases hl : lmN (sp_week false (Int32.ofInt (-1)) n s.1).1 n = n
      · rw [if_pos ⟨hc, hl⟩, if_pos ⟨wkB ho hn (h3 hc) hl, hl⟩]
      · rw [if_neg (fun z => hl z.2), if_neg (fun z => hl z.2)]
    · rw [if_neg (fun z => hc z.1), if_neg (fun z => z.1 (wkA ho hn (h4 hc)).2)]
  · intro z
    by_cases hc : s.2.1 = Int32.ofInt (-1)
    · by_cases hl : lmN (sp_week false (Int32.ofInt (-1)) n s.1).1 n = n
      · rw [if_pos ⟨hc, hl⟩, e] at z
        exact absurd z (nI_m1 (by omega))
      · omega
    · rw [if_neg (fun z => hc z.1)] at z
      exact absurd z hc
  · intro z
    by_cases hc : s.2.1 = Int32.ofInt (-1)
    · by_cases hl : lmN (sp_week false (Int32.ofInt (-1)) n s.1).1 n = n
      · exact hl
      · rw [if_neg (fun z => hl z.2)] at z
        exact absurd hc z
    · exact (wkA ho hn (h4 hc)).1
theorem pq_wkT (hn : 0 < n) : ∀ (t : Nat) (s : xw × Int32 × Int32) (x : Nat), ok n ns s.1 → s.1 2 = nI x → x + t ≤ 20000 → pqI n s → pqI n (wkT false n t s) := by
  intro t
  induction t with
  | zero => intro s x _ _ _ h; exact h
  | succ t ih =>
    intro s x ho e hx h
    exact ih (wk1 false n s) (x + 1) (ok_sweek ho (show x < 20000 by omega) e) (by show (sp_week false (Int32.ofInt (-1)) n s.1).1 2 = _; rw [wk_week ho, e, nI_add]) (by omega) (pq_wk hn ho e (by omega) h)
theorem stW_lm (ho : ok n ns W) (hd : 1 ≤ d) (hd8 : d < 8) (ha : a ≤ plb d) : lmN (stW n d a p W) n = lmN W n := lm_cg n (fun x hx => by rw [(stW_ok ho hd hd8 ha).2 _ (by omega)])
theorem pq_st (hn : 0 < n) (ho : ok n ns s.1) (e : s.1 2 = nI x) (hx : x + 60 ≤ 20000) (hd8 : d < 8) (ha : a ≤ plb d) (h : pqI n s) : pqI n (st1 false n d a p s) := by
  unfold st1
  by_cases h0 : d = 0
  · subst h0
    rw [if_pos rfl]
    have ha : a ≤ 60 := ha
    exact pq_wkT hn a s x ho e (by omega) h
  · rw [if_neg h0]
    obtain ⟨h1, h2, h3, h4⟩ := h
    have l := stW_lm (p := p) ho (show 1 ≤ d by omega) hd8 ha
    exact ⟨((stW_ok ho (by omega) hd8 ha).2 6 (by omega)).trans h1, h2, fun z => by show lmN (stW n d a p s.1) n < n; rw [l]; exact h3 z, fun z => by show lmN (stW n d a p s.1) n = n; rw [l]; exact h4 z⟩
theorem pq_pl (hn : 0 < n) : ∀ (t i : Nat) (s : xw × Int32 × Int32) (x : Nat), ok n ns s.1 → s.1 2 = nI x → x + 60 * t ≤ 20000 → (∀ j, i ≤ j → j < i + t → plM W0 j) → pqI n s → pqI n (plT false n W0 t i s) := by
  intro t
  induction t with
  | zero => intro i s x _ _ _ _ h; exact h
  | succ t ih =>
    intro i s x ho e hx hM h
    obtain ⟨d, a, p, hd, ha, hp13, -, -, -, e1, e2, e3⟩ := hM i (Nat.le_refl _) (by omega)
    rw [plT, e1, e2, e3, show 24 + d - 24 = d by omega]
    obtain ⟨b1, b2, b3, b4⟩ := st1_K (q := false) (p := p) ho e (by omega) hd ha
    have w : (if d = 0 then a else 0) ≤ 60 := by
      split
      · rename_i z; subst z; exact ha
      · omega
    exact ih (i + 1) _ (x + (if d = 0 then a else 0)) b1 b2 (by omega) (fun j j1 j2 => hM j (by omega) (by omega)) (pq_st hn ho e (by omega) hd ha h)
/-- the full book, and what lies high -/
def hiK (W W' : xw) : Prop := W' 6 = nI 200 ∧ ∀ p, 250 ≤ p → W' p = W p
theorem hi_wkT : ∀ (t : Nat) (s : xw × Int32 × Int32) (x : Nat), ok n ns s.1 → s.1 2 = nI x → x + t ≤ 20000 → s.1 6 = nI 200 → hiK s.1 (wkT false n t s).1 := by
  intro t
  induction t with
  | zero => intro s x _ _ _ h; exact ⟨h, fun _ _ => rfl⟩
  | succ t ih =>
    intro s x ho e hx h
    obtain ⟨k1, k2⟩ := ih (wk1 false n s) (x + 1) (ok_sweek ho (show x < 20000 by omega) e) (by show (sp_week false (Int32.ofInt (-1)) n s.1).1 2 = _; rw [wk_week ho, e, nI_add]) (by omega) (bkf_week ho h).1
    exact ⟨k1, fun p hp => (k2 p hp).trans (th_hi ho h p (by omega))⟩
theorem hi_pl : ∀ (t i : Nat) (s : xw × Int32 × Int32) (x : Nat), ok n ns s.1 → s.1 2 = nI x → x + 60 * t ≤ 20000 → (∀ j, i ≤ j → j < i + t → plM W0 j) → s.1 6 = nI 200 → hiK s.1 (plT false n W0 t i s).1 := by
  intro t
  induction t with
  | zero => intro i s x _ _ _ _ h; exact ⟨h, fun _ _ => rfl⟩
  | succ t ih =>
    intro i s x ho e hx hM h
    obtain ⟨d, a, p, hd, ha, hp13, -, -, -, e1, e2, e3⟩ := hM i (Nat.le_refl _) (by omega)
    rw [plT, e1, e2, e3, show 24 + d - 24 = d by omega]
    obtain ⟨b1, b2, b3, b4⟩ := st1_K (q := false) (p := p) ho e (by omega) hd ha
    have w : (if d = 0 then a else 0) ≤ 60 := by
      split
      · rename_i z; subst z; exact ha
      · omega
    have hs : hiK s.1 (st1 false n d a p s).1 := by
      unfold st1
      by_cases h0 : d = 0
      · subst h0
        rw [if_pos rfl]
        have ha : a ≤ 60 := ha
        exact hi_wkT a s x ho e (by omega) h
      · rw [if_neg h0]
        have k := (stW_ok (p := p) ho (show 1 ≤ d by omega) hd ha).2
        exact ⟨(k 6 (by omega)).trans h, fun p' hp' => k p' (by omega)⟩
    obtain ⟨k1, k2⟩ := ih (i + 1) _ (x + (if d = 0 then a else 0)) b1 b2 (by omega) (fun j j1 j2 => hM j (by omega) (by omega)) hs.1
    exact ⟨k1, fun p' hp' => (k2 p' hp').trans (hs.2 p' hp')⟩
/-- what is closed stays so, for the model -/
theorem cl_wkT : ∀ (t : Nat) (s : xw × Int32 × Int32), ¬ s.2.1 = Int32.ofInt (-1) → (wkT false n t s).2.1 = s.2.1 := by
  intro t
  induction t with
  | zero => intro s _; rfl
  | succ t ih =>
    intro s h
    have e : (wk1 false n s).2.1 = s.2.1 := if_neg (fun z => h z.1)
    rw [wkT, ih _ (by rw [e]; exact h), e]
theorem cl_pl : ∀ (t i : Nat) (s : xw × Int32 × Int32), ¬ s.2.1 = Int32.ofInt (-1) → (plT false n W0 t i s).2.1 = s.2.1 := by
  intro t
  induction t with
  | zero => intro i s _; rfl
  | succ t ih =>
    intro i s h
    have e : ∀ d a p, (st1 false n d a p s).2.1 = s.2.1 := fun d a p => by
      unfold st1
      split
      · exact cl_wkT a s h
      · rfl
    rw [plT, ih _ _ (by rw [e]; exact h), e]
end xk_pq
