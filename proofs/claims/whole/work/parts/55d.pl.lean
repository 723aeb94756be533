/-! plan: what a step does -/
def wk1 (q : Bool) (n : Nat) (s : xw × Int32 × Int32) : xw × Int32 × Int32 := ((sp_week q (Int32.ofInt (-1)) n s.1).1, (if s.2.1 = Int32.ofInt (-1) ∧ lmN (sp_week q (Int32.ofInt (-1)) n s.1).1 n = n then s.1 2 else s.2.1), (if ¬ (sp_week q (Int32.ofInt (-1)) n s.1).2 = nI 0 ∧ lmN (sp_week q (Int32.ofInt (-1)) n s.1).1 n = n then s.1 2 else s.2.2))
def wkT (q : Bool) (n : Nat) : Nat → xw × Int32 × Int32 → xw × Int32 × Int32
  | 0, s => s
  | t + 1, s => wkT q n t (wk1 q n s)
/-- the place of a block in the order -/
def frN (W : xw) (b : Nat) : Nat → Nat
  | 0 => 0
  | c + 1 => if W (30 + c) = nI b then c else frN W b c
def stW (n d a p : Nat) (W : xw) : xw := if d = 1 then (if a < n ∧ p < n then rkW n (frN W a n) p W else W) else if d = 2 then upd W 10 (xq_min (nI 99) (W 10 + nI a)) else if d = 3 then upd W 10 (xq_max (nI 0) (W 10 - nI a)) else if d = 4 then upd W (24 + a) (nI 1) else if d = 5 then upd W (24 + a) (nI 0) else if d = 6 then upd W 13 (nI a) else upd W 14 (nI a)
def st1 (q : Bool) (n d a p : Nat) (s : xw × Int32 × Int32) : xw × Int32 × Int32 := if d = 0 then wkT q n a s else (stW n d a p s.1, s.2)
def plT (q : Bool) (n : Nat) (W0 : xw) : Nat → Nat → xw × Int32 × Int32 → xw × Int32 × Int32
  | 0, _, s => s
  | t + 1, i, s => plT q n W0 t (i + 1) (st1 q n (sp_ix W0 (1962 + 3 * i) - 24) (sp_ix W0 (1962 + 3 * i + 1)) (sp_ix W0 (1962 + 3 * i + 2)) s)
def wsN (W0 : xw) : Nat → Nat → Nat
  | 0, _ => 0
  | t + 1, i => (if sp_ix W0 (1962 + 3 * i) = 24 then sp_ix W0 (1962 + 3 * i + 1) else 0) + wsN W0 t (i + 1)
/-- a step of the plan, as the model has it -/
def plM (W0 : xw) (i : Nat) : Prop := ∃ d a p : Nat, d < 8 ∧ a ≤ plb d ∧ p ≤ 13 ∧ W0 (1962 + 3 * i) = nI (24 + d) ∧ W0 (1962 + 3 * i + 1) = nI a ∧ W0 (1962 + 3 * i + 2) = nI p ∧ sp_ix W0 (1962 + 3 * i) = 24 + d ∧ sp_ix W0 (1962 + 3 * i + 1) = a ∧ sp_ix W0 (1962 + 3 * i + 2) = p
section xk_pl
variable {q : Bool} {n ns x d a p : Nat} {W W0 : xw} {s : xw × Int32 × Int32}
theorem fr_eq {b fr : Nat} (ho : ok n ns W) (hf : fr < n) (e : W (30 + fr) = nI b) : ∀ c, fr < c → c ≤ n → frN W b c = fr := by
  intro c
  induction c with
  | zero => intro h; omega
  | succ c ih =>
    intro h1 h2
    rw [frN]
    by_cases h : W (30 + c) = nI b
    · rw [if_pos h]
      exact ho.2.2.2.1.2 c fr (by omega) hf (h.trans e.symm)
    · rw [if_neg h]
      exact ih (by rcases Nat.lt_or_ge fr c with z | z; exact z; exact absurd (by rw [show c = fr by omega]; exact e) h) (by omega)
theorem fr_lt {b : Nat} (ho : ok n ns W) (hb : b < n) : ∃ fr, fr < n ∧ W (30 + fr) = nI b := by
  obtain ⟨h1, h2⟩ := ho.2.2.2.1
  have n14 := ho.1.2.1
  obtain ⟨f, hf⟩ : ∃ f : Nat → Nat, ∀ i, i < n → f i < n ∧ W (30 + i) = nI (f i) := ⟨fun i => sp_ix W (30 + i), fun i hi => by
    obtain ⟨b, hb, eb⟩ := h1 i hi
    have : sp_ix W (30 + i) = b := xk_ix eb (by omega)
    show sp_ix W (30 + i) < n ∧ W (30 + i) = nI (sp_ix W (30 + i))
    rw [this]; exact ⟨hb, eb⟩⟩
  obtain ⟨i, hi, e⟩ := inj_sur n f (fun i hi => (hf i hi).1) (fun i j hi hj e => h2 i j hi hj (by rw [(hf i hi).2, (hf j hj).2, e])) b hb
  exact ⟨i, hi, by rw [(hf i hi).2, e]⟩
theorem mx_99 : ∀ k, k < 100 → ∀ a, a < 100 → xq_max (nI 0) (nI k - nI a) = nI (k - a) := by decide +kernel
theorem rk_p {fr pl p : Nat} (h : ¬ (30 ≤ p ∧ p < 30 + n)) : rkW n fr pl W p = W p := by rw [rkW, if_neg h]
theorem stW_ok (ho : ok n ns W) (hd : 1 ≤ d) (hd8 : d < 8) (ha : a ≤ plb d) : ok n ns (stW n d a p W) ∧ ∀ p', p' < 10 ∨ 50 ≤ p' → stW n d a p W p' = W p' := by
  have n14 := ho.1.2.1
  have : d = 1 ∨ d = 2 ∨ d = 3 ∨ d = 4 ∨ d = 5 ∨ d = 6 ∨ d = 7 := by omega
  obtain ⟨k, hk, ek⟩ := ok_tl ho (i := 0) (by omega)
  have hk : k ≤ 99 := hk
  have ek : W 10 = nI k := ek
  rcases this with e | e | e | e | e | e | e <;> subst e
  · show ok n ns (if a < n ∧ p < n then rkW n (frN W a n) p W else W) ∧ ∀ p', p' < 10 ∨ 50 ≤ p' → (if a < n ∧ p < n then rkW n (frN W a n) p W else W) p' = W p'
    by_cases h : a < n ∧ p < n
    · rw [if_pos h]
      obtain ⟨fr, hf, ef⟩ := fr_lt ho h.1
      rw [fr_eq ho hf ef n hf (Nat.le_refl _)]
      exact ⟨ok_rk ho hf h.2, fun p' hp' => rk_p (by omega)⟩
    · rw [if_neg h]; exact ⟨ho, fun _ _ => rfl⟩
  · have ha : a ≤ 99 := ha
    show ok n ns (upd W 10 (xq_min (nI 99) (W 10 + nI a))) ∧ ∀ p', p' < 10 ∨ 50 ≤ p' → upd W 10 (xq_min (nI 99) (W 10 + nI a)) p' = W p'
    rw [ek, nI_add, xn_min (by omega) (by omega)]
    exact ⟨ok_told (i := 0) ho (by omega) (show min 99 (k + a) ≤ 99 by omega), fun p' hp' => upd_ne (by omega)⟩
  · have ha : a ≤ 99 := ha
    show ok n ns (upd W 10 (xq_max (nI 0) (W 10 - nI a))) ∧ ∀ p', p' < 10 ∨ 50 ≤ p' → upd W 10 (xq_max (nI 0) (W 10 - nI a)) p' = W p'
    rw [ek, mx_99 k (by omega) a (by omega)]
    exact ⟨ok_told (i := 0) ho (by omega) (show k - a ≤ 99 by omega), fun p' hp' => upd_ne (by omega)⟩
  · have ha : a ≤ 3 := ha
    exact ⟨ok_open ho (by omega) (by omega), fun p' hp' => upd_ne (by omega)⟩
  · have ha : a ≤ 3 := ha
    exact ⟨ok_open ho (by omega) (by omega), fun p' hp' => upd_ne (by omega)⟩
  · have ha : a ≤ 9 := ha
    exact ⟨ok_told (i := 3) ho (by omega) ha, fun p' hp' => upd_ne (by omega)⟩
  · have ha : a ≤ 9 := ha
    exact ⟨ok_told (i := 4) ho (by omega) ha, fun p' hp' => upd_ne (by omega)⟩
/-- what a step keeps -/
def stK (n ns x w : Nat) (W W' : xw) : Prop := ok n ns W' ∧ W' 2 = nI (x + w) ∧ (bkw W → bkw W') ∧ ∀ p, 1075 ≤ p → W' p = W p
theorem wkT_K : ∀ (t : Nat) (s : xw × Int32 × Int32) (x : Nat), ok n ns s.1 → s.1 2 = nI x → x + t ≤ 20000 → stK n ns x t s.1 (wkT q n t s).1 := by
  intro t
  induction t with
  | zero => intro s x ho e h; exact ⟨ho, e, id, fun _ _ => rfl⟩
  | succ t ih =>
    intro s x ho e h
    have o1 : ok n ns (wk1 q n s).1 := ok_sweek ho (show x < 20000 by omega) e
    obtain ⟨a1, a2, a3, a4⟩ := ih (wk1 q n s) (x + 1) o1 (by show (sp_week q (Int32.ofInt (-1)) n s.1).1 2 = _; rw [wk_week ho, e, nI_add]) (by omega)
    refine ⟨a1, by rw [show x + (t + 1) = x + 1 + t by omega]; exact a2, fun z => a3 ((bme_week ho).2 z), fun p hp => (a4 p hp).trans (stp_week ho (by unfold stp; omega))⟩
theorem st1_K (ho : ok n ns s.1) (e : s.1 2 = nI x) (h : x + 60 ≤ 20000) (hd8 : d < 8) (ha : a ≤ plb d) : stK n ns x (if d = 0 then a else 0) s.1 (st1 q n d a p s).1 := by
  unfold st1
  by_cases h0 : d = 0
  · subst h0
    rw [if_pos rfl, if_pos rfl]
    have ha : a ≤ 60 := ha
    exact wkT_K a s x ho e (by omega)
  · rw [if_neg h0, if_neg h0]
    obtain ⟨k1, k2⟩ := stW_ok (p := p) ho (by omega) hd8 ha
    exact ⟨k1, (k2 2 (by omega)).trans e, fun z => bkw_fr ho.2.1 z (k2 6 (by omega)) (fun p' h1 h2 => k2 p' (by omega)), fun p' hp' => k2 p' (by omega)⟩
theorem plT_K : ∀ (t i : Nat) (s : xw × Int32 × Int32) (x : Nat), ok n ns s.1 → s.1 2 = nI x → x + 60 * t ≤ 20000 → (∀ j, i ≤ j → j < i + t → plM W0 j) → stK n ns x (wsN W0 t i) s.1 (plT q n W0 t i s).1 := by
  intro t
  induction t with
  | zero => intro i s x ho e h hp; exact ⟨ho, e, id, fun _ _ => rfl⟩
  | succ t ih =>
    intro i s x ho e h hp
    obtain ⟨d, a, p, hd, ha, hp13, -, -, -, e1, e2, e3⟩ := hp i (Nat.le_refl _) (by omega)
    rw [plT, wsN, e1, e2, e3, show 24 + d - 24 = d by omega]
    obtain ⟨b1, b2, b3, b4⟩ := st1_K (q := q) (p := p) ho e (by omega) hd ha
    have w : (if d = 0 then a else 0) ≤ 60 := by
      split
      · rename_i z; subst z; exact ha
      · omega
    obtain ⟨a1, a2, a3, a4⟩ := ih (i + 1) (st1 q n d a p s) (x + (if d = 0 then a else 0)) b1 b2 (by omega) (fun j j1 j2 => hp j (by omega) (by omega))
    have ew : (if 24 + d = 24 then a else 0) = (if d = 0 then a else 0) := by
      by_cases z : d = 0
      · rw [if_pos z, if_pos (by omega)]
      · rw [if_neg z, if_neg (by omega)]
    refine ⟨a1, ?_, fun z => a3 (b3 z), fun p' hp' => (a4 p' hp').trans (b4 p' hp')⟩
    rw [ew, ← Nat.add_assoc]; exact a2
end xk_pl
