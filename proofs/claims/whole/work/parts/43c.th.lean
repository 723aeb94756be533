/-! the model lays aside, thinks, puts back -/
def thw (W : xw) : Prop := ∃ k, k ≤ 19000 ∧ W 2 = nI k
section xk_th
variable {d : Nat} {g : xq_V} {J : Nat → Nat → Int64} {I : Nat → Nat → Int32} {Q : Option Value → xq_S → Prop} {n ns : Nat} {A W P F N Y X B : xw}
theorem xl_252_2 : ∀ (c i : Nat) (Y : xw), i + c = 250 → (∀ j, j < i → Y j = W j) → (∀ Y' : xw, (∀ p, p < 250 → Y' p = W p) → Q none (xq_s g J (xt I A (upd W 6 (nI 200)) P F N Y' X B))) → xq_wp d 252 (xq_s g J (xt I A W P F N Y X B)) 2 [.ref 126, .int (nI i)] [] Q := by
  intro c
  induction c with
  | zero => intro i Y e h hp; exact xu_252 ⟨by omega, fun z => by omega, fun _ => hp Y (fun p hp' => h p (by omega))⟩
  | succ c ih =>
    intro i Y e h hp
    refine xu_252 ⟨by omega, fun _ => ⟨by omega, ih (i + 1) _ (by omega) (fun j hj => ?_) hp⟩, fun z => by omega⟩
    by_cases ej : j = i
    · subst ej; exact upd_eq
    · rw [upd_ne ej]; exact h j (by omega)
theorem xl_252 (hp : ∀ Y' : xw, (∀ p, p < 250 → Y' p = W p) → Q none (xq_s g J (xt I A (upd W 6 (nI 200)) P F N Y' X B))) : xq_wp d 252 (xq_s g J (xt I A W P F N Y X B)) 0 [.ref 126, xq_un] [] Q :=
  xq_wp.go (k := 2) (fun F => rfl) (xl_252_2 250 0 Y (by omega) (fun j hj => by omega) hp)
theorem xl_254_2 {Wo : xw} (hY : ∀ p, p < 250 → Y p = Wo p) (hp : Q none (xq_s g J (xt I A Wo P F N Y X B))) : ∀ (c i : Nat) (W : xw), i + c = 250 → (∀ j, j < i → W j = Wo j) → (∀ j, 250 ≤ j → W j = Wo j) → xq_wp d 254 (xq_s g J (xt I A W P F N Y X B)) 2 [.ref 126, .int (nI i)] [] Q := by
  intro c
  induction c with
  | zero =>
    intro i W e h h2
    have : W = Wo := funext (fun j => by rcases Nat.lt_or_ge j 250 with z | z; exact h j (by omega); exact h2 j z)
    subst this
    exact xu_254 ⟨by omega, fun z => by omega, fun _ => hp⟩
  | succ c ih =>
    intro i W e h h2
    refine xu_254 ⟨by omega, fun _ => ⟨by omega, ih (i + 1) _ (by omega) (fun j hj => ?_) (fun j hj => by rw [upd_ne (by omega)]; exact h2 j hj)⟩, fun z => by omega⟩
    by_cases ej : j = i
    · subst ej; rw [upd_eq]; exact hY j (by omega)
    · rw [upd_ne ej]; exact h j (by omega)
theorem xl_254 {Wo : xw} (hY : ∀ p, p < 250 → Y p = Wo p) (hW : ∀ p, 250 ≤ p → W p = Wo p) (hp : Q none (xq_s g J (xt I A Wo P F N Y X B))) : xq_wp d 254 (xq_s g J (xt I A W P F N Y X B)) 0 [.ref 126, xq_un] [] Q :=
  xq_wp.go (k := 2) (fun F => rfl) (xl_254_2 hY hp 250 0 W (by omega) (fun j hj => by omega) hW)
theorem th_wk {bar : Int32} {k : Nat} (ho : ok n ns W) (ek : W 2 = nI k) : (sp_week false bar n W).1 2 = nI (k + 1) := by rw [wk_week ho, ek, nI_add]
theorem A29 {A : xw} {b v : Int32} (h : A 29 = Int32.ofInt (-1)) : upd (upd (upd A 29 b) 30 v) 29 (Int32.ofInt (-1)) = upd A 30 v := by
  funext j
  by_cases e : j = 29
  · subst e; rw [upd_eq, upd_ne (by omega), h]
  · rw [upd_ne e]
    by_cases e2 : j = 30
    · subst e2; rw [upd_eq, upd_eq]
    · rw [upd_ne e2, upd_ne e, upd_ne e2]
theorem A29b {A : xw} {b v u : Int32} : upd (upd (upd (upd A 29 b) 30 v) 29 u) 30 v = upd (upd A 29 u) 30 v := by
  funext j
  by_cases e2 : j = 30
  · subst e2; rw [upd_eq, upd_eq]
  · rw [upd_ne e2, upd_ne e2]
    by_cases e : j = 29
    · subst e; rw [upd_eq, upd_eq]
    · rw [upd_ne e, upd_ne e2, upd_ne e, upd_ne e]
theorem xl_253_39 {blk : Int32} {idle : Nat} (hid : idle < 1000) (A0 : xw) (h29 : A0 29 = Int32.ofInt (-1)) : ∀ (c k kw : Nat) (A W P F N : xw), ok n ns W → W 6 = nI 200 → W 2 = nI kw → kw + c ≤ 19500 → k + c = 300 → (∀ j, ¬ j = 29 → ¬ j = 30 → A j = A0 j) → (∀ (v' : Int32) (P' F' N' W' : xw), (∀ p, 250 ≤ p → W' p = W p) → Q (some (.int (th_it n blk idle c k W))) (xq_s g J (xt I (upd A0 30 v') W' P' F' N' Y X B))) → xq_wp (d + 7) 253 (xq_s g J (xt I A W P F N Y X B)) 39 [.ref 126, .int blk, .int (nI idle), .int (nI k)] [] Q := by
  have eA : ∀ (A : xw) (v : Int32), (∀ j, ¬ j = 29 → ¬ j = 30 → A j = A0 j) → upd (upd A 30 v) 29 (Int32.ofInt (-1)) = upd A0 30 v := by
    intro A v h
    funext j
    by_cases e : j = 29
    · subst e; rw [upd_eq, upd_ne (by omega), h29]
    · rw [upd_ne e]
      by_cases e2 : j = 30
      · subst e2; rw [upd_eq, upd_eq]
      · rw [upd_ne e2, upd_ne e2]; exact h j e e2
  intro c
  induction c with
  | zero =>
    intro k kw A W P F N ho h6 ek hk e hA hp
    refine xu_253_39 (n := n) (ns := ns) ⟨by omega, fun z => by omega, fun _ => ?_⟩
    have := hp (A 30) P F N W (fun _ _ => rfl)
    rw [← eA A (A 30) hA, upd_self] at this
    exact this
  | succ c ih =>
    intro k kw A W P F N ho h6 ek hk e hA hp
    have hn := ok_n ho
    have step : ∀ (bar : Int32), bar = (if k < idle then blk else Int32.ofInt (-1)) → ok n ns W ∧ ∀ (v' : Int32) (P' F' N' : xw), (sp_week false ((upd A 29 bar) 29) n W).1 0 = nI n ∧ n ≤ 14 ∧ ((sp_lmany (sp_week false ((upd A 29 bar) 29) n W).1 n 0 (nI 0) < (sp_week false ((upd A 29 bar) 29) n W).1 0 → xq_wp (d + 7) 253 (xq_s g J (xt I (upd (upd A 29 bar) 30 v') (sp_week false ((upd A 29 bar) 29) n W).1 P' F' N' Y X B)) 39 [.ref 126, .int blk, .int (nI idle), .int (nI (k + 1))] [] Q) ∧ (¬ sp_lmany (sp_week false ((upd A 29 bar) 29) n W).1 n 0 (nI 0) < (sp_week false ((upd A 29 bar) 29) n W).1 0 → Q (some (.int ((sp_week false ((upd A 29 bar) 29) n W).1 2 - nI 1))) (xq_s g J (xt I (upd (upd (upd A 29 bar) 30 v') 29 (Int32.ofInt (-1))) (sp_week false ((upd A 29 bar) 29) n W).1 P' F' N' Y X B)))) := by
      intro bar eb
      refine ⟨ho, fun v' P' F' N' => ?_⟩
      rw [upd_eq]
      have how := ok_sweek (truly := false) (bar := bar) ho (show kw < 20000 by omega) ek
      have ew := th_wk (bar := bar) ho ek
      have lm := lmN_le (W := (sp_week false bar n W).1) n
      simp only [th_it, ← eb] at hp
      refine ⟨(ok_n how).1, hn.2, fun z => ?_, fun z => ?_⟩
      · rw [lmany_N, (ok_n how).1, xn_lt (by omega) (by omega)] at z
        rw [if_neg (by omega)] at hp
        refine ih (k + 1) (kw + 1) _ _ _ _ _ how (bkf_week ho h6).1 ew (by omega) (by omega) (fun j j1 j2 => by rw [upd_ne j2, upd_ne j1]; exact hA j j1 j2) (fun v1 P1 F1 N1 W1 hW1 => hp v1 P1 F1 N1 W1 (fun p hp' => ?_))
        rw [hW1 p hp', th_hi ho h6 p (by omega)]
      · rw [lmany_N, (ok_n how).1, xn_lt (by omega) (by omega)] at z
        rw [if_pos (by omega)] at hp
        have := hp v' P' F' N' (sp_week false bar n W).1 (fun p hp' => th_hi ho h6 p (by omega))
        rw [ew, pk_sub (by omega), show kw + 1 - 1 = kw by omega, ← ek]
        rw [eA (upd A 29 bar) v' (fun j j1 j2 => by rw [upd_ne j1]; exact hA j j1 j2)]
        exact this
    refine xu_253_39 (n := n) (ns := ns) ⟨by omega, fun _ => ⟨by omega, fun z => step blk (by rw [if_pos z]), fun z => step _ (by rw [if_neg z])⟩, fun z => by omega⟩
theorem xl_253 {blk : Int32} {idle : Nat} (ho : ok n ns W) (h29 : A 29 = Int32.ofInt (-1)) (h6 : W 6 = nI 200) (hw : thw W) (hid : idle < 1000) (hp : ∀ (v' : Int32) (P' F' N' W' : xw), (∀ p, 250 ≤ p → W' p = W p) → Q (some (.int (th_close n blk idle W))) (xq_s g J (xt I (upd A 30 v') W' P' F' N' Y X B))) : xq_wp (d + 7) 253 (xq_s g J (xt I A W P F N Y X B)) 0 [.ref 126, .int blk, .int (nI idle), xq_un] [] Q := by
  have hn := ok_n ho
  obtain ⟨kw, hk, ek⟩ := hw
  have lm := lmN_le (W := W) n
  unfold th_close at hp
  refine xu_253 (d := d + 5) (n := n) (ns := ns) ⟨fun z => ?_, fun z => ⟨hn.1, hn.2, fun z2 => ?_, fun z2 => ?_⟩⟩
  · rw [hn.1, xn_eq (by omega) (by omega)] at z
    have := hp (A 30) P F N W (fun _ _ => rfl)
    rw [upd_self, if_pos z] at this
    exact this
  · rw [hn.1, xn_eq (by omega) (by omega)] at z
    rw [lmany_N, hn.1, xn_eq (by omega) (by omega)] at z2
    have := hp (A 30) P F N W (fun _ _ => rfl)
    rw [upd_self, if_neg z, if_pos z2] at this
    exact this
  · rw [hn.1, xn_eq (by omega) (by omega)] at z
    rw [lmany_N, hn.1, xn_eq (by omega) (by omega)] at z2
    simp only [if_neg z, if_neg z2] at hp
    exact xl_253_39 (d := d) hid A h29 300 0 kw A W P F N ho h6 ek (by omega) (by omega) (fun _ _ _ => rfl) hp
/-- 0 idle weeks: nobody waits -/
theorem th_it0 {blk : Int32} : ∀ (c k : Nat) (W : xw), th_it n blk 0 c k W = th_it n (Int32.ofInt (-1)) 0 c k W
  | 0, _, _ => rfl
  | c + 1, k, W => by
    simp only [th_it, Nat.not_lt_zero, if_false]
    rw [th_it0 c (k + 1)]
theorem th_close0 {blk : Int32} : th_close n blk 0 W = th_close n (Int32.ofInt (-1)) 0 W := by
  unfold th_close
  rw [th_it0]
/-- what it answers: none, or a week -/
theorem th_it_val {blk : Int32} {idle : Nat} : ∀ (c k kw : Nat) (W : xw), ok n ns W → W 2 = nI kw → kw + c ≤ 19500 → th_it n blk idle c k W = Int32.ofInt (-1) ∨ ∃ j, j < c ∧ th_it n blk idle c k W = nI (kw + j)
  | 0, _, _, _, _, _, _ => Or.inl rfl
  | c + 1, k, kw, W, ho, ek, hk => by
    simp only [th_it]
    generalize (if k < idle then blk else Int32.ofInt (-1)) = bar
    split
    · exact Or.inr ⟨0, by omega, ek⟩
    · have how := ok_sweek (truly := false) (bar := bar) ho (show kw < 20000 by omega) ek
      rcases th_it_val (blk := blk) (idle := idle) c (k + 1) (kw + 1) _ how (th_wk ho ek) (by omega) with h | ⟨j, hj, e⟩
      · exact Or.inl h
      · exact Or.inr ⟨j + 1, by omega, by rw [e]; congr 1; omega⟩
theorem th_close_val {blk : Int32} {idle : Nat} (ho : ok n ns W) (hw : thw W) : th_close n blk idle W = Int32.ofInt (-1) ∨ ∃ j, j ≤ 19500 ∧ th_close n blk idle W = nI j := by
  obtain ⟨kw, hk, ek⟩ := hw
  unfold th_close
  split
  · exact Or.inl rfl
  · split
    · right
      rw [ek, show xq_max (nI 0) (nI kw - nI 1) = nI (kw - 1) from xn_msub (by omega) (by omega)]
      exact ⟨kw - 1, by omega, rfl⟩
    · rcases th_it_val (blk := blk) (idle := idle) 300 0 kw W ho ek (by omega) with h | ⟨j, hj, e⟩
      · exact Or.inl h
      · exact Or.inr ⟨kw + j, by omega, e⟩
end xk_th
