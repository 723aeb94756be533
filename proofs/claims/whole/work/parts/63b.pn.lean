/-! text: A PLAN -/
abbrev PA : Type := Nat × (Nat → Nat × Nat × Nat)
def pw (p : PA) (s : Nat × Nat × Nat) : PA := (p.1 + 1, fun q => if q = p.1 then s else p.2 q)
/-- what again does: r times what came behind fr -/
def prp (fr r : Nat) (p : PA) : PA := (fr + (p.1 - fr) * r, fun q => if q < p.1 then p.2 q else p.2 (fr + (q - fr) % (p.1 - fr)))
def plo (w : Nat) : Nat := [1, 0, 1, 1, 0, 0, 0, 0].getD w 0
def stS (tc vl : Nat → Nat) (i : Nat) : (Nat × Nat) ⊕ (Nat × (Nat × Nat × Nat)) := if ¬ tc (i + 1) = 2 then .inl (1, i + 1) else if ¬ (plo (tc i - 24) ≤ vl (i + 1) ∧ vl (i + 1) ≤ plb (tc i - 24)) then .inl (2, i + 1) else if tc i = 25 then (if ¬ tc (i + 1 + 1) = 33 then .inl (1, i + 1 + 1) else if ¬ tc (i + 1 + 1 + 1) = 2 then .inl (1, i + 1 + 1 + 1) else if ¬ vl (i + 1 + 1 + 1) ≤ 13 then .inl (2, i + 1 + 1 + 1) else if ¬ tc (i + 1 + 1 + 1 + 1) = 159 then .inl (1, i + 1 + 1 + 1 + 1) else .inr (i + 1 + 1 + 1 + 1 + 1, (1, vl (i + 1), vl (i + 1 + 1 + 1)))) else if ¬ tc (i + 1 + 1) = 159 then .inl (1, i + 1 + 1) else .inr (i + 1 + 1 + 1, (tc i - 24, vl (i + 1), 0))
def psL (tc vl : Nat → Nat) (ag : Nat → PA → Option ((Nat × Nat) ⊕ (Nat × PA))) : Nat → Nat → PA → Option ((Nat × Nat) ⊕ (Nat × PA))
  | 0, _, _ => none
  | f + 1, i, p => if 24 ≤ tc i ∧ tc i ≤ 31 then (match stS tc vl i with
      | .inl e => some (.inl e)
      | .inr (j, s) => psL tc vl ag f j (pw p s)) else if tc i = 32 then (match ag i p with
      | none => none
      | some (.inl e) => some (.inl e)
      | some (.inr (j, p')) => psL tc vl ag f j p') else some (.inr (i, p))
def pF : Nat := 402
theorem pF_e : pF = 402 := rfl
def agS (tc vl : Nat → Nat) : Nat → Nat → PA → Option ((Nat × Nat) ⊕ (Nat × PA))
  | 0 => fun i _ => some (.inl (3, i))
  | k + 1 => fun i p => if ¬ tc (i + 1) = 2 then some (.inl (1, i + 1)) else if ¬ (1 ≤ vl (i + 1) ∧ vl (i + 1) ≤ 9) then some (.inl (2, i + 1)) else if ¬ tc (i + 1 + 1) = 140 then some (.inl (1, i + 1 + 1)) else match psL tc vl (agS tc vl k) pF (i + 1 + 1 + 1) p with
    | none => none
    | some (.inl e) => some (.inl e)
    | some (.inr (j, p')) => if tc j = 141 then some (.inr (j + 1, prp p.1 (vl (i + 1)) p')) else some (.inl (1, j))
/-- the steps that were read are what may be told -/
def pV (s : Nat × Nat × Nat) : Prop := s.1 < 8 ∧ s.2.1 ≤ plb s.1 ∧ s.2.2 ≤ 13
def pK (p : PA) : Prop := ∀ q, q < p.1 → pV (p.2 q)
def pR (p : PA) (D M P : xw) : Prop := ∀ q, q < p.1 → q < 100 → D q = nI (p.2 q).1 ∧ M q = nI (p.2 q).2.1 ∧ P q = nI (p.2 q).2.2
section xk_pn
variable {tc vl : Nat → Nat} {i j k fr r q : Nat} {p : PA} {s : Nat × Nat × Nat}
theorem st_r (hw : 24 ≤ tc i ∧ tc i ≤ 31) (h : stS tc vl i = .inr (j, s)) : i < j ∧ pV s := by
  unfold stS at h
  by_cases q1 : tc (i + 1) = 2
  · rw [if_neg (fun z => z q1)] at h
    by_cases q2 : plo (tc i - 24) ≤ vl (i + 1) ∧ vl (i + 1) ≤ plb (tc i - 24)
    · rw [if_neg (fun z => z q2)] at h
      by_cases q3 : tc i = 25
      · rw [if_pos q3] at h
        by_cases q4 : tc (i + 1 + 1) = 33
        · rw [if_neg (fun z => z q4)] at h
          by_cases q5 : tc (i + 1 + 1 + 1) = 2
          · rw [if_neg (fun z => z q5)] at h
            by_cases q6 : vl (i + 1 + 1 + 1) ≤ 13
            · rw [if_neg (fun z => z q6)] at h
              by_cases q7 : tc (i + 1 + 1 + 1 + 1) = 159
              · rw [if_neg (fun z => z q7)] at h
                have h := Prod.mk.inj (Sum.inr.inj h)
                rw [← h.1, ← h.2]
                refine ⟨by omega, by show 1 < 8; omega, ?_, q6⟩
                have := q2.2
                rw [q3] at this
                exact this
              · rw [if_pos q7] at h; exact absurd h (by simp)
            · rw [if_pos q6] at h; exact absurd h (by simp)
          · rw [if_pos q5] at h; exact absurd h (by simp)
        · rw [if_pos q4] at h; exact absurd h (by simp)
      · rw [if_neg q3] at h
        by_cases q4 : tc (i + 1 + 1) = 159
        · rw [if_neg (fun z => z q4)] at h
          have h := Prod.mk.inj (Sum.inr.inj h)
          rw [← h.1, ← h.2]
          exact ⟨by omega, by show tc i - 24 < 8; omega, q2.2, by show 0 ≤ 13; omega⟩
        · rw [if_pos q4] at h; exact absurd h (by simp)
    · rw [if_pos q2] at h; exact absurd h (by simp)
  · rw [if_pos q1] at h; exact absurd h (by simp)
theorem pK_w (h : pK p) (hs : pV s) : pK (pw p s) := by
  intro q hq
  show pV (if q = p.1 then s else p.2 q)
  by_cases e : q = p.1
  · rw [if_pos e]; exact hs
  · rw [if_neg e]; exact h q (by have : q < p.1 + 1 := hq; omega)
theorem pK_r (h : pK p) (hf : fr ≤ p.1) : pK (prp fr r p) := by
  intro q hq
  show pV (if q < p.1 then p.2 q else p.2 (fr + (q - fr) % (p.1 - fr)))
  by_cases e : q < p.1
  · rw [if_pos e]; exact h q e
  · rw [if_neg e]
    have hq : q < fr + (p.1 - fr) * r := hq
    have hb : 0 < p.1 - fr := by
      rcases Nat.eq_zero_or_pos (p.1 - fr) with z | z
      · rw [z, Nat.zero_mul] at hq; omega
      · exact z
    have := Nat.mod_lt (q - fr) hb
    exact h _ (by omega)
theorem prp_per (hf : fr < p.1) (hq : p.1 ≤ q) : (prp fr r p).2 q = (prp fr r p).2 (q - (p.1 - fr)) := by
  show (if q < p.1 then p.2 q else p.2 (fr + (q - fr) % (p.1 - fr))) = (if q - (p.1 - fr) < p.1 then p.2 (q - (p.1 - fr)) else p.2 (fr + (q - (p.1 - fr) - fr) % (p.1 - fr)))
  rw [if_neg (by omega)]
  have e : (q - fr) % (p.1 - fr) = (q - (p.1 - fr) - fr) % (p.1 - fr) := by
    rw [Nat.mod_eq_sub_mod (by omega), show q - fr - (p.1 - fr) = q - (p.1 - fr) - fr by omega]
  by_cases z : q - (p.1 - fr) < p.1
  · rw [if_pos z, e, Nat.mod_eq_of_lt (by omega), show fr + (q - (p.1 - fr) - fr) = q - (p.1 - fr) by omega]
  · rw [if_neg z, e]
theorem prp_lt (hq : q < p.1) : (prp fr r p).2 q = p.2 q := by
  show (if q < p.1 then p.2 q else p.2 (fr + (q - fr) % (p.1 - fr))) = p.2 q
  rw [if_pos hq]
/-- what a reader of steps may do -/
def agB (tc : Nat → Nat) (W : Nat) (ag : Nat → PA → Option ((Nat × Nat) ⊕ (Nat × PA))) : Prop := ∀ i p j p', ag i p = some (.inr (j, p')) → pK p → i < j ∧ p.1 ≤ p'.1 ∧ p'.1 ≤ p.1 + (j - i) * W ∧ pK p'
theorem ps_B {ag : Nat → PA → Option ((Nat × Nat) ⊕ (Nat × PA))} {W : Nat} (hW : 1 ≤ W) (hA : agB tc W ag) : ∀ (f i : Nat) (p : PA) (j : Nat) (p' : PA), psL tc vl ag f i p = some (.inr (j, p')) → pK p → i ≤ j ∧ p.1 ≤ p'.1 ∧ p'.1 ≤ p.1 + (j - i) * W ∧ pK p' := by
  intro f
  induction f with
  | zero => intro i p j p' h; exact absurd h (by simp [psL])
  | succ f ih =>
    intro i p j p' h hK
    rw [psL] at h
    by_cases q1 : 24 ≤ tc i ∧ tc i ≤ 31
    · rw [if_pos q1] at h
      rcases e : stS tc vl i with e' | ⟨j1, s⟩
      · rw [e] at h; exact absurd h (by simp)
      · rw [e] at h
        dsimp only at h
        obtain ⟨s1, s2⟩ := st_r q1 e
        obtain ⟨a1, a2, a3, a4⟩ := ih _ _ _ _ h (pK_w hK s2)
        have a2 : p.1 + 1 ≤ p'.1 := a2
        have a3 : p'.1 ≤ p.1 + 1 + (j - j1) * W := a3
        have m := Nat.mul_le_mul_right W (show j - j1 + 1 ≤ j - i by omega)
        rw [Nat.add_mul, Nat.one_mul] at m
        exact ⟨by omega, by omega, by omega, a4⟩
    · rw [if_neg q1] at h
      by_cases q2 : tc i = 32
      · rw [if_pos q2] at h
        rcases e : ag i p with _ | e' | ⟨j1, p1⟩
        · rw [e] at h; exact absurd h (by simp)
        · rw [e] at h; exact absurd h (by simp)
        · rw [e] at h
          dsimp only at h
          obtain ⟨s1, s2, s3, s4⟩ := hA _ _ _ _ e hK
          obtain ⟨a1, a2, a3, a4⟩ := ih _ _ _ _ h s4
          have m := Nat.mul_le_mul_right W (show (j - j1) + (j1 - i) ≤ j - i by omega)
          rw [Nat.add_mul] at m
          exact ⟨by omega, by omega, by omega, a4⟩
      · rw [if_neg q2] at h
        have h := Prod.mk.inj (Sum.inr.inj (Option.some.inj h))
        rw [← h.1, ← h.2]
        exact ⟨Nat.le_refl _, Nat.le_refl _, Nat.le_add_right _ _, hK⟩
theorem ag_B : ∀ k, agB tc (9 ^ k) (agS tc vl k) := by
  intro k
  induction k with
  | zero => intro i p j p' h; exact absurd h (by simp [agS])
  | succ k ih =>
    intro i p j p' h hK
    unfold agS at h
    by_cases q1 : tc (i + 1) = 2
    · rw [if_neg (fun z => z q1)] at h
      by_cases q2 : 1 ≤ vl (i + 1) ∧ vl (i + 1) ≤ 9
      · rw [if_neg (fun z => z q2)] at h
        by_cases q3 : tc (i + 1 + 1) = 140
        · rw [if_neg (fun z => z q3)] at h
          rcases e : psL tc vl (agS tc vl k) pF (i + 1 + 1 + 1) p with _ | e' | ⟨j1, p1⟩
          · rw [e] at h; exact absurd h (by simp)
          · rw [e] at h; exact absurd h (by simp)
          · rw [e] at h
            dsimp only at h
            obtain ⟨a1, a2, a3, a4⟩ := ps_B (Nat.one_le_pow k 9 (by omega)) ih _ _ _ _ _ e hK
            by_cases q4 : tc j1 = 141
            · rw [if_pos q4] at h
              have h := Prod.mk.inj (Sum.inr.inj (Option.some.inj h))
              rw [← h.1, ← h.2]
              have m1 : (p1.1 - p.1) * vl (i + 1) ≤ (p1.1 - p.1) * 9 := Nat.mul_le_mul_left _ q2.2
              have m2 : (p1.1 - p.1) * 9 ≤ (j1 - (i + 1 + 1 + 1)) * 9 ^ k * 9 := Nat.mul_le_mul_right 9 (by omega)
              have m3 : (j1 - (i + 1 + 1 + 1)) * 9 ^ (k + 1) ≤ (j1 + 1 - i) * 9 ^ (k + 1) := Nat.mul_le_mul_right _ (by omega)
              have m4 : (p1.1 - p.1) * 1 ≤ (p1.1 - p.1) * vl (i + 1) := Nat.mul_le_mul_left _ q2.1
              rw [Nat.pow_succ, ← Nat.mul_assoc] at m3
              refine ⟨by omega, by show p.1 ≤ p.1 + (p1.1 - p.1) * vl (i + 1); omega, ?_, pK_r a4 a2⟩
              show p.1 + (p1.1 - p.1) * vl (i + 1) ≤ p.1 + (j1 + 1 - i) * 9 ^ (k + 1)
              rw [Nat.pow_succ]
              omega
            · rw [if_neg q4] at h; exact absurd h (by simp)
        · rw [if_pos q3] at h; exact absurd h (by simp)
      · rw [if_pos q2] at h; exact absurd h (by simp)
    · rw [if_pos q1] at h; exact absurd h (by simp)
theorem ag_b (hk : k ≤ 4) {p' : PA} (h : agS tc vl k i p = some (.inr (j, p'))) (hK : pK p) (hl : p.1 ≤ i * 6561) : i < j ∧ p.1 ≤ p'.1 ∧ p'.1 ≤ j * 6561 ∧ pK p' := by
  obtain ⟨a1, a2, a3, a4⟩ := ag_B k i p j p' h hK
  have m : (j - i) * 9 ^ k ≤ (j - i) * 9 ^ 4 := Nat.mul_le_mul_left _ (Nat.pow_le_pow_right (by omega) hk)
  exact ⟨a1, a2, by omega, a4⟩
theorem ps_b {f : Nat} (hk : k ≤ 4) {p' : PA} (h : psL tc vl (agS tc vl k) f i p = some (.inr (j, p'))) (hK : pK p) (hl : p.1 ≤ i * 6561) : i ≤ j ∧ p.1 ≤ p'.1 ∧ p'.1 ≤ j * 6561 ∧ pK p' := by
  obtain ⟨a1, a2, a3, a4⟩ := ps_B (Nat.one_le_pow k 9 (by omega)) (ag_B k) f i p j p' h hK
  have m : (j - i) * 9 ^ k ≤ (j - i) * 9 ^ 4 := Nat.mul_le_mul_left _ (Nat.pow_le_pow_right (by omega) hk)
  exact ⟨a1, a2, by omega, a4⟩
end xk_pn
section yk_pn
variable {d : Nat} {g : xq_V} {J : Nat → Nat → Int64} {I X : Nat → xw} {Q : Option Value → xq_S → Prop} {t i j k o : Nat} {tc vl ss : Nat → Nat} {p : PA}
theorem pR_w {D M P : xw} {s : Nat × Nat × Nat} (h : pR p D M P) : pR (pw p s) (upd D p.1 (nI s.1)) (upd M p.1 (nI s.2.1)) (upd P p.1 (nI s.2.2)) := by
  intro q h1 h2
  show upd D p.1 (nI s.1) q = nI (if q = p.1 then s else p.2 q).1 ∧ upd M p.1 (nI s.2.1) q = nI (if q = p.1 then s else p.2 q).2.1 ∧ upd P p.1 (nI s.2.2) q = nI (if q = p.1 then s else p.2 q).2.2
  by_cases e : q = p.1
  · subst e; rw [upd_eq, upd_eq, upd_eq, if_pos rfl]; exact ⟨rfl, rfl, rfl⟩
  · rw [upd_ne e, upd_ne e, upd_ne e, if_neg e]; exact h q (by have h1 : q < p.1 + 1 := h1; omega) h2
theorem pR_w0 {D M P : xw} {s : Nat × Nat × Nat} (h : pR p D M P) (hn : ¬ p.1 < 100) : pR (pw p s) D M P := by
  intro q h1 h2
  show D q = nI (if q = p.1 then s else p.2 q).1 ∧ M q = nI (if q = p.1 then s else p.2 q).2.1 ∧ P q = nI (if q = p.1 then s else p.2 q).2.2
  rw [if_neg (by omega)]; exact h q (by have h1 : q < p.1 + 1 := h1; omega) h2
theorem yl_64_79 {w a b : Nat} (hT : cT 3 I t tc vl ss) (hi : i ≤ t) (hF : gF I X) (hp : p.1 < 100000000) (h0 : X 122 0 = nI p.1) (hR : pR p (X 123) (X 124) (X 125)) (bad : ¬ tc i = 159 → ∀ (Y : Nat → xw) (j' : Nat), gF I Y → Q (some (.int (nI 0))) (xq_s g J (rs (xq_w (xq_w Y 104 8 (nI 1)) 104 9 (nI (ss i))) j'))) (good : tc i = 159 → ∀ Y : Nat → xw, gF I Y → Y 122 0 = nI (pw p (w, a, b)).1 → pR (pw p (w, a, b)) (Y 123) (Y 124) (Y 125) → Q (some (.int (nI 1))) (xq_s g J (rs Y (i + 1)))) : xq_wp (d + 2) 64 (xq_s g J (rs X i)) 79 [.ref 122, .ref 104, .int (nI w), .int (nI a), .int (nI b)] [] Q := by
  have hF1 : gF I (xq_w X 122 0 (nI (p.1 + 1))) := gF_w hF (by omega)
  have hF4 : gF I (xq_w (xq_w (xq_w (xq_w X 123 p.1 (nI w)) 124 p.1 (nI a)) 125 p.1 (nI b)) 122 0 (nI (p.1 + 1))) := gF_w (gF_w (gF_w (gF_w hF (by omega)) (by omega)) (by omega)) (by omega)
  refine tq_64_79 (d := d) (n := p.1) (cT_gF hT hF) ⟨h0, by omega, fun z => by omega, fun _ => ⟨fun z => ⟨h0, hi, fun q => good q _ hF4 xw_v ?_, fun q => bad q _ _ hF4⟩, fun z => ⟨h0, hi, fun q => good q _ hF1 xw_v ?_, fun q => bad q _ _ hF1⟩⟩⟩
  · rw [xw_i (by omega), xw_i (by omega), xw_i (by omega), xw_row, xw_i (by omega), xw_i (by omega), xw_row, xw_i (by omega), xw_i (by omega), xw_row, xw_i (by omega), xw_i (by omega)]
    exact pR_w (s := (w, a, b)) hR
  · rw [xw_i (by omega), xw_i (by omega), xw_i (by omega)]
    exact pR_w0 hR z
theorem yl_64 (hT : cT 3 I t tc vl ss) (hi : i ≤ t) (hw : 24 ≤ tc i ∧ tc i ≤ 31) (hF : gF I X) (hp : p.1 < 100000000) (h0 : X 122 0 = nI p.1) (hR : pR p (X 123) (X 124) (X 125)) (bad : ∀ k j, stS tc vl i = .inl (k, j) → ∀ (Y : Nat → xw) (j' : Nat), gF I Y → Q (some (.int (nI 0))) (xq_s g J (rs (xq_w (xq_w Y 104 8 (nI k)) 104 9 (nI (ss j))) j'))) (good : ∀ j s, stS tc vl i = .inr (j, s) → j ≤ t → ∀ Y : Nat → xw, gF I Y → Y 122 0 = nI (pw p s).1 → pR (pw p s) (Y 123) (Y 124) (Y 125) → Q (some (.int (nI 1))) (xq_s g J (rs Y j))) : xq_wp (d + 2) 64 (xq_s g J (rs X i)) 0 [.ref 122, .ref 104, xq_un, xq_un, xq_un] [] Q := by
  have hX := cT_gF hT hF
  have n0 : ¬ tc i = 0 := by omega
  have i1 := c_lt hX hi n0
  unfold stS at bad good
  have b1 : ¬ tc (i + 1) = 2 → Q (some (.int (nI 0))) (xq_s g J (rs (xq_w (xq_w X 104 8 (nI 1)) 104 9 (nI (ss (i + 1)))) (i + 1))) := fun q => bad 1 (i + 1) (by rw [if_pos q]) X _ hF
  have b2 : tc (i + 1) = 2 → ¬ (plo (tc i - 24) ≤ vl (i + 1) ∧ vl (i + 1) ≤ plb (tc i - 24)) → Q (some (.int (nI 0))) (xq_s g J (rs (xq_w (xq_w X 104 8 (nI 2)) 104 9 (nI (ss (i + 1)))) (i + 1))) := fun q q2 => bad 2 (i + 1) (by rw [if_neg (fun z => z q), if_pos q2]) X _ hF
  have nx : ¬ tc i = 25 → tc (i + 1) = 2 → (plo (tc i - 24) ≤ vl (i + 1) ∧ vl (i + 1) ≤ plb (tc i - 24)) → ∀ w, w = tc i - 24 → xq_wp (d + 2) 64 (xq_s g J (rs X (i + 1 + 1))) 79 [.ref 122, .ref 104, .int (nI w), .int (nI (vl (i + 1))), .int (nI 0)] [] Q := fun q25 q q2 w ew => by
    rw [if_neg (fun z => z q), if_neg (fun z => z q2), if_neg q25] at bad good
    have i2 := c_lt hX i1 (show ¬ tc (i + 1) = 0 by omega)
    subst ew
    exact yl_64_79 (d := d) hT i2 hF hp h0 hR (fun q3 Y j' gY => bad 1 _ (by rw [if_pos q3]) Y j' gY) (fun q3 Y g1 g2 g3 => good _ _ (by rw [if_neg (fun z => z q3)]) (c_lt hX i2 (show ¬ tc (i + 1 + 1) = 0 by omega)) Y g1 g2 g3)
  refine tq_64 (d := d) hX ⟨hi, fun z0 => ?_, fun z0 => ⟨fun z1 => ?_, fun z1 => ⟨fun z2 => ?_, fun z2 => ⟨fun z3 => ?_, fun z3 => ⟨fun z4 => ?_, fun z4 => ⟨fun z5 => ?_, fun z5 => ⟨fun z6 => ?_, fun z6 => ⟨fun z7 => ?_, fun z7 => by omega⟩⟩⟩⟩⟩⟩⟩⟩
  · have el : plo (tc i - 24) = 1 := by rw [z0]; rfl
    have eh : plb (tc i - 24) = 60 := by rw [z0]; rfl
    rw [el, eh] at b2 nx
    exact tq_64_0 (d := d) hX ⟨n0, hi, i1, by omega, fun q => ⟨fun q2 => nx (by omega) q q2 0 (by omega), b2 q⟩, b1⟩
  · have el : plo (tc i - 24) = 0 := by rw [z1]; rfl
    have eh : plb (tc i - 24) = 13 := by rw [z1]; rfl
    rw [el, eh] at b2 bad good
    rw [if_pos z1] at bad good
    refine tq_64_1 (d := d) hX ⟨n0, hi, i1, by omega, fun q => ⟨fun q2 => ?_, b2 q⟩, b1⟩
    rw [if_neg (fun z => z q), if_neg (fun z => z q2)] at bad good
    have i2 := c_lt hX i1 (show ¬ tc (i + 1) = 0 by omega)
    refine ⟨i2, fun q3 => ?_, fun q3 => bad 1 _ (by rw [if_pos q3]) X _ hF⟩
    have i3 := c_lt hX i2 (show ¬ tc (i + 1 + 1) = 0 by omega)
    rw [if_neg (fun z => z q3)] at bad good
    refine ⟨i3, fun q4 => ⟨fun q5 => ?_, fun q5 => bad 2 _ (by rw [if_neg (fun z => z q4), if_pos (by omega)]) X _ hF⟩, fun q4 => bad 1 _ (by rw [if_pos q4]) X _ hF⟩
    rw [if_neg (fun z => z q4), if_neg (fun z => z (show vl (i + 1 + 1 + 1) ≤ 13 by omega))] at bad good
    have i4 := c_lt hX i3 (show ¬ tc (i + 1 + 1 + 1) = 0 by omega)
    exact yl_64_79 (d := d) hT i4 hF hp h0 hR (fun q3 Y j' gY => bad 1 _ (by rw [if_pos q3]) Y j' gY) (fun q3 Y g1 g2 g3 => good _ _ (by rw [if_neg (fun z => z q3)]) (c_lt hX i4 (show ¬ tc (i + 1 + 1 + 1 + 1) = 0 by omega)) Y g1 g2 g3)
  · have el : plo (tc i - 24) = 1 := by rw [z2]; rfl
    have eh : plb (tc i - 24) = 99 := by rw [z2]; rfl
    rw [el, eh] at b2 nx
    exact tq_64_2 (d := d) hX ⟨n0, hi, i1, by omega, fun q => ⟨fun q2 => nx (by omega) q q2 2 (by omega), b2 q⟩, b1⟩
  · have el : plo (tc i - 24) = 1 := by rw [z3]; rfl
    have eh : plb (tc i - 24) = 99 := by rw [z3]; rfl
    rw [el, eh] at b2 nx
    exact tq_64_3 (d := d) hX ⟨n0, hi, i1, by omega, fun q => ⟨fun q2 => nx (by omega) q q2 3 (by omega), b2 q⟩, b1⟩
  · have el : plo (tc i - 24) = 0 := by rw [z4]; rfl
    have eh : plb (tc i - 24) = 3 := by rw [z4]; rfl
    rw [el, eh] at b2 nx
    exact tq_64_4 (d := d) hX ⟨n0, hi, i1, by omega, fun q => ⟨fun q2 => nx (by omega) q q2 4 (by omega), b2 q⟩, b1⟩
  · have el : plo (tc i - 24) = 0 := by rw [z5]; rfl
    have eh : plb (tc i - 24) = 3 := by rw [z5]; rfl
    rw [el, eh] at b2 nx
    exact tq_64_5 (d := d) hX ⟨n0, hi, i1, by omega, fun q => ⟨fun q2 => nx (by omega) q q2 5 (by omega), b2 q⟩, b1⟩
  · have el : plo (tc i - 24) = 0 := by rw [z6]; rfl
    have eh : plb (tc i - 24) = 9 := by rw [z6]; rfl
    rw [el, eh] at b2 nx
    exact tq_64_6 (d := d) hX ⟨n0, hi, i1, by omega, fun q => ⟨fun q2 => nx (by omega) q q2 6 (by omega), b2 q⟩, b1⟩
  · have el : plo (tc i - 24) = 0 := by rw [z7]; rfl
    have eh : plb (tc i - 24) = 9 := by rw [z7]; rfl
    rw [el, eh] at b2 nx
    exact tq_64_7 (d := d) hX ⟨n0, hi, i1, by omega, fun q => ⟨fun q2 => nx (by omega) q q2 7 (by omega), b2 q⟩, b1⟩
theorem yl_62 {fr r : Nat} (hT : cT 3 I t tc vl ss) (hF : gF I X) (hf : fr ≤ p.1) (hb : (prp fr r p).1 < 100000000) (hp : p.1 < 100000000) (hr : 1 ≤ r) (h0 : X 122 0 = nI p.1) (hR : pR p (X 123) (X 124) (X 125)) (good : ∀ Y : Nat → xw, gF I Y → Y 122 0 = nI (prp fr r p).1 → pR (prp fr r p) (Y 123) (Y 124) (Y 125) → Q none (xq_s g J (rs Y i))) : xq_wp (d + 1) 62 (xq_s g J (rs X i)) 0 [.ref 122, .int (nI fr), .int (nI r), xq_un, xq_un, xq_un] [] Q := by
  have hn : (prp fr r p).1 = fr + (p.1 - fr) * r := rfl
  have m4 : (p.1 - fr) * 1 ≤ (p.1 - fr) * r := Nat.mul_le_mul_left _ hr
  have lp : ∀ (c q : Nat) (Y : Nat → xw), p.1 ≤ q → q + c = max p.1 (min (prp fr r p).1 100) → gF I Y → (∀ z, z < q → z < (prp fr r p).1 → z < 100 → Y 123 z = nI ((prp fr r p).2 z).1 ∧ Y 124 z = nI ((prp fr r p).2 z).2.1 ∧ Y 125 z = nI ((prp fr r p).2 z).2.2) → xq_wp (d + 1) 62 (xq_s g J (rs Y i)) 20 [.ref 122, .int (nI fr), .int (nI r), .int (nI (p.1 - fr)), .int (nI (fr + (p.1 - fr) * r)), .int (nI q)] [] Q := by
    intro c
    induction c with
    | zero =>
      intro q Y h1 h2 hY hq
      have fin : Q none (xq_s g J (rs (xq_w Y 122 0 (nI (fr + (p.1 - fr) * r))) i)) := by
        refine good _ (gF_w hY (by omega)) xw_v (fun z z1 z2 => ?_)
        rw [xw_i (by omega), xw_i (by omega), xw_i (by omega)]
        exact hq z (by omega) z1 z2
      exact tq_62_20 (d := d) (cT_gF hT hY) ⟨by omega, by omega, fun z => ⟨fun z2 => by omega, fun _ => fin⟩, fun _ => fin⟩
    | succ c ih =>
      intro q Y h1 h2 hY hq
      have fl : fr < p.1 := by
        rcases Nat.lt_or_ge fr p.1 with z | z
        · exact z
        · have : p.1 - fr = 0 := by omega
          rw [hn, this, Nat.zero_mul] at h2
          omega
      refine tq_62_20 (d := d) (cT_gF hT hY) ⟨by omega, by omega, fun z => ⟨fun z2 => ⟨by omega, by omega, by omega, by omega, fun z3 => by omega, fun _ => ih (q + 1) _ (by omega) (by omega) (gF_w (gF_w (gF_w hY (by omega)) (by omega)) (by omega)) (fun y y1 y2 y3 => ?_)⟩, fun z2 => by omega⟩, fun z => by omega⟩
      by_cases e : y = q
      · subst e
        rw [xw_i (by omega), xw_i (by omega), xw_v, xw_i (by omega), xw_v, xw_v, prp_per fl h1]
        exact hq (y - (p.1 - fr)) (by omega) (by omega) (by omega)
      · have o_ : ∀ b, xq_w (xq_w (xq_w Y 123 q (Y 123 (q - (p.1 - fr)))) 124 q (Y 124 (q - (p.1 - fr)))) 125 q (Y 125 (q - (p.1 - fr))) b y = Y b y := fun b => by rw [xw_x e, xw_x e, xw_x e]
        rw [o_ 123, o_ 124, o_ 125]
        exact hq y (by omega) y2 y3
  refine tq_62 (d := d + 1) (m := p.1) (cT_gF hT hF) ⟨h0, hf, h0, lp (max p.1 (min (prp fr r p).1 100) - p.1) p.1 X (Nat.le_refl _) (by omega) hF (fun z z1 z2 z3 => ?_)⟩
  rw [prp_lt z1]
  exact hR z z1 z3
/-- again, and the steps within it: both at once, by how many may still be open -/
def cAg (tc vl ss : Nat → Nat) (t : Nat) (I : Nat → xw) (k : Nat) : Prop := ∀ (d : Nat) (g : xq_V) (J : Nat → Nat → Int64) (Q : Option Value → xq_S → Prop) (i : Nat) (p : PA) (X : Nat → xw), i ≤ t → tc i = 32 → pK p → p.1 ≤ i * 6561 → gF I X → X 122 0 = nI p.1 → pR p (X 123) (X 124) (X 125) → (∀ k' j, agS tc vl k i p = some (.inl (k', j)) → ∀ (Y : Nat → xw) (j' : Nat), gF I Y → Q (some (.int (nI 0))) (xq_s g J (rs (xq_w (xq_w Y 104 8 (nI k')) 104 9 (nI (ss j))) j'))) → (∀ j p', agS tc vl k i p = some (.inr (j, p')) → j ≤ t → ∀ Y : Nat → xw, gF I Y → Y 122 0 = nI p'.1 → pR p' (Y 123) (Y 124) (Y 125) → Q (some (.int (nI 1))) (xq_s g J (rs Y j))) → xq_wp (d + 2 * k + 3) 61 (xq_s g J (rs X i)) 0 [.ref 122, .ref 104, .int (nI (4 - k)), xq_un, xq_un] [] Q
/-- how the steps end: at the text's end, or at a closing sign -/
def cSs (tc vl ss : Nat → Nat) (t : Nat) (I : Nat → xw) (k : Nat) : Prop := ∀ (d : Nat) (g : xq_V) (J : Nat → Nat → Int64) (Q : Option Value → xq_S → Prop) (f i c : Nat) (p : PA) (X : Nat → xw) (u4 : Value), t + 1 < i + f → c ≤ i → i ≤ t → pK p → p.1 ≤ i * 6561 → gF I X → X 122 0 = nI p.1 → pR p (X 123) (X 124) (X 125) → (∀ k' j, psL tc vl (agS tc vl k) f i p = some (.inl (k', j)) → ∀ (Y : Nat → xw) (j' : Nat), gF I Y → Q (some (.int (nI 0))) (xq_s g J (rs (xq_w (xq_w Y 104 8 (nI k')) 104 9 (nI (ss j))) j'))) → (∀ j p', psL tc vl (agS tc vl k) f i p = some (.inr (j, p')) → ¬ tc j = (if k = 4 then 0 else 141) → ∀ (Y : Nat → xw) (j' : Nat), gF I Y → Q (some (.int (nI 0))) (xq_s g J (rs (xq_w (xq_w Y 104 8 (nI 1)) 104 9 (nI (ss j))) j'))) → (∀ j p', psL tc vl (agS tc vl k) f i p = some (.inr (j, p')) → tc j = (if k = 4 then 0 else 141) → j ≤ t → ∀ Y : Nat → xw, gF I Y → Y 122 0 = nI p'.1 → pR p' (Y 123) (Y 124) (Y 125) → Q (some (.int (nI 1))) (xq_s g J (rs Y j))) → xq_wp (d + 2 * k + 4) 60 (xq_s g J (rs X i)) 2 [.ref 122, .ref 104, .int (nI (4 - k)), .int (nI c), u4] [] Q
theorem cSs_of (hT : cT 3 I t tc vl ss) (hk : k ≤ 4) (hA : cAg tc vl ss t I k) : cSs tc vl ss t I k := by
  have h4 := hT.1
  intro d g J Q f
  induction f with
  | zero => intro i c p X u4 h1 h2 h3; omega
  | succ f ih =>
    intro i c p X u4 hf hc hi hK hl hF h0 hR bad bad1 good
    have hX := cT_gF hT hF
    rw [psL] at bad bad1 good
    -- the run when it goes on
    have go : ¬ tc i = (if k = 4 then 0 else 141) → (tc i = 32 → xq_wp (d + 2 * k + 3) 61 (xq_s g J (rs X i)) 0 [.ref 122, .ref 104, .int (nI (4 - k)), xq_un, xq_un] [] (fun v x1 => xq_wp (d + 2 * k + 3 + 1) 60 x1 49 [.ref 122, .ref 104, .int (nI (4 - k)), .int (nI c), u4] (v.toList ++ []) Q)) ∧ (¬ tc i = 32 → xq_wp (d + 2 * k + 3) 64 (xq_s g J (rs X i)) 0 [.ref 122, .ref 104, xq_un, xq_un, xq_un] [] (fun v x1 => xq_wp (d + 2 * k + 3 + 1) 60 x1 57 [.ref 122, .ref 104, .int (nI (4 - k)), .int (nI c), u4] (v.toList ++ []) Q)) := fun ne => by
      refine ⟨fun q => ?_, fun q => ?_⟩
      · rw [if_neg (by omega), if_pos q] at bad bad1 good
        refine hA d g J _ i p X hi q hK hl hF h0 hR (fun k' j e Y j' gY => tq_60_49_0 (d := d + 2 * k + 3 + 1) (cT_ff hT gY) (bad k' j (by rw [e]) Y j' gY)) (fun j p' e hj Y g1 g2 g3 => ?_)
        rw [e] at bad bad1 good
        dsimp only at bad bad1 good
        obtain ⟨a1, a2, a3, a4⟩ := ag_b hk e hK hl
        exact tq_60_49_1 (d := d + 2 * k + 3 + 1) (cT_gF hT g1) (ih j (c + 1) p' Y _ (by omega) (by omega) hj a4 a3 g1 g2 g3 bad bad1 good)
      · by_cases w : 24 ≤ tc i ∧ tc i ≤ 31
        · rw [if_pos w] at bad bad1 good
          have key := yl_64 (d := d + 2 * k + 1) (g := g) (J := J) (Q := fun v x1 => xq_wp (d + 2 * k + 3 + 1) 60 x1 57 [.ref 122, .ref 104, .int (nI (4 - k)), .int (nI c), u4] (v.toList ++ []) Q) hT hi w hF (by omega) h0 hR (fun k' j e Y j' gY => tq_60_57_0 (d := d + 2 * k + 3 + 1) (cT_ff hT gY) (bad k' j (by rw [e]) Y j' gY)) (fun j s e hj Y g1 g2 g3 => by
            rw [e] at bad bad1 good
            dsimp only at bad bad1 good
            obtain ⟨s1, s2⟩ := st_r w e
            have : (pw p s).1 = p.1 + 1 := rfl
            exact tq_60_57_1 (d := d + 2 * k + 3 + 1) (cT_gF hT g1) (ih j (c + 1) _ Y _ (by omega) (by omega) hj (pK_w hK s2) (by omega) g1 g2 g3 bad bad1 good))
          exact key
        · rw [if_neg w, if_neg q] at bad1
          have fl := bad1 i p rfl ne X i hF
          refine tq_64 (d := d + 2 * k + 1) hX ⟨hi, fun z => by omega, fun _ => ⟨fun z => by omega, fun _ => ⟨fun z => by omega, fun _ => ⟨fun z => by omega, fun _ => ⟨fun z => by omega, fun _ => ⟨fun z => by omega, fun _ => ⟨fun z => by omega, fun _ => ⟨fun z => by omega, fun _ => ?_⟩⟩⟩⟩⟩⟩⟩⟩
          exact tq_60_57_0 (d := d + 2 * k + 1 + 2 + 1) (cT_ff hT hF) fl
    have stop : tc i = (if k = 4 then 0 else 141) → Q (some (.int (nI 1))) (xq_s g J (rs X i)) := fun q => by
      have n1 : ¬ (24 ≤ tc i ∧ tc i ≤ 31) := by split at q <;> omega
      have n2 : ¬ tc i = 32 := by split at q <;> omega
      rw [if_neg n1, if_neg n2] at good
      exact good i p rfl q hi X hF h0 hR
    by_cases k4 : k = 4
    · subst k4
      rw [if_pos rfl] at go stop
      exact tq_60_2_0 (d := d + 2 * 4 + 3) hX ⟨by omega, fun z => by omega, fun _ => ⟨hi, stop, go⟩⟩
    · rw [if_neg k4] at go stop
      exact tq_60_2 (d := d + 2 * k + 3) hX ⟨by omega, fun z => by omega, fun _ => ⟨by omega, fun _ => ⟨hi, stop, go⟩, fun z => by omega⟩⟩
theorem cAg_of (hT : cT 3 I t tc vl ss) : ∀ k, k ≤ 4 → cAg tc vl ss t I k := by
  have h4 := hT.1
  intro k
  induction k with
  | zero =>
    intro _ d g J Q i p X hi q hK hl hF h0 hR bad good
    exact tq_61 (d := d + 1) (n := 0) (cT_gF hT hF) ⟨by omega, fun _ => ⟨hi, bad 3 i rfl X i hF⟩, fun z => by omega⟩
  | succ k ih =>
    intro hk d g J Q i p X hi q hK hl hF h0 hR bad good
    have hX := cT_gF hT hF
    have i1 := c_lt hX hi (show ¬ tc i = 0 by omega)
    unfold agS at bad good
    refine tq_61 (d := d + 2 * k + 3) (n := p.1) hX ⟨by omega, fun z => by omega, fun _ => ⟨by omega, hi, i1, by omega, fun q1 => ⟨fun q2 => ⟨h0, ?_⟩, fun q2 => bad 2 _ (by rw [if_neg (fun z => z q1), if_pos q2]) X _ hF⟩, fun q1 => bad 1 _ (by rw [if_pos q1]) X _ hF⟩⟩
    rw [if_neg (fun z => z q1), if_neg (fun z => z q2)] at bad good
    have i2 := c_lt hX i1 (show ¬ tc (i + 1) = 0 by omega)
    refine ⟨i2, fun q3 => ?_, fun q3 => bad 1 _ (by rw [if_pos q3]) X _ hF⟩
    rw [if_neg (fun z => z q3)] at bad good
    have i3 := c_lt hX i2 (show ¬ tc (i + 1 + 1) = 0 by omega)
    rw [nI_add, show 4 - (k + 1) + 1 = 4 - k by omega]
    refine xq_wp.go (k := 2) (fun F => rfl) ?_
    have hS := cSs_of hT (show k ≤ 4 by omega) (ih (by omega))
    have hl3 : p.1 ≤ (i + 1 + 1 + 1) * 6561 := Nat.le_trans hl (Nat.mul_le_mul_right 6561 (show i ≤ i + 1 + 1 + 1 by omega))
    refine hS d g J _ pF (i + 1 + 1 + 1) 0 p X _ (by have := pF_e; omega) (by omega) i3 hK hl3 hF h0 hR (fun k' j e Y j' gY => tq_61_55_0 (d := d + 2 * k + 3 + 2) (cT_ff hT gY) (bad k' j (by rw [e]) Y j' gY)) (fun j p' e ne Y j' gY => tq_61_55_0 (d := d + 2 * k + 3 + 2) (cT_ff hT gY) (bad 1 j (by rw [e]; dsimp only; rw [if_neg (by rw [if_neg (by omega)] at ne; exact ne)]) Y j' gY)) (fun j p' e ej hj Y g1 g2 g3 => ?_)
    rw [if_neg (by omega)] at ej
    rw [e] at bad good
    dsimp only at bad good
    rw [if_pos ej] at bad good
    obtain ⟨a1, a2, a3, a4⟩ := ps_b (show k ≤ 4 by omega) e hK hl3
    have hj1 := c_lt (cT_gF hT g1) hj (show ¬ tc j = 0 by omega)
    refine tq_61_55_1 (d := d + 2 * k + 3) (cT_gF hT g1) ⟨hj, fun _ => ?_, fun z => absurd ej z⟩
    have hb : (prp p.1 (vl (i + 1)) p').1 < 100000000 := by
      show p.1 + (p'.1 - p.1) * vl (i + 1) < 100000000
      have m1 : (p'.1 - p.1) * vl (i + 1) ≤ (p'.1 - p.1) * 9 := Nat.mul_le_mul_left _ q2.2
      omega
    exact yl_62 (d := d + 2 * k + 3) hT g1 a2 hb (by omega) q2.1 g2 g3 (fun Z z1 z2 z3 => tq_61_76 (d := d + 2 * k + 3 + 2) (cT_gF hT z1) (good _ _ rfl hj1 Z z1 z2 z3))
/-- the class reads A PLAN -/
def plX (tc vl : Nat → Nat) : Option ((Nat × Nat) ⊕ PA) := match psL tc vl (agS tc vl 4) pF 0 (0, fun _ => (0, 0, 0)) with
  | none => none
  | some (.inl e) => some (.inl e)
  | some (.inr (j, p)) => if ¬ tc j = 0 then some (.inl (1, j)) else if 100 < p.1 then some (.inl (4, j)) else some (.inr p)
theorem yl_59 (hT : cT 3 I t tc vl ss) (hF : gF I X) (bad : ∀ k j, plX tc vl = some (.inl (k, j)) → ∀ (Y : Nat → xw) (j' : Nat), gF I Y → Q (some (.int (nI 0))) (xq_s g J (rs (xq_w (xq_w Y 104 8 (nI k)) 104 9 (nI (ss j))) j'))) (good : ∀ p, plX tc vl = some (.inr p) → p.1 ≤ 100 → pK p → ∀ (Y : Nat → xw) (j' : Nat), gF I Y → Y 122 0 = nI p.1 → pR p (Y 123) (Y 124) (Y 125) → Q (some (.int (nI 1))) (xq_s g J (rs Y j'))) : xq_wp (d + 13) 59 (xq_s g J (rs X 0)) 0 [.ref 122, .ref 104] [] Q := by
  have h4 := hT.1
  have hX := cT_gF hT hF
  unfold plX at bad good
  refine tq_59 (d := d + 12) hX (xq_wp.go (k := 2) (fun F => rfl) ?_)
  refine cSs_of hT (Nat.le_refl 4) (cAg_of hT 4 (Nat.le_refl 4)) d g J _ pF 0 0 (0, fun _ => (0, 0, 0)) _ _ (by have := pF_e; omega) (by omega) (by omega) (fun q hq => absurd hq (by show ¬ q < 0; omega)) (by omega) (gF_w hF (by omega)) xw_v (fun q hq => absurd hq (by show ¬ q < 0; omega)) (fun k' j e Y j' gY => tq_59_11_0 (d := d + 13) (cT_ff hT gY) (bad k' j (by rw [e]) Y j' gY)) (fun j p' e ne Y j' gY => tq_59_11_0 (d := d + 13) (cT_ff hT gY) (bad 1 j (by rw [e]; dsimp only; rw [if_pos (by rw [if_pos rfl] at ne; exact ne)]) Y j' gY)) (fun j p' e ej hj Y g1 g2 g3 => ?_)
  rw [if_pos rfl] at ej
  rw [e] at bad good
  dsimp only at bad good
  rw [if_neg (fun z => z ej)] at bad good
  obtain ⟨a1, a2, a3, a4⟩ := ps_b (Nat.le_refl 4) e (fun q hq => absurd hq (by show ¬ q < 0; omega)) (by show 0 ≤ 0 * 6561; omega)
  refine tq_59_11_1 (d := d + 12) (n := p'.1) (cT_gF hT g1) ⟨g2, by omega, fun z => ⟨hj, bad 4 j (by rw [if_pos z]) Y j g1⟩, fun z => good p' (by rw [if_neg z]) (by omega) a4 Y j g1 g2 g3⟩
end yk_pn
