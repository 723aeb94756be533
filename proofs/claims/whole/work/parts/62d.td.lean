/-! text: THE DOME -/
def nbS (tc vl : Nat → Nat) (b : Nat) : Nat → Nat → Nat → Option ((Nat × Nat) ⊕ (Nat × Nat))
  | 0, _, _ => none
  | f + 1, i, m => if ¬ tc (i + 1) = 2 then some (.inl (1, i + 1)) else if ¬ vl (i + 1) < b then some (.inl (2, i + 1)) else if tc (i + 1 + 1) = 5 then nbS tc vl b f (i + 1 + 1) (m ||| 2 ^ vl (i + 1)) else some (.inr (i + 1 + 1, m ||| 2 ^ vl (i + 1)))
def nbW (tc vl : Nat → Nat) (b i : Nat) : Option ((Nat × Nat) ⊕ (Nat × Nat)) := if tc i = 12 then nbS tc vl b 401 i 0 else some (.inr (i, 0))
/-- a block, behind its word -/
def bkS (tc vl : Nat → Nat) (b i : Nat) : Option ((Nat × Nat) ⊕ (Nat × Nat)) := if ¬ tc (i + 1) = 2 then some (.inl (1, i + 1)) else if ¬ (1 ≤ vl (i + 1) ∧ vl (i + 1) ≤ 20) then some (.inl (2, i + 1)) else if ¬ tc (i + 1 + 1) = 9 then some (.inl (1, i + 1 + 1)) else if ¬ tc (i + 1 + 1 + 1) = 2 then some (.inl (1, i + 1 + 1 + 1)) else if ¬ vl (i + 1 + 1 + 1) ≤ 3 then some (.inl (2, i + 1 + 1 + 1)) else if ¬ (tc (i + 1 + 1 + 1 + 1) = 10 ∨ tc (i + 1 + 1 + 1 + 1) = 11) then some (.inl (1, i + 1 + 1 + 1 + 1)) else match nbW tc vl b (i + 1 + 1 + 1 + 1 + 1) with
  | none => none
  | some (.inl e) => some (.inl e)
  | some (.inr (j, m)) => if tc j = 159 then some (.inr (j, m)) else some (.inl (1, j))
def doS (tc vl : Nat → Nat) : Nat → Nat → List (Nat × Nat × Nat × Nat) → Option ((Nat × Nat) ⊕ List (Nat × Nat × Nat × Nat))
  | 0, _, _ => none
  | f + 1, i, acc => if tc i = 0 then some (.inr acc) else if ¬ tc i = 8 then some (.inl (1, i)) else if acc.length = 14 then some (.inl (3, i)) else match bkS tc vl acc.length i with
    | none => none
    | some (.inl e) => some (.inl e)
    | some (.inr (j, m)) => doS tc vl f (j + 1) (acc ++ [(vl (i + 1), vl (i + 1 + 1 + 1), tc (i + 1 + 1 + 1 + 1) - 10, m)])
def doR (a : List (Nat × Nat × Nat × Nat)) (S V E N : xw) : Prop := ∀ k, k < a.length → S k = nI (a.getD k (0, 0, 0, 0)).1 ∧ V k = nI (a.getD k (0, 0, 0, 0)).2.1 ∧ E k = nI (a.getD k (0, 0, 0, 0)).2.2.1 ∧ N k = nI (a.getD k (0, 0, 0, 0)).2.2.2
def doM (a : List (Nat × Nat × Nat × Nat)) (F : xw) : Prop := ∀ k, k < a.length → F (4 * k) = nI (a.getD k (0, 0, 0, 0)).1 ∧ F (4 * k + 1) = nI (a.getD k (0, 0, 0, 0)).2.1 ∧ F (4 * k + 2) = nI (a.getD k (0, 0, 0, 0)).2.2.1 ∧ F (4 * k + 3) = nI (a.getD k (0, 0, 0, 0)).2.2.2
/-- the blocks that were read are what may be told -/
def doK (a : List (Nat × Nat × Nat × Nat)) : Prop := a.length ≤ 14 ∧ ∀ k, k < a.length → (1 ≤ (a.getD k (0, 0, 0, 0)).1 ∧ (a.getD k (0, 0, 0, 0)).1 ≤ 20) ∧ (a.getD k (0, 0, 0, 0)).2.1 < 4 ∧ (a.getD k (0, 0, 0, 0)).2.2.1 < 2 ∧ (a.getD k (0, 0, 0, 0)).2.2.2 < 2 ^ k
section yk_td
variable {d : Nat} {g : xq_V} {J : Nat → Nat → Int64} {I X : Nat → xw} {Q : Option Value → xq_S → Prop} {r t i a j k b : Nat} {tc vl ss en : Nat → Nat} {v : Int32}
theorem gD4 {acc : List (Nat × Nat × Nat × Nat)} {p : Nat × Nat × Nat × Nat} {k : Nat} : (acc ++ [p]).getD k (0, 0, 0, 0) = if k < acc.length then acc.getD k (0, 0, 0, 0) else if k = acc.length then p else (0, 0, 0, 0) := by
  rw [List.getD_eq_getElem?_getD]
  by_cases h : k < acc.length
  · rw [if_pos h, List.getElem?_append_left h, ← List.getD_eq_getElem?_getD]
  · rw [if_neg h, List.getElem?_append_right (by omega)]
    by_cases e : k = acc.length
    · rw [if_pos e, e, Nat.sub_self]; rfl
    · rw [if_neg e, List.getElem?_eq_none (by simp only [List.length_cons, List.length_nil]; omega)]; rfl
theorem len4 {acc : List (Nat × Nat × Nat × Nat)} {p : Nat × Nat × Nat × Nat} : (acc ++ [p]).length = acc.length + 1 := by rw [List.length_append]; rfl
theorem nb_r : ∀ (f i m j m' : Nat), m < 2 ^ b → nbS tc vl b f i m = some (.inr (j, m')) → m' < 2 ^ b := by
  intro f
  induction f with
  | zero => intro i m j m' _ h; exact absurd h (by simp [nbS])
  | succ f ih =>
    intro i m j m' hm h
    rw [nbS] at h
    by_cases q : tc (i + 1) = 2
    · rw [if_neg (fun z => z q)] at h
      by_cases q2 : vl (i + 1) < b
      · rw [if_neg (fun z => z q2)] at h
        have hm2 : m ||| 2 ^ vl (i + 1) < 2 ^ b := Nat.or_lt_two_pow hm (Nat.pow_lt_pow_right (by omega) q2)
        by_cases q3 : tc (i + 1 + 1) = 5
        · rw [if_pos q3] at h
          exact ih _ _ _ _ hm2 h
        · rw [if_neg q3] at h
          have h := Sum.inr.inj (Option.some.inj h)
          rw [← (Prod.mk.inj h).2]; exact hm2
      · rw [if_pos q2] at h; exact absurd (Option.some.inj h) (by simp)
    · rw [if_pos q] at h; exact absurd (Option.some.inj h) (by simp)
theorem bk_r (h : bkS tc vl b i = some (.inr (j, k))) : (1 ≤ vl (i + 1) ∧ vl (i + 1) ≤ 20) ∧ vl (i + 1 + 1 + 1) < 4 ∧ tc (i + 1 + 1 + 1 + 1) - 10 < 2 ∧ k < 2 ^ b := by
  unfold bkS at h
  by_cases q1 : tc (i + 1) = 2
  · rw [if_neg (fun z => z q1)] at h
    by_cases q2 : 1 ≤ vl (i + 1) ∧ vl (i + 1) ≤ 20
    · rw [if_neg (fun z => z q2)] at h
      by_cases q3 : tc (i + 1 + 1) = 9
      · rw [if_neg (fun z => z q3)] at h
        by_cases q4 : tc (i + 1 + 1 + 1) = 2
        · rw [if_neg (fun z => z q4)] at h
          by_cases q5 : vl (i + 1 + 1 + 1) ≤ 3
          · rw [if_neg (fun z => z q5)] at h
            by_cases q6 : tc (i + 1 + 1 + 1 + 1) = 10 ∨ tc (i + 1 + 1 + 1 + 1) = 11
            · rw [if_neg (fun z => z q6)] at h
              refine ⟨q2, by omega, by omega, ?_⟩
              rcases e : nbW tc vl b (i + 1 + 1 + 1 + 1 + 1) with _ | e' | ⟨j', m⟩
              · rw [e] at h; exact absurd h (by simp)
              · rw [e] at h; exact absurd h (by simp)
              · rw [e] at h
                dsimp only at h
                by_cases q7 : tc j' = 159
                · rw [if_pos q7] at h
                  have h := Prod.mk.inj (Sum.inr.inj (Option.some.inj h))
                  rw [← h.2]
                  unfold nbW at e
                  by_cases q8 : tc (i + 1 + 1 + 1 + 1 + 1) = 12
                  · rw [if_pos q8] at e; exact nb_r _ _ _ _ _ (Nat.two_pow_pos b) e
                  · rw [if_neg q8] at e
                    have e := Prod.mk.inj (Sum.inr.inj (Option.some.inj e))
                    rw [← e.2]; exact Nat.two_pow_pos b
                · rw [if_neg q7] at h; exact absurd h (by simp)
            · rw [if_pos q6] at h; exact absurd (Option.some.inj h) (by simp)
          · rw [if_pos q5] at h; exact absurd (Option.some.inj h) (by simp)
        · rw [if_pos q4] at h; exact absurd (Option.some.inj h) (by simp)
      · rw [if_pos q3] at h; exact absurd (Option.some.inj h) (by simp)
    · rw [if_pos q2] at h; exact absurd (Option.some.inj h) (by simp)
  · rw [if_pos q1] at h; exact absurd (Option.some.inj h) (by simp)
theorem doK_s {acc : List (Nat × Nat × Nat × Nat)} (h : doK acc) (hl : acc.length < 14) (hb : bkS tc vl acc.length i = some (.inr (j, k))) : doK (acc ++ [(vl (i + 1), vl (i + 1 + 1 + 1), tc (i + 1 + 1 + 1 + 1) - 10, k)]) := by
  refine ⟨by rw [len4]; omega, fun q hq => ?_⟩
  rw [len4] at hq
  rw [gD4]
  by_cases e : q < acc.length
  · rw [if_pos e]; exact h.2 q e
  · have e2 : q = acc.length := by omega
    rw [if_neg e, if_pos e2]
    obtain ⟨b1, b2, b3, b4⟩ := bk_r hb
    rw [e2]
    exact ⟨b1, b2, b3, b4⟩
/-- the class: neighbours -/
theorem yl_43_2 (hT : cT 0 I t tc vl ss) (hb : b < 14) : ∀ (f i m c : Nat) (X : Nat → xw), t < i + f → c ≤ i → i ≤ t → ¬ tc i = 0 → m < 2 ^ b → gF I X → X 114 b = nI m → (∀ k j, nbS tc vl b f i m = some (.inl (k, j)) → ∀ (Y : Nat → xw) (j' : Nat), gF I Y → Q (some (.int (nI 0))) (xq_s g J (rs (xq_w (xq_w Y 104 8 (nI k)) 104 9 (nI (ss j))) j'))) → (∀ j m', nbS tc vl b f i m = some (.inr (j, m')) → j ≤ t → ∀ Y : Nat → xw, gF I Y → (∀ a, ¬ a = 114 → Y a = X a) → (∀ j, ¬ j = b → Y 114 j = X 114 j) → Y 114 b = nI m' → Q (some (.int (nI 1))) (xq_s g J (rs Y j))) → xq_wp (d + 2) 43 (xq_s g J (rs X i)) 2 [.ref 110, .ref 104, .int (nI b), .int (nI c)] [] Q := by
  have p14 : 2 ^ b ≤ 2 ^ 13 := Nat.pow_le_pow_right (by omega) (by omega)
  have h4 := hT.1
  intro f
  induction f with
  | zero => intro i m c X h1 h2 h3; omega
  | succ f ih =>
    intro i m c X hf hc hi h0 hm hF hN bad good
    have hX := cT_gF hT hF
    have i1 := c_lt hX hi h0
    rw [nbS] at bad good
    have b1 : ¬ tc (i + 1) = 2 → Q (some (.int (nI 0))) (xq_s g J (rs (xq_w (xq_w X 104 8 (nI 1)) 104 9 (nI (ss (i + 1)))) (i + 1))) := fun q => bad 1 (i + 1) (by rw [if_pos q]) X _ hF
    by_cases b0 : b = 0
    · subst b0
      exact td_43_2_0 (d := d) hX ⟨by omega, fun _ => ⟨h0, hi, i1, fun q => bad 2 (i + 1) (by rw [if_neg (fun z => z q), if_pos (by omega)]) X _ hF, b1⟩, fun z => absurd (by omega) z⟩
    · refine td_43_2 (d := d) hX ⟨by omega, fun _ => ⟨h0, hi, by omega, i1, by omega, fun q => ⟨fun q2 => ?_, fun q2 => bad 2 (i + 1) (by rw [if_neg (fun z => z q), if_pos (by omega)]) X _ hF⟩, b1⟩, fun z => absurd (by omega) z⟩
      have q2' : vl (i + 1) < b := by omega
      have i2 := c_lt hX i1 (by omega)
      have p2 : 2 ^ vl (i + 1) < 2 ^ b := Nat.pow_lt_pow_right (by omega) q2'
      have eo : X 114 b ||| (nI 1 <<< (nI (vl (i + 1)) &&& 31)) = nI (m ||| 2 ^ vl (i + 1)) := by rw [hN, sh_N _ (by omega), nb_or (by omega) (by omega)]
      have hm2 : m ||| 2 ^ vl (i + 1) < 2 ^ b := Nat.or_lt_two_pow hm p2
      rw [if_neg (fun z => z q), if_neg (fun z => z q2')] at bad good
      rw [eo]
      have hF2 : gF I (xq_w X 114 b (nI (m ||| 2 ^ vl (i + 1)))) := gF_w hF (by omega)
      refine ⟨by omega, i2, fun q3 => ?_, fun q3 => ?_⟩
      · rw [if_pos q3] at bad good
        refine ih (i + 1 + 1) _ (c + 1) _ (by omega) (by omega) i2 (by omega) hm2 hF2 xw_v bad (fun j m' e hj Y g1 g2 g3 g4 => good j m' e hj Y g1 (fun a ha => by rw [g2 a ha, xw_i ha]) (fun j hj => by rw [g3 j hj, xw_x hj]) g4)
      · rw [if_neg q3] at good
        exact good _ _ rfl i2 _ hF2 (fun a ha => xw_i ha) (fun j hj => xw_x hj) xw_v
/-- the class: a block -/
theorem yl_37 (hT : cT 0 I t tc vl ss) (hb : b < 14) (hi : i ≤ t) (h0 : ¬ tc i = 0) (hF : gF I X) (bad : ∀ k j, bkS tc vl b i = some (.inl (k, j)) → ∀ (Y : Nat → xw) (j' : Nat), gF I Y → Q (some (.int (nI 0))) (xq_s g J (rs (xq_w (xq_w Y 104 8 (nI k)) 104 9 (nI (ss j))) j'))) (good : ∀ j m, bkS tc vl b i = some (.inr (j, m)) → j < t → ∀ Y : Nat → xw, gF I Y → (∀ a, ¬ (111 ≤ a ∧ a < 115) → Y a = X a) → (∀ a j, ¬ j = b → Y a j = X a j) → Y 111 b = nI (vl (i + 1)) → Y 112 b = nI (vl (i + 1 + 1 + 1)) → Y 113 b = nI (tc (i + 1 + 1 + 1 + 1) - 10) → Y 114 b = nI m → Q (some (.int (nI 1))) (xq_s g J (rs Y (j + 1)))) : xq_wp (d + 3) 37 (xq_s g J (rs X i)) 0 [.ref 110, .ref 104, .int (nI b)] [] Q := by
  have hX := cT_gF hT hF
  have i1 := c_lt hX hi h0
  unfold bkS at bad good
  refine td_37 (d := d + 1) hX ⟨h0, hi, i1, by omega, fun q1 => ⟨fun q2 => ⟨by omega, ?_⟩, fun q2 => bad 2 (i + 1) (by rw [if_neg (fun z => z q1), if_pos q2]) X _ hF⟩, fun q1 => bad 1 (i + 1) (by rw [if_pos q1]) X _ hF⟩
  rw [if_neg (fun z => z q1), if_neg (fun z => z q2)] at bad good
  have i2 := c_lt hX i1 (by omega)
  have hF1 : gF I (xq_w X 111 b (nI (vl (i + 1)))) := gF_w hF (by omega)
  refine ⟨i2, fun q3 => ?_, fun q3 => bad 1 _ (by rw [if_pos q3]) _ _ hF1⟩
  have i3 := c_lt hX i2 (show ¬ tc (i + 1 + 1) = 0 by omega)
  refine ⟨i3, by omega, fun q4 => ⟨fun q5 => ?_, fun q5 => bad 2 _ (by rw [if_neg (fun z => z q3), if_neg (fun z => z q4), if_pos (by omega)]) _ _ hF1⟩, fun q4 => bad 1 _ (by rw [if_neg (fun z => z q3), if_pos q4]) _ _ hF1⟩
  rw [if_neg (fun z => z q3), if_neg (fun z => z q4), if_neg (fun z => z (show vl (i + 1 + 1 + 1) ≤ 3 by omega))] at bad good
  have i4 := c_lt hX i3 (by omega)
  -- behind west or east
  have rest : ∀ e : Nat, (tc (i + 1 + 1 + 1 + 1) = 10 ∨ tc (i + 1 + 1 + 1 + 1) = 11) → e = tc (i + 1 + 1 + 1 + 1) - 10 → xq_wp (d + 1 + 2) 37 (xq_s g J (rs (xq_w (xq_w (xq_w X 111 b (nI (vl (i + 1)))) 112 b (nI (vl (i + 1 + 1 + 1)))) 113 b (nI e)) (i + 1 + 1 + 1 + 1 + 1))) 104 [.ref 110, .ref 104, .int (nI b)] [] Q := by
    intro e q6 ee
    rw [if_neg (fun z => z q6)] at bad good
    have i5 := c_lt hX i4 (by omega)
    have hF3 : gF I (xq_w (xq_w (xq_w X 111 b (nI (vl (i + 1)))) 112 b (nI (vl (i + 1 + 1 + 1)))) 113 b (nI e)) := gF_w (gF_w hF1 (by omega)) (by omega)
    have f1 : ∀ a, ¬ (111 ≤ a ∧ a < 115) → xq_w (xq_w (xq_w X 111 b (nI (vl (i + 1)))) 112 b (nI (vl (i + 1 + 1 + 1)))) 113 b (nI e) a = X a := fun a ha => by rw [xw_i (by omega), xw_i (by omega), xw_i (by omega)]
    have f2 : ∀ a j, ¬ j = b → xq_w (xq_w (xq_w X 111 b (nI (vl (i + 1)))) 112 b (nI (vl (i + 1 + 1 + 1)))) 113 b (nI e) a j = X a j := fun a j hj => by rw [xw_x hj, xw_x hj, xw_x hj]
    have v1 : xq_w (xq_w (xq_w X 111 b (nI (vl (i + 1)))) 112 b (nI (vl (i + 1 + 1 + 1)))) 113 b (nI e) 111 b = nI (vl (i + 1)) := by rw [xw_i (by omega), xw_i (by omega), xw_v]
    have v2 : xq_w (xq_w (xq_w X 111 b (nI (vl (i + 1)))) 112 b (nI (vl (i + 1 + 1 + 1)))) 113 b (nI e) 112 b = nI (vl (i + 1 + 1 + 1)) := by rw [xw_i (by omega), xw_v]
    have v3 : xq_w (xq_w (xq_w X 111 b (nI (vl (i + 1)))) 112 b (nI (vl (i + 1 + 1 + 1)))) 113 b (nI e) 113 b = nI (tc (i + 1 + 1 + 1 + 1) - 10) := by rw [xw_v, ee]
    generalize xq_w (xq_w (xq_w X 111 b (nI (vl (i + 1)))) 112 b (nI (vl (i + 1 + 1 + 1)))) 113 b (nI e) = X3 at *
    have hX3 := cT_gF hT hF3
    refine td_37_104 (d := d + 3) hX3 ⟨by omega, ?_⟩
    have hF4 : gF I (xq_w X3 114 b (nI 0)) := gF_w hF3 (by omega)
    refine td_37_111 (d := d + 1) (cT_gF hT hF4) ⟨i5, fun q7 => ?_, fun q7 => ?_⟩
    · unfold nbW at bad good
      rw [if_pos q7] at bad good
      refine xq_wp.go (k := 2) (fun F => rfl) (yl_43_2 (d := d) hT hb 401 (i + 1 + 1 + 1 + 1 + 1) 0 0 _ (by have := hT.1; omega) (by omega) i5 (by omega) (Nat.two_pow_pos b) hF4 xw_v (fun k j e Y j' gY => td_37_126_0 (d := d + 3) (cT_ff hT gY) (bad k j (by rw [e]) Y j' gY)) (fun j m' e hj Y g1 g2 g3 g4 => ?_))
      rw [e] at bad good
      dsimp only at bad good
      refine td_37_126_1 (d := d + 1) (cT_gF hT g1) ⟨hj, fun q8 => ?_, fun q8 => bad 1 j (by rw [if_neg q8]) Y j g1⟩
      refine good j m' (by rw [if_pos q8]) (by have := c_lt (cT_gF hT g1) hj (by omega); omega) Y g1 (fun a ha => ?_) (fun a k hk => ?_) ?_ ?_ ?_ g4
      · rw [g2 a (by omega), xw_i (by omega)]; exact f1 a ha
      · by_cases e2 : a = 114
        · subst e2; rw [g3 k hk, xw_x hk]; exact f2 114 k hk
        · rw [g2 a e2, xw_i e2]; exact f2 a k hk
      · rw [g2 111 (by omega), xw_i (by omega)]; exact v1
      · rw [g2 112 (by omega), xw_i (by omega)]; exact v2
      · rw [g2 113 (by omega), xw_i (by omega)]; exact v3
    · unfold nbW at bad good
      rw [if_neg q7] at bad good
      dsimp only at bad good
      refine ⟨fun q8 => ?_, fun q8 => bad 1 _ (by rw [if_neg q8]) _ _ hF4⟩
      refine good _ 0 (by rw [if_pos q8]) (by have := c_lt hX i5 (by omega); omega) _ hF4 (fun a ha => ?_) (fun a k hk => ?_) ?_ ?_ ?_ xw_v
      · rw [xw_i (by omega)]; exact f1 a ha
      · rw [xw_x hk]; exact f2 a k hk
      · rw [xw_i (by omega)]; exact v1
      · rw [xw_i (by omega)]; exact v2
      · rw [xw_i (by omega)]; exact v3
  refine ⟨i4, fun q6 => ⟨fun z => ?_, fun z => ⟨by omega, rest 1 (Or.inr q6) (by omega)⟩⟩, fun q6 => ⟨fun z => ?_, fun z => absurd xw_v z⟩⟩
  · rw [xw_v] at z; exact absurd z (by decide)
  · have hF3 : gF I (xq_w (xq_w (xq_w X 111 b (nI (vl (i + 1)))) 112 b (nI (vl (i + 1 + 1 + 1)))) 113 b (nI 0)) := gF_w (gF_w hF1 (by omega)) (by omega)
    exact td_37_85 (d := d + 1) (cT_gF hT hF3) ⟨i4, fun q7 => ⟨by omega, rest 0 (Or.inl q7) (by omega)⟩, fun q7 => bad 1 _ (by rw [if_pos (by omega)]) _ _ hF3⟩
theorem yl_33_7 (hT : cT 0 I t tc vl ss) : ∀ (f i : Nat) (acc : List (Nat × Nat × Nat × Nat)) (X : Nat → xw), 14 < acc.length + f → doK acc → i ≤ t → gF I X → X 110 0 = nI acc.length → doR acc (X 111) (X 112) (X 113) (X 114) → (∀ k j, doS tc vl f i acc = some (.inl (k, j)) → ∀ (Y : Nat → xw) (j' : Nat), gF I Y → Q (some (.int (nI 0))) (xq_s g J (rs (xq_w (xq_w Y 104 8 (nI k)) 104 9 (nI (ss j))) j'))) → (∀ a, doS tc vl f i acc = some (.inr a) → doK a → ∀ (Y : Nat → xw) (j' : Nat), gF I Y → Y 110 0 = nI a.length → (∀ b, ¬ (111 ≤ b ∧ b < 115) → ∀ j, ¬ (b = 110 ∧ j = 0) → Y b j = X b j) → doR a (Y 111) (Y 112) (Y 113) (Y 114) → Q (some (.int (nI 1))) (xq_s g J (rs Y j'))) → xq_wp (d + 4) 33 (xq_s g J (rs X i)) 7 [.ref 110, .ref 104, .int (nI acc.length)] [] Q := by
  intro f
  induction f with
  | zero => intro i acc X h1 h2; have := h2.1; omega
  | succ f ih =>
    intro i acc X h1 hK hi hF h5 hR bad good
    have h14 := hK.1
    have hX := cT_gF hT hF
    rw [doS] at bad good
    refine td_33_7 (d := d + 3) hX ⟨by omega, fun z => by omega, fun _ => ⟨hi, fun z => good acc (by rw [if_pos z]) hK X i hF h5 (fun _ _ _ _ => rfl) hR, fun z0 => ⟨fun z => ⟨h5, fun q => bad 3 i (by rw [if_neg z0, if_neg (fun y => y z), if_pos q]) X i hF, fun q => ⟨h5, ?_⟩⟩, fun z => bad 1 i (by rw [if_neg z0, if_pos z]) X i hF⟩⟩⟩
    rw [if_neg z0, if_neg (fun y => y z), if_neg q] at bad good
    refine yl_37 (d := d) hT (by omega) hi z0 hF (fun k j e Y j' gY => td_33_61_0 (d := d + 4) (cT_ff hT gY) (bad k j (by rw [e]) Y j' gY)) (fun j m e hj Y g1 g2 g3 v1 v2 v3 v4 => ?_)
    rw [e] at bad good
    dsimp only at bad good
    refine td_33_61_1 (d := d + 4) (cT_gF hT g1) ⟨by rw [g2 110 (by omega)]; exact h5, ?_⟩
    have k := ih (j + 1) (acc ++ [(vl (i + 1), vl (i + 1 + 1 + 1), tc (i + 1 + 1 + 1 + 1) - 10, m)]) (xq_w Y 110 0 (nI (acc.length + 1))) (by rw [len4]; omega) (doK_s hK (by omega) e) (by omega) (gF_w g1 (by omega)) (by rw [xw_v, len4]) ?_ bad (fun a ea ka Z j' g1' g2' g3' g4' => good a ea ka Z j' g1' g2' (fun b hb j hj => ?_) g4')
    · rw [len4] at k; exact k
    · intro q hq
      rw [len4] at hq
      rw [xw_i (by omega), xw_i (by omega), xw_i (by omega), xw_i (by omega), gD4]
      by_cases y : q < acc.length
      · rw [if_pos y, g3 111 q (by omega), g3 112 q (by omega), g3 113 q (by omega), g3 114 q (by omega)]
        exact hR q y
      · have y2 : q = acc.length := by omega
        rw [if_neg y, if_pos y2, y2]
        exact ⟨v1, v2, v3, v4⟩
    · rw [g3' b hb j hj]
      by_cases y : b = 110
      · subst y; rw [xw_x (by omega), g2 110 (by omega)]
      · rw [xw_i y, g2 b hb]
end yk_td
