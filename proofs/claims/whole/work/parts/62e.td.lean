/-! text: THE DOME in the model -/
section xk_td
variable {d : Nat} {g : xq_V} {J : Nat → Nat → Int64} {I X : Nat → xw} {Q : Option Value → xq_S → Prop} {t i b : Nat} {tc vl ss en : Nat → Nat} {v : Int32}
theorem xl_201_15 (hM : mT 0 I t tc vl ss en) (hb : b < 14) : ∀ (f i m : Nat) (X : Nat → xw) (v : Int32), i ≤ t → ¬ tc i = 0 → m < 2 ^ b → nF I X → X 126 16 = nI b → X 133 (4 * b + 3) = nI m → (∀ k j, nbS tc vl b f i m = some (.inl (k, j)) → ∀ (Y : Nat → xw) (e c s : Nat) (v : Int32), nF I Y → Q (some (.int (nI 0))) (xq_s g J (ms (xq_w (xq_w Y 126 23 (nI k)) 126 24 (nI (ss j))) e c s v))) → (∀ j m', nbS tc vl b f i m = some (.inr (j, m')) → j ≤ t → ∀ (Y : Nat → xw) (v : Int32), nF I Y → Y 126 16 = nI b → (∀ p, ¬ p = 4 * b + 3 → Y 133 p = X 133 p) → Y 133 (4 * b + 3) = nI m' → Q (some (.int (nI 1))) (xq_s g J (ms Y (en j) (tc j) (ss j) v))) → ¬ nbS tc vl b f i m = none → xq_wp (d + 5) 201 (xq_s g J (ms X (en i) (tc i) (ss i) v)) 15 [.ref 126, .int (nI (4 * b)), .int (nI 1)] [] Q := by
  have p14 : 2 ^ b ≤ 2 ^ 13 := Nat.pow_le_pow_right (by omega) (by omega)
  have hbb : ∀ k, tc k < 2147483648 := fun k => by have := mT_b hM k; omega
  intro f
  induction f with
  | zero => intro i m X v _ _ _ _ _ _ _ _ no; exact absurd rfl no
  | succ f ih =>
    intro i m X v hi h0 hm hF h16 hN bad good no
    have hX := mT_nF hM hF
    have i1 := m_lt hX hi h0
    rw [nbS] at bad good no
    have b1 : ¬ tc (i + 1) = 2 → ∀ v1 : Int32, Q (some (.int (nI 0))) (xq_s g J (ms (xq_w (xq_w X 126 23 (nI 1)) 126 24 (nI (ss (i + 1)))) (en (i + 1)) (tc (i + 1)) (ss (i + 1)) v1)) := fun q v1 => bad 1 (i + 1) (by rw [if_pos q]) X _ _ _ _ hF
    by_cases b0 : b = 0
    · subst b0
      exact td_201_15_b (d := d) hX hbb ⟨h0, hi, fun v1 hv1 => ⟨h16, i1, fun q => bad 2 (i + 1) (by rw [if_neg (fun z => z q), if_pos (by omega)]) X _ _ _ _ hF, fun q => b1 q v1⟩⟩
    · refine td_201_15_1 (d := d) (b := b) hX hbb ⟨h0, hi, fun v1 hv1 => ⟨h16, by omega, i1, by omega, fun q => ⟨fun q2 v2 hv2 => ?_, fun q2 => bad 2 (i + 1) (by rw [if_neg (fun z => z q), if_pos (by omega)]) X _ _ _ _ hF⟩, fun q => b1 q v1⟩⟩
      have q2' : vl (i + 1) < b := by omega
      have i2 := m_lt hX i1 (show ¬ tc (i + 1) = 0 by omega)
      have p2 : 2 ^ vl (i + 1) < 2 ^ b := Nat.pow_lt_pow_right (by omega) q2'
      have eo : X 133 (4 * b + 3) ||| (nI 1 <<< (nI (vl (i + 1)) &&& 31)) = nI (m ||| 2 ^ vl (i + 1)) := by rw [hN, sh_N _ (by omega), nb_or (by omega) (by omega)]
      have hm2 : m ||| 2 ^ vl (i + 1) < 2 ^ b := Nat.or_lt_two_pow hm p2
      rw [if_neg (fun z => z q), if_neg (fun z => z q2')] at bad good no
      rw [eo]
      have hF2 : nF I (xq_w (xq_w X 126 28 (nI (vl (i + 1)))) 133 (4 * b + 3) (nI (m ||| 2 ^ vl (i + 1)))) := nF_w (nF_w hF (by omega)) (by omega)
      have e16 : xq_w (xq_w X 126 28 (nI (vl (i + 1)))) 133 (4 * b + 3) (nI (m ||| 2 ^ vl (i + 1))) 126 16 = nI b := by rw [xw_i (by omega), xw_x (by omega)]; exact h16
      refine ⟨by omega, fun q3 => ?_, fun q3 => ?_⟩
      · rw [if_pos q3] at bad good no
        exact ih (i + 1 + 1) _ _ _ i2 (by omega) hm2 hF2 e16 xw_v bad (fun j m' e hj Y v g1 g2 g3 g4 => good j m' e hj Y v g1 g2 (fun p hp => by rw [g3 p hp, xw_x hp, xw_i (by omega)]) g4) no
      · rw [if_neg q3] at good
        exact td_201_15_0 (d := d + 5) (mT_nF hM hF2) hbb (good _ _ rfl i2 _ _ hF2 e16 (fun p hp => by rw [xw_x hp, xw_i (by omega)]) xw_v)
/-- the model: a block -/
theorem xl_200 (hM : mT 0 I t tc vl ss en) (hb : b < 14) (hi : i ≤ t) (h8 : tc i = 8) (hF : nF I X) (h16 : X 126 16 = nI b) (bad : ∀ k j, bkS tc vl b i = some (.inl (k, j)) → ∀ (Y : Nat → xw) (e c s : Nat) (v : Int32), nF I Y → Q (some (.int (nI 0))) (xq_s g J (ms (xq_w (xq_w Y 126 23 (nI k)) 126 24 (nI (ss j))) e c s v))) (good : ∀ j m, bkS tc vl b i = some (.inr (j, m)) → j < t → ∀ (Y : Nat → xw) (v : Int32), nF I Y → Y 126 16 = nI (b + 1) → (∀ p, ¬ (4 * b ≤ p ∧ p < 4 * b + 4) → Y 133 p = X 133 p) → Y 133 (4 * b) = nI (vl (i + 1)) → Y 133 (4 * b + 1) = nI (vl (i + 1 + 1 + 1)) → Y 133 (4 * b + 2) = nI (tc (i + 1 + 1 + 1 + 1) - 10) → Y 133 (4 * b + 3) = nI m → Q (some (.int (nI 1))) (xq_s g J (ms Y (en (j + 1)) (tc (j + 1)) (ss (j + 1)) v))) (no : ¬ bkS tc vl b i = none) : xq_wp (d + 7) 200 (xq_s g J (ms X (en i) (tc i) (ss i) v)) 0 [.ref 126, xq_un] [] Q := by
  have hbb : ∀ k, tc k < 2147483648 := fun k => by have := mT_b hM k; omega
  have hX := mT_nF hM hF
  have i1 := m_lt hX hi (by omega)
  unfold bkS at bad good no
  have hF0 : nF I (xq_w X 133 (4 * b + 3) (nI 0)) := nF_w hF (by omega)
  have hF1 : nF I (xq_w (xq_w (xq_w X 133 (4 * b + 3) (nI 0)) 126 28 (nI (vl (i + 1)))) 133 (4 * b + 0) (nI (vl (i + 1)))) := nF_w (nF_w hF0 (by omega)) (by omega)
  refine td_200 (d := d + 2) (k := b) hX hbb ⟨fun _ => ⟨h16, by omega, fun z => by omega, fun _ => ⟨h16, by omega, by omega, hi, fun v1 hv1 => ⟨i1, by omega, fun q1 => ⟨fun q2 v2 hv2 => ⟨by omega, ?_⟩, fun q2 => bad 2 (i + 1) (by rw [if_neg (fun z => z q1), if_pos q2]) _ _ _ _ _ hF0⟩, fun q1 => bad 1 (i + 1) (by rw [if_pos q1]) _ _ _ _ _ hF0⟩⟩⟩, fun z => absurd h8 z⟩
  rw [if_neg (fun z => z q1), if_neg (fun z => z q2)] at bad good no
  have i2 := m_lt hX i1 (show ¬ tc (i + 1) = 0 by omega)
  refine ⟨i2, fun q3 v3 hv3 => ?_, fun q3 => bad 1 _ (by rw [if_pos q3]) _ _ _ _ _ hF1⟩
  have i3 := m_lt hX i2 (show ¬ tc (i + 1 + 1) = 0 by omega)
  refine ⟨i3, by omega, fun q4 => ⟨fun q5 v4 hv4 => ⟨by omega, ?_⟩, fun q5 => bad 2 _ (by rw [if_neg (fun z => z q3), if_neg (fun z => z q4), if_pos (by omega)]) _ _ _ _ _ hF1⟩, fun q4 => bad 1 _ (by rw [if_neg (fun z => z q3), if_pos q4]) _ _ _ _ _ hF1⟩
  rw [if_neg (fun z => z q3), if_neg (fun z => z q4), if_neg (fun z => z (show vl (i + 1 + 1 + 1) ≤ 3 by omega))] at bad good no
  have i4 := m_lt hX i3 (show ¬ tc (i + 1 + 1 + 1) = 0 by omega)
  have hF2 : nF I (xq_w (xq_w (xq_w (xq_w (xq_w X 133 (4 * b + 3) (nI 0)) 126 28 (nI (vl (i + 1)))) 133 (4 * b + 0) (nI (vl (i + 1)))) 126 28 (nI (vl (i + 1 + 1 + 1)))) 133 (4 * b + 1) (nI (vl (i + 1 + 1 + 1)))) := nF_w (nF_w hF1 (by omega)) (by omega)
  have rest : (tc (i + 1 + 1 + 1 + 1) = 10 ∨ tc (i + 1 + 1 + 1 + 1) = 11) → xq_wp (d + 2 + 5) 200 (xq_s g J (ms (xq_w (xq_w (xq_w (xq_w (xq_w X 133 (4 * b + 3) (nI 0)) 126 28 (nI (vl (i + 1)))) 133 (4 * b + 0) (nI (vl (i + 1)))) 126 28 (nI (vl (i + 1 + 1 + 1)))) 133 (4 * b + 1) (nI (vl (i + 1 + 1 + 1)))) (en (i + 1 + 1 + 1 + 1)) (tc (i + 1 + 1 + 1 + 1)) (ss (i + 1 + 1 + 1 + 1)) v4)) 130 [.ref 126, .int (nI (4 * b))] [] Q := by
    intro q6
    rw [if_neg (fun z => z q6)] at bad good no
    have o16 : xq_w (xq_w (xq_w (xq_w (xq_w X 133 (4 * b + 3) (nI 0)) 126 28 (nI (vl (i + 1)))) 133 (4 * b + 0) (nI (vl (i + 1)))) 126 28 (nI (vl (i + 1 + 1 + 1)))) 133 (4 * b + 1) (nI (vl (i + 1 + 1 + 1))) 126 16 = nI b := by rw [xw_i (by omega), xw_x (by omega), xw_i (by omega), xw_x (by omega), xw_i (by omega)]; exact h16
    have o_ : ∀ p, ¬ (4 * b ≤ p ∧ p < 4 * b + 4) → xq_w (xq_w (xq_w (xq_w (xq_w X 133 (4 * b + 3) (nI 0)) 126 28 (nI (vl (i + 1)))) 133 (4 * b + 0) (nI (vl (i + 1)))) 126 28 (nI (vl (i + 1 + 1 + 1)))) 133 (4 * b + 1) (nI (vl (i + 1 + 1 + 1))) 133 p = X 133 p := fun p hp => by rw [xw_x (by omega), xw_i (by omega), xw_x (by omega), xw_i (by omega), xw_x (by omega)]
    have v0 : xq_w (xq_w (xq_w (xq_w (xq_w X 133 (4 * b + 3) (nI 0)) 126 28 (nI (vl (i + 1)))) 133 (4 * b + 0) (nI (vl (i + 1)))) 126 28 (nI (vl (i + 1 + 1 + 1)))) 133 (4 * b + 1) (nI (vl (i + 1 + 1 + 1))) 133 (4 * b) = nI (vl (i + 1)) := by rw [xw_x (by omega), xw_i (by omega)]; exact xw_v
    have v1' : xq_w (xq_w (xq_w (xq_w (xq_w X 133 (4 * b + 3) (nI 0)) 126 28 (nI (vl (i + 1)))) 133 (4 * b + 0) (nI (vl (i + 1)))) 126 28 (nI (vl (i + 1 + 1 + 1)))) 133 (4 * b + 1) (nI (vl (i + 1 + 1 + 1))) 133 (4 * b + 1) = nI (vl (i + 1 + 1 + 1)) := xw_v
    have v3' : xq_w (xq_w (xq_w (xq_w (xq_w X 133 (4 * b + 3) (nI 0)) 126 28 (nI (vl (i + 1)))) 133 (4 * b + 0) (nI (vl (i + 1)))) 126 28 (nI (vl (i + 1 + 1 + 1)))) 133 (4 * b + 1) (nI (vl (i + 1 + 1 + 1))) 133 (4 * b + 3) = nI 0 := by rw [xw_x (by omega), xw_i (by omega), xw_x (by omega), xw_i (by omega), xw_v]
    generalize xq_w (xq_w (xq_w (xq_w (xq_w X 133 (4 * b + 3) (nI 0)) 126 28 (nI (vl (i + 1)))) 133 (4 * b + 0) (nI (vl (i + 1)))) 126 28 (nI (vl (i + 1 + 1 + 1)))) 133 (4 * b + 1) (nI (vl (i + 1 + 1 + 1))) = X2 at *
    have hX2 := mT_nF hM hF2
    have i5 := m_lt hX i4 (show ¬ tc (i + 1 + 1 + 1 + 1) = 0 by omega)
    have hF3 : nF I (xq_w X2 133 (4 * b + 2) (nI (tc (i + 1 + 1 + 1 + 1) - 10))) := nF_w hF2 (by omega)
    refine td_200_130 (d := d + 3) hX2 hbb ⟨by omega, by omega, by omega, i4, fun v5 hv5 => ?_⟩
    -- behind the neighbours
    have fin : ∀ (j m : Nat) (Y : Nat → xw) (v6 : Int32), j ≤ t → nF I Y → Y 126 16 = nI b → (∀ p, ¬ p = 4 * b + 3 → Y 133 p = xq_w X2 133 (4 * b + 2) (nI (tc (i + 1 + 1 + 1 + 1) - 10)) 133 p) → Y 133 (4 * b + 3) = nI m → nbW tc vl b (i + 1 + 1 + 1 + 1 + 1) = some (.inr (j, m)) → xq_wp (d + 3 + 4) 200 (xq_s g J (ms Y (en j) (tc j) (ss j) v6)) 154 [.ref 126, .int (nI (4 * b))] [.int (nI 1)] Q := by
      intro j m Y v6 hj g1 g2 g3 g4 e
      rw [e] at bad good
      dsimp only at bad good
      refine td_200_154_1 (d := d + 2) (k := b) (mT_nF hM g1) hbb ⟨hj, fun q8 v7 hv7 => ⟨g2, ?_⟩, fun q8 => bad 1 j (by rw [if_neg q8]) Y _ _ _ _ g1⟩
      refine good j m (by rw [if_pos q8]) (by have := m_lt hX hj (show ¬ tc j = 0 by omega); omega) _ _ (nF_w g1 (by omega)) xw_v (fun p hp => ?_) ?_ ?_ ?_ ?_
      · rw [xw_i (by omega), g3 p (by omega), xw_x (by omega)]; exact o_ p hp
      · rw [xw_i (by omega), g3 _ (by omega), xw_x (by omega)]; exact v0
      · rw [xw_i (by omega), g3 _ (by omega), xw_x (by omega)]; exact v1'
      · rw [xw_i (by omega), g3 _ (by omega), xw_v]
      · rw [xw_i (by omega)]; exact g4
    refine td_201 (d := d + 6) (mT_nF hM hF3) hbb ⟨fun q7 => ?_, fun q7 => ?_⟩
    · have en' : nbW tc vl b (i + 1 + 1 + 1 + 1 + 1) = nbS tc vl b 401 (i + 1 + 1 + 1 + 1 + 1) 0 := by rw [nbW, if_pos q7]
      refine xl_201_15 (d := d + 1) hM hb 401 (i + 1 + 1 + 1 + 1 + 1) 0 _ v5 i5 (by omega) (Nat.two_pow_pos b) hF3 (by rw [xw_i (by omega)]; exact o16) (by rw [xw_x (by omega)]; exact v3') (fun k j e Y e' c s v6 gY => xq_wp.ret (k := 3) (fun F => rfl) (bad k j (by rw [en', e]) Y e' c s v6 gY)) (fun j m' e hj Y v6 g1 g2 g3 g4 => fin j m' Y v6 hj g1 g2 g3 g4 (by rw [en', e])) (fun z => no (by rw [en', z]))
    · exact td_201_15_0 (d := d + 6) (mT_nF hM hF3) hbb (fin _ 0 _ v5 i5 hF3 (by rw [xw_i (by omega)]; exact o16) (fun p _ => rfl) (by rw [xw_x (by omega)]; exact v3') (by rw [nbW, if_neg q7]))
  exact ⟨fun q6 => rest (Or.inl q6), fun q6 => ⟨fun q7 => rest (Or.inr q7), fun q7 => bad 1 _ (by rw [if_pos (by omega)]) _ _ _ _ _ hF2⟩⟩
theorem xl_199_0 (hM : mT 0 I t tc vl ss en) : ∀ (f i : Nat) (acc : List (Nat × Nat × Nat × Nat)) (X : Nat → xw) (v : Int32), doK acc → i ≤ t → nF I X → X 126 16 = nI acc.length → doM acc (X 133) → (∀ k j, doS tc vl f i acc = some (.inl (k, j)) → ∀ (Y : Nat → xw) (e c s : Nat) (v : Int32), nF I Y → Q (some (.int (nI 0))) (xq_s g J (ms (xq_w (xq_w Y 126 23 (nI k)) 126 24 (nI (ss j))) e c s v))) → (∀ a, doS tc vl f i acc = some (.inr a) → doK a → ∀ (Y : Nat → xw) (e c s : Nat) (v : Int32), nF I Y → Y 126 16 = nI a.length → doM a (Y 133) → Q (some (.int (nI 1))) (xq_s g J (ms Y e c s v))) → ¬ doS tc vl f i acc = none → xq_wp (d + 8) 199 (xq_s g J (ms X (en i) (tc i) (ss i) v)) 7 [.ref 126, .int (nI 1)] [] Q := by
  have hbb : ∀ k, tc k < 2147483648 := fun k => by have := mT_b hM k; omega
  intro f
  induction f with
  | zero => intro i acc X v _ _ _ _ _ _ _ no; exact absurd rfl no
  | succ f ih =>
    intro i acc X v hK hi hF h16 hR bad good no
    have h14 := hK.1
    have hX := mT_nF hM hF
    rw [doS] at bad good no
    have e29 : ∀ Y : Nat → xw, ∀ (e c s : Nat) (v : Int32), Q (some (.int (nI 0))) (xq_s g J (ms Y e c s v)) → xq_wp (d + 7 + 1) 199 (xq_s g J (ms Y e c s v)) 29 [.ref 126, .int (nI 1)] [.int (nI 0)] Q := fun Y e c s v q => xq_wp.ret (k := 7) (fun F => rfl) q
    refine tw_199_7_0 (d := d + 7) hX hbb ⟨fun z => good acc (by rw [if_pos z]) hK X _ _ _ _ hF h16 hR, fun z0 => ⟨by rw [hF.2 13 (by omega)]; obtain ⟨l, tp, st, sz, hG, -⟩ := hM; exact hG.2.2.1, ?_⟩⟩
    rw [if_neg z0] at bad good no
    by_cases z : tc i = 8
    · rw [if_neg (fun y => y z)] at bad good no
      by_cases q : acc.length = 14
      · rw [if_pos q] at bad
        exact td_200 (d := d + 2) (k := acc.length) hX hbb ⟨fun _ => ⟨h16, by omega, fun _ => e29 _ _ _ _ _ (bad 3 i rfl X _ _ _ _ hF), fun y => absurd q y⟩, fun y => absurd z y⟩
      · rw [if_neg q] at bad good no
        refine xl_200 (d := d) hM (b := acc.length) (by omega) hi z hF h16 (fun k j e Y e' c s v gY => e29 _ _ _ _ _ (bad k j (by rw [e]) Y _ _ _ _ gY)) (fun j m e hj Y v' g1 g2 g3 v0 v1 v2 v3 => ?_) (fun y => no (by rw [y]))
        rw [e] at bad good no
        dsimp only at bad good no
        refine tw_199_29_1 (d := d + 8) (mT_nF hM g1) hbb ?_
        refine ih (j + 1) _ Y _ (doK_s hK (by omega) e) (by omega) g1 (by rw [g2, len4]) (fun k hk => ?_) bad good no
        rw [len4] at hk
        rw [gD4]
        by_cases y : k < acc.length
        · rw [if_pos y, g3 _ (by omega), g3 _ (by omega), g3 _ (by omega), g3 _ (by omega)]
          exact hR k y
        · have y2 : k = acc.length := by omega
          rw [if_neg y, if_pos y2, y2]
          exact ⟨v0, v1, v2, v3⟩
    · rw [if_pos z] at bad
      exact td_200 (d := d + 2) (k := acc.length) hX hbb ⟨fun y => absurd y z, fun _ => e29 _ _ _ _ _ (bad 1 i rfl X _ _ _ _ hF)⟩
end xk_td
