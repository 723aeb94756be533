/-! text: the model's four readings, to the end (written by program) -/
section xk_tf
variable {g : xq_V} {J : Nat → Nat → Int64} {I I1 X Y F : Nat → xw} {n ns t k j : Nat} {tc vl ss en : Nat → Nat} {v : Int32}
theorem md_0b (hi : iv g I) (hM : mT 0 (x0 0 X) t tc vl ss en) (h4 : t ≤ 400) (hvi : tc 0 = 2 → v = nI (vl 0)) (e : doS tc vl 15 0 [] = some (.inl (k, j))) (hX : ∀ a, ¬ a = 34 → ¬ (104 ≤ a ∧ a < 126) → X a = I a) (x34 : X 34 4 = nI 0) (x1 : X 104 1 = nI 0) (x8 : X 104 8 = nI k) (x9 : X 104 9 = nI (ss j)) : xq_wp 90 169 (xq_s g J (ms (x0 0 X) (en 0) (tc 0) (ss 0) v)) 45 [.ref 126, .int (nI 0), xq_un] [] (fun v2 x2 => v2 = some (.int (Int32.ofInt (-1))) ∧ Inv x2) := by
  refine ty_169_45_0 (d := 89) (tw_199_0 (d := 89) hM (fun k => by have := mT_b hM k; omega) (xl_199_0 (d := 81) hM 15 0 [] _ v ⟨Nat.zero_le _, fun k hk => absurd hk (by show ¬ k < 0; omega)⟩ (Nat.zero_le _) (nF_w nF_0 (by omega)) xw_v (fun k hk => absurd hk (by show ¬ k < 0; omega)) (fun k' j' e' Y _ c s v gY => ?_) (fun p e' => absurd (e.symm.trans e') (by simp)) (by rw [e]; simp)))
  obtain ⟨rfl, rfl⟩ := Prod.mk.inj (Sum.inl.inj (Option.some.inj (e.symm.trans e')))
  exact ty_169_73_0_0 (d := 90) ⟨rfl, g, J, _, rfl, iv_bad hi hX x34 x1 x8 x9 gY⟩
theorem md_1b (hi : iv g I) (hM : mT 1 (x0 1 X) t tc vl ss en) (h4 : t ≤ 400) (hvi : tc 0 = 2 → v = nI (vl 0)) (e : wyS tc vl 9 0 [] = some (.inl (k, j))) (hX : ∀ a, ¬ a = 34 → ¬ (104 ≤ a ∧ a < 126) → X a = I a) (x34 : X 34 4 = nI 0) (x1 : X 104 1 = nI 0) (x8 : X 104 8 = nI k) (x9 : X 104 9 = nI (ss j)) : xq_wp 90 169 (xq_s g J (ms (x0 1 X) (en 0) (tc 0) (ss 0) v)) 45 [.ref 126, .int (nI 1), xq_un] [] (fun v2 x2 => v2 = some (.int (Int32.ofInt (-1))) ∧ Inv x2) := by
  refine ty_169_45_1 (d := 89) (tw_199_1 (d := 89) hM (fun k => by have := mT_b hM k; omega) (xl_199_1 (d := 83) hM 9 0 [] _ v (Nat.zero_le _) (Nat.zero_le _) (nF_w nF_0 (by omega)) xw_v (fun k hk => absurd hk (by show ¬ k < 0; omega)) (fun k' j' e' Y _ c s v gY => ?_) (fun p e' => absurd (e.symm.trans e') (by simp)) (by rw [e]; simp)))
  obtain ⟨rfl, rfl⟩ := Prod.mk.inj (Sum.inl.inj (Option.some.inj (e.symm.trans e')))
  exact ty_169_73_1_0 (d := 90) ⟨rfl, g, J, _, rfl, iv_bad hi hX x34 x1 x8 x9 gY⟩
theorem md_2b (hi : iv g I) (hM : mT 2 (x0 2 X) t tc vl ss en) (h4 : t ≤ 400) (hvi : tc 0 = 2 → v = nI (vl 0)) (e : lwX tc vl = some (.inl (k, j))) (hX : ∀ a, ¬ a = 34 → ¬ (104 ≤ a ∧ a < 126) → X a = I a) (x34 : X 34 4 = nI 0) (x1 : X 104 1 = nI 0) (x8 : X 104 8 = nI k) (x9 : X 104 9 = nI (ss j)) : xq_wp 90 169 (xq_s g J (ms (x0 2 X) (en 0) (tc 0) (ss 0) v)) 45 [.ref 126, .int (nI 2), xq_un] [] (fun v2 x2 => v2 = some (.int (Int32.ofInt (-1))) ∧ Inv x2) := by
  refine ty_169_45_2 (d := 89) (xl_180 (d := 54) hM h4 hvi nF_0 (fun k' j' e' Y _ c s v gY => ?_) (fun p e' => absurd (e.symm.trans e') (by simp)))
  obtain ⟨rfl, rfl⟩ := Prod.mk.inj (Sum.inl.inj (Option.some.inj (e.symm.trans e')))
  exact ty_169_54 (d := 90) (ty_169_73_2_0 (d := 90) ⟨rfl, g, J, _, rfl, iv_bad hi hX x34 x1 x8 x9 gY⟩)
theorem md_3b (hi : iv g I) (hM : mT 3 (x0 3 X) t tc vl ss en) (h4 : t ≤ 400) (hvi : tc 0 = 2 → v = nI (vl 0)) (e : plX tc vl = some (.inl (k, j))) (hX : ∀ a, ¬ a = 34 → ¬ (104 ≤ a ∧ a < 126) → X a = I a) (x34 : X 34 4 = nI 0) (x1 : X 104 1 = nI 0) (x8 : X 104 8 = nI k) (x9 : X 104 9 = nI (ss j)) : xq_wp 90 169 (xq_s g J (ms (x0 3 X) (en 0) (tc 0) (ss 0) v)) 45 [.ref 126, .int (nI 3), xq_un] [] (fun v2 x2 => v2 = some (.int (Int32.ofInt (-1))) ∧ Inv x2) := by
  refine ty_169_45_3 (d := 89) (xl_192 (d := 73) hM h4 nF_0 (fun k' j' e' Y _ c s v gY => ?_) (fun p e' => absurd (e.symm.trans e') (by simp)) (by rw [e]; simp))
  obtain ⟨rfl, rfl⟩ := Prod.mk.inj (Sum.inl.inj (Option.some.inj (e.symm.trans e')))
  exact ty_169_66 (d := 90) (ty_169_73_3_0 (d := 90) ⟨rfl, g, J, _, rfl, iv_bad hi hX x34 x1 x8 x9 gY⟩)
theorem md_2o {p : LL} (hi : iv g I) (hM : mT 2 (x0 2 X) t tc vl ss en) (h4 : t ≤ 400) (hvi : tc 0 = 2 → v = nI (vl 0)) (e : lwX tc vl = some (.inr p)) (hX : ∀ a, ¬ (9 ≤ a ∧ a < 12) → ¬ a = 34 → ¬ (104 ≤ a ∧ a < 126) → X a = I a) (x34 : X 34 4 = nI 0) (x1 : X 104 1 = nI 0) (x8 : X 104 8 = nI 0) (x9 : X 104 9 = Int32.ofInt (-1)) (c0 : X 9 0 = nI p.2.length) (hC : ∀ q, q < (cds p.1).length → X 10 q = nI ((cds p.1).getD q 0)) (hE : ∀ q, q < p.2.length → X 11 q = nI (cds (p.1.take (p.2.getD q (0, 0, 0)).2.2)).length) : xq_wp 90 169 (xq_s g J (ms (x0 2 X) (en 0) (tc 0) (ss 0) v)) 45 [.ref 126, .int (nI 2), xq_un] [] (fun v2 x2 => v2 = some (.int (nI p.2.length)) ∧ Inv x2) := by
  refine ty_169_45_2 (d := 89) (xl_180 (d := 54) hM h4 hvi nF_0 (fun k j e' => absurd (e.symm.trans e') (by simp)) (fun p' e' hK hl Y e1 c s v1 gY hY => ?_))
  obtain rfl : p = p' := Sum.inr.inj (Option.some.inj (e.symm.trans e'))
  have hla := cds_l p.1
  refine ty_169_54 (d := 90) (ty_169_73_2_1 (d := 89) (xl_203 (n := p.2.length) (m := p.1.length) hK.1 (by omega) (by rw [xw_x (by omega), msj (by omega)]; exact hY.1) (by rw [xw_x (by omega), msj (by omega)]; exact hY.2.1) (fun F o f f1 fl fs => ty_169_92 (d := 90) ⟨rfl, g, J, F, rfl, ?_⟩)))
  have fa : ∀ a, ¬ a = 126 → ¬ a = 127 → ¬ (131 ≤ a ∧ a < 135) → F a = X a := fun a a1 a2 a3 => by rw [o a a2, xw_i a1, msa a1, gY.1 a a1 a3, x0_a a1]
  have b127 : xq_w (ms Y e1 c s v1) 126 18 (nI 0) 127 = I 127 := by rw [xw_i (by omega), msa (by omega), gY.1 127 (by omega) (by omega), x0_a (by omega), hX 127 (by omega) (by omega) (by omega)]
  have fj : ∀ j, ¬ (14 ≤ j ∧ j < 25) → ¬ j = 26 → ¬ j = 28 → F 126 j = x0 2 X 126 j := fun j j1 j2 j3 => by rw [o 126 (by omega), xw_x (by omega), msj (by omega), gY.2 j (by omega)]
  rw [b127] at f
  have b131 : xq_w (ms Y e1 c s v1) 126 18 (nI 0) 131 = Y 131 := by rw [xw_i (by omega), msa (by omega)]
  have b132 : xq_w (ms Y e1 c s v1) 126 18 (nI 0) 132 = Y 132 := by rw [xw_i (by omega), msa (by omega)]
  have hrow : rowL p (F 127) := by
    refine ⟨f1, fun l hl => ?_, fun q hq => ?_⟩
    · rw [(fl l hl).1, (fl l hl).2.1, (fl l hl).2.2, b131]; exact hY.2.2.2 l hl
    · rw [fs _ (by omega), show 1140 + 2 * q + 1 = 1140 + (2 * q + 1) by omega, fs _ (by omega), b132]; exact hY.2.2.1 q hq
  have hi' := hi
  obtain ⟨n, ns, ⟨a1, a2, a2b, a3, a4, a5⟩, hT, hP, _, _, hH, _, _⟩ := hi
  have e6 : ∀ p, p < 1075 → F 127 p = I 127 p := fun p hp => f p (by omega)
  have ex : ∀ a, a < 104 → ¬ (9 ≤ a ∧ a < 12) → ¬ a = 34 → F a = I a := fun a h1 h2 h3 => (fa a (by omega) (by omega) (by omega)).trans (hX a h2 h3 (by omega))
  refine iv_tx (n := n) (ns := ns) hi' ⟨ok_e a1 e6 (law_sp hK (by omega) hrow), w9_fr a2 (e6 2 (by omega)), bkw_e a1 a2b e6, CR_e a1 a3 e6 (fun a ha => ex a (by omega) (by omega) (by omega)) ?_, ?_, ?_⟩ ?_ (ivH_fr a1.1.2.1 hH (fun a ha => ?_) ?_ ?_) (fun a ha => ?_) ?_ ?_ ?_ ?_ ?_ ?_
  · rw [fa 9 (by omega) (by omega) (by omega), fa 10 (by omega) (by omega) (by omega), fa 11 (by omega) (by omega) (by omega)]
    exact law_c hK (by omega) hrow c0 hC hE
  · rw [ex 32 (by omega) (by omega) (by omega)]; exact a4
  · rw [fj 29 (by omega) (by omega) (by omega), x0_j (by omega), hX 126 (by omega) (by omega) (by omega)]; exact a5
  · unfold ivP at hP ⊢
    rw [ex 14 (by omega) (by omega) (by omega), ex 15 (by omega) (by omega) (by omega), ex 16 (by omega) (by omega) (by omega), ex 17 (by omega) (by omega) (by omega)]
    exact plR_fr hP (fun p hp => f p (by omega))
  · by_cases z : a = 129
    · subst z; rw [fa 129 (by omega) (by omega) (by omega), hX 129 (by omega) (by omega) (by omega)]
    · exact ex a (by omega) (by omega) (by omega)
  · rw [fj 4 (by omega) (by omega) (by omega), x0_j (by omega), hX 126 (by omega) (by omega) (by omega)]
  · unfold sp_ix; rw [e6 6 (by omega)]; exact Nat.le_refl _
  · rw [fa a (by omega) (by omega) (by omega), hX a (by omega) (by omega) (by omega)]
  · rw [fj 5 (by omega) (by omega) (by omega), x0_j (by omega), hX 126 (by omega) (by omega) (by omega)]
  · rw [fa 34 (by omega) (by omega) (by omega)]; exact x34
  · rw [fa 104 (by omega) (by omega) (by omega)]; exact x1
  · rw [o 126 (by omega), xw_v]
  · rw [fa 104 (by omega) (by omega) (by omega), x8, fj 25 (by omega) (by omega) (by omega), x0_25]
  · rw [fa 104 (by omega) (by omega) (by omega), x9, fj 27 (by omega) (by omega) (by omega), x0_27]
theorem md_3o {p : PA} (hi : iv g I) (hM : mT 3 (x0 3 X) t tc vl ss en) (h4 : t ≤ 400) (hvi : tc 0 = 2 → v = nI (vl 0)) (e : plX tc vl = some (.inr p)) (hX : ∀ a, ¬ (14 ≤ a ∧ a < 18) → ¬ a = 34 → ¬ (104 ≤ a ∧ a < 126) → X a = I a) (x34 : X 34 4 = nI 0) (x1 : X 104 1 = nI 0) (x8 : X 104 8 = nI 0) (x9 : X 104 9 = Int32.ofInt (-1)) (c0 : X 14 0 = nI p.1) (hC : pR p (X 15) (X 16) (X 17)) : xq_wp 90 169 (xq_s g J (ms (x0 3 X) (en 0) (tc 0) (ss 0) v)) 45 [.ref 126, .int (nI 3), xq_un] [] (fun v2 x2 => v2 = some (.int (nI p.1)) ∧ Inv x2) := by
  refine ty_169_45_3 (d := 89) (xl_192 (d := 73) hM h4 nF_0 (fun k j e' => absurd (e.symm.trans e') (by simp)) (fun p' e' h100 hK Y e1 c s v1 gY y17 hY => ?_) (by rw [e]; simp))
  obtain rfl : p = p' := Sum.inr.inj (Option.some.inj (e.symm.trans e'))
  refine ty_169_66 (d := 90) (ty_169_73_3_1 (d := 89) (xl_204 (n := p.1) h100 (by rw [xw_x (by omega), msj (by omega)]; exact y17) (fun F o f f1 fs => ty_169_104 (d := 90) ⟨rfl, g, J, F, rfl, ?_⟩)))
  have fa : ∀ a, ¬ a = 126 → ¬ a = 127 → ¬ (131 ≤ a ∧ a < 135) → F a = X a := fun a a1 a2 a3 => by rw [o a a2, xw_i a1, msa a1, gY.1 a a1 a3, x0_a a1]
  have b127 : xq_w (ms Y e1 c s v1) 126 18 (nI 0) 127 = I 127 := by rw [xw_i (by omega), msa (by omega), gY.1 127 (by omega) (by omega), x0_a (by omega), hX 127 (by omega) (by omega) (by omega)]
  have fj : ∀ j, ¬ (14 ≤ j ∧ j < 25) → ¬ j = 26 → ¬ j = 28 → F 126 j = x0 3 X 126 j := fun j j1 j2 j3 => by rw [o 126 (by omega), xw_x (by omega), msj (by omega), gY.2 j (by omega)]
  rw [b127] at f
  have b134 : xq_w (ms Y e1 c s v1) 126 18 (nI 0) 134 = Y 134 := by rw [xw_i (by omega), msa (by omega)]
  have hi' := hi
  obtain ⟨n, ns, ⟨a1, a2, a2b, a3, a4, a5⟩, hT, hP, _, _, hH, _, _⟩ := hi
  have e6 : ∀ p, p < 1075 → F 127 p = I 127 p := fun p hp => f p (by omega)
  have ex : ∀ a, a < 104 → ¬ (14 ≤ a ∧ a < 18) → ¬ a = 34 → F a = I a := fun a h1 h2 h3 => (fa a (by omega) (by omega) (by omega)).trans (hX a h2 h3 (by omega))
  have hl := a1.2.2.2.2.2.2.2.2.2.2
  refine iv_tx (n := n) (ns := ns) hi' ⟨ok_e a1 e6 (sp_law_fr hl (fun p p1 p2 => f p (by omega))), w9_fr a2 (e6 2 (by omega)), bkw_e a1 a2b e6, CR_e a1 a3 e6 (fun a ha => ex a (by omega) (by omega) (by omega)) ?_, ?_, ?_⟩ ?_ (ivH_fr a1.1.2.1 hH (fun a ha => ?_) ?_ ?_) (fun a ha => ?_) ?_ ?_ ?_ ?_ ?_ ?_
  · rw [ex 9 (by omega) (by omega) (by omega), ex 10 (by omega) (by omega) (by omega), ex 11 (by omega) (by omega) (by omega)]
    exact cLaw_fr hl (CR_law a3) (fun p p1 p2 => f p (by omega))
  · rw [ex 32 (by omega) (by omega) (by omega)]; exact a4
  · rw [fj 29 (by omega) (by omega) (by omega), x0_j (by omega), hX 126 (by omega) (by omega) (by omega)]; exact a5
  · unfold ivP
    rw [fa 14 (by omega) (by omega) (by omega), fa 15 (by omega) (by omega) (by omega), fa 16 (by omega) (by omega) (by omega), fa 17 (by omega) (by omega) (by omega)]
    refine ⟨p.1, h100, c0, f1, fun i hi => ?_⟩
    obtain ⟨k1, k2, k3⟩ := hK i hi
    obtain ⟨r1, r2, r3⟩ := hC i hi (by omega)
    obtain ⟨m1, m2, m3⟩ := hY i hi (by omega)
    refine ⟨_, _, _, k1, k2, k3, r1, ?_, r2, ?_, r3, ?_⟩
    · rw [fs _ (by omega), b134]; exact m1
    · rw [show 1962 + 3 * i + 1 = 1962 + (3 * i + 1) by omega, fs _ (by omega), b134]; exact m2
    · rw [show 1962 + 3 * i + 2 = 1962 + (3 * i + 2) by omega, fs _ (by omega), b134]; exact m3
  · by_cases z : a = 129
    · subst z; rw [fa 129 (by omega) (by omega) (by omega), hX 129 (by omega) (by omega) (by omega)]
    · exact ex a (by omega) (by omega) (by omega)
  · rw [fj 4 (by omega) (by omega) (by omega), x0_j (by omega), hX 126 (by omega) (by omega) (by omega)]
  · unfold sp_ix; rw [e6 6 (by omega)]; exact Nat.le_refl _
  · rw [fa a (by omega) (by omega) (by omega), hX a (by omega) (by omega) (by omega)]
  · rw [fj 5 (by omega) (by omega) (by omega), x0_j (by omega), hX 126 (by omega) (by omega) (by omega)]
  · rw [fa 34 (by omega) (by omega) (by omega)]; exact x34
  · rw [fa 104 (by omega) (by omega) (by omega)]; exact x1
  · rw [o 126 (by omega), xw_v]
  · rw [fa 104 (by omega) (by omega) (by omega), x8, fj 25 (by omega) (by omega) (by omega), x0_25]
  · rw [fa 104 (by omega) (by omega) (by omega), x9, fj 27 (by omega) (by omega) (by omega), x0_27]
end xk_tf
