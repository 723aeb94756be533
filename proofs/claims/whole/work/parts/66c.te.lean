/-! text: how it ends -/
def x0 (r : Nat) (X : Nat → xw) : Nat → xw := xq_w (xq_w (xq_w (xq_w (xq_w X 126 25 (nI 0)) 126 27 (Int32.ofInt (-1))) 126 23 (nI 0)) 126 19 (nI 0)) 126 13 (nI r)
/-- the model, once it told a fault -/
def xf (S : Nat → xw) : Nat → xw := xq_w (xq_w (xq_w S 126 18 (nI 0)) 126 25 (S 126 23)) 126 27 (S 126 24)
section xk_te
variable {d : Nat} {g : xq_V} {J : Nat → Nat → Int64} {I I1 X Y F A : Nat → xw} {Q : Option Value → xq_S → Prop} {n ns n0 ns0 r l t k s j : Nat} {W V : xw} {tp st sz : Nat → Nat}
theorem x0_a {a : Nat} (h : ¬ a = 126) : x0 r X a = X a := by unfold x0; rw [xw_i h, xw_i h, xw_i h, xw_i h, xw_i h]
theorem x0_j {j : Nat} (h : ¬ j = 13 ∧ ¬ j = 19 ∧ ¬ j = 23 ∧ ¬ j = 25 ∧ ¬ j = 27) : x0 r X 126 j = X 126 j := by unfold x0; rw [xw_x (by omega), xw_x (by omega), xw_x (by omega), xw_x (by omega), xw_x (by omega)]
theorem x0_13 : x0 r X 126 13 = nI r := xw_v
theorem x0_25 : x0 r X 126 25 = nI 0 := by unfold x0; rw [xw_x (by omega), xw_x (by omega), xw_x (by omega), xw_x (by omega), xw_v]
theorem x0_27 : x0 r X 126 27 = Int32.ofInt (-1) := by unfold x0; rw [xw_x (by omega), xw_x (by omega), xw_x (by omega), xw_v]
theorem msa {a e c s : Nat} {v : Int32} (h : ¬ a = 126) : ms Y e c s v a = Y a := by unfold ms; rw [xw_i h, xw_i h, xw_i h, xw_i h]
theorem msj {j e c s : Nat} {v : Int32} (h : ¬ (19 ≤ j ∧ j < 23)) : ms Y e c s v 126 j = Y 126 j := by unfold ms; rw [xw_x (by omega), xw_x (by omega), xw_x (by omega), xw_x (by omega)]
theorem iv_same (hi : iv g I) (e : ∀ a, ¬ a = 34 → ¬ (104 ≤ a ∧ a < 127) → ¬ (131 ≤ a ∧ a < 136) → F a = I a) (eA : ∀ j, j = 4 ∨ j = 5 ∨ j = 29 → F 126 j = I 126 j) (e34 : F 34 4 = nI 0) (e1 : F 104 1 = nI 0) (e18 : F 126 18 = nI 0) (e8 : F 104 8 = F 126 25) (e9 : F 104 9 = F 126 27) : iv g F := by
  have hi' := hi
  obtain ⟨n, ns, ⟨a1, a2, a2b, a3, a4, a5⟩, hT, hP, _, _, hH, _, _⟩ := hi
  have e127 : F 127 = I 127 := e 127 (by omega) (by omega) (by omega)
  refine iv_tx (n := n) (ns := ns) hi' ?_ ?_ (ivH_fr a1.1.2.1 hH (fun a ha => e a (by omega) (by omega) (by omega)) (eA 4 (by omega)) (by rw [e127]; exact Nat.le_refl _)) (fun a ha => e a (by omega) (by omega) (by omega)) (eA 5 (by omega)) e34 e1 e18 e8 e9
  · unfold ivA
    rw [e127]
    exact ⟨a1, a2, a2b, CR_cells a3 (fun a ha => e a (by omega) (by omega) (by omega)) (by rw [e 32 (by omega) (by omega) (by omega)]), by rw [e 32 (by omega) (by omega) (by omega)]; exact a4, (eA 29 (by omega)).trans a5⟩
  · unfold ivP at hP ⊢
    rw [e127, e 14 (by omega) (by omega) (by omega), e 15 (by omega) (by omega) (by omega), e 16 (by omega) (by omega) (by omega), e 17 (by omega) (by omega) (by omega)]
    exact hP
/-- the ends of a text that is refused -/
theorem iv_bad {e c s' : Nat} {v : Int32} (hi : iv g I) (hX : ∀ a, ¬ a = 34 → ¬ (104 ≤ a ∧ a < 126) → X a = I a) (x34 : X 34 4 = nI 0) (x1 : X 104 1 = nI 0) (x8 : X 104 8 = nI k) (x9 : X 104 9 = nI s) (hY : nF (x0 r X) Y) : iv g (xf (ms (xq_w (xq_w Y 126 23 (nI k)) 126 24 (nI s)) e c s' v)) := by
  have fa : ∀ a, ¬ a = 126 → ¬ (131 ≤ a ∧ a < 135) → xf (ms (xq_w (xq_w Y 126 23 (nI k)) 126 24 (nI s)) e c s' v) a = X a := fun a a1 a2 => by
    unfold xf
    rw [xw_i a1, xw_i a1, xw_i a1, msa a1, xw_i a1, xw_i a1, hY.1 a a1 a2, x0_a a1]
  have s23 : ms (xq_w (xq_w Y 126 23 (nI k)) 126 24 (nI s)) e c s' v 126 23 = nI k := by rw [msj (by omega), xw_x (by omega), xw_v]
  have s24 : ms (xq_w (xq_w Y 126 23 (nI k)) 126 24 (nI s)) e c s' v 126 24 = nI s := by rw [msj (by omega), xw_v]
  refine iv_same hi (fun a a1 a2 a3 => (fa a (by omega) (by omega)).trans (hX a a1 (by omega))) (fun j hj => ?_) ?_ ?_ ?_ ?_ ?_
  · unfold xf
    rw [xw_x (by omega), xw_x (by omega), xw_x (by omega), msj (by omega), xw_x (by omega), xw_x (by omega), hY.2 j (by omega), x0_j (by omega), hX 126 (by omega) (by omega)]
  · rw [fa 34 (by omega) (by omega)]; exact x34
  · rw [fa 104 (by omega) (by omega)]; exact x1
  · unfold xf; rw [xw_x (by omega), xw_x (by omega), xw_v]
  · rw [fa 104 (by omega) (by omega), x8]; unfold xf; rw [xw_x (by omega), xw_v, s23]
  · rw [fa 104 (by omega) (by omega), x9]; unfold xf; rw [xw_v, s24]
theorem ok_e (ho : ok n ns W) (e : ∀ p, p < 1075 → V p = W p) (hl : sp_law V) : ok n ns V := by
  obtain ⟨s1, sb, s2, s3, s4, s5, s6, s7, s8⟩ := okS_ext (ok_S ho) (fun p hp => e p (by omega))
  have := ho.1.2.2.2
  exact ⟨s1, sb, s2, s3, s4, s5, s6, s7, s8, ok9_fr ho.2.2.2.2.2.2.2.2.2.1 (fun k hk => e _ (by omega)), hl⟩
theorem bkw_e (ho : ok n ns W) (h : bkw W) (e : ∀ p, p < 1075 → V p = W p) : bkw V := by
  obtain ⟨l, hl, el⟩ := ho.2.1
  intro i hi
  have i6 : sp_ix V 6 = l := xk_ix (by rw [e 6 (by omega)]; exact el) (by omega)
  have := h i (by rw [xk_ix el (by omega)]; omega)
  rw [e _ (by omega), e _ (by omega), e _ (by omega)]
  exact this
theorem CR_e (ho : ok n ns W) (h : CR true n ns I (xcR true I) W) (e : ∀ p, p < 1075 → V p = W p) (eX : ∀ a, (2 ≤ a ∧ a < 9) ∨ (18 ≤ a ∧ a < 33) → X a = I a) (hl : cLaw (X 9 0) (X 10) (X 11) V) : CR true n ns X (xcR true X) V := by
  have n14 := ho.1.2.1
  have ns8 := ho.1.2.2.2
  have hG := CR_G h
  have hB := (CR_B h).1 rfl
  obtain ⟨l, hl6, el⟩ := ho.2.1
  have i6 : sp_ix V 6 = l := xk_ix (by rw [e 6 (by omega)]; exact el) (by omega)
  have i6' : sp_ix W 6 = l := xk_ix el (by omega)
  refine CR_mk ?_ hl (by show X 32 4 = nI 1; rw [eX 32 (by omega)]; exact CR_real h) ?_ ⟨fun _ => ⟨?_, ?_, fun i hi => ?_⟩, fun z => absurd z (by decide)⟩
  · unfold cG at hG ⊢
    rw [eX 2 (by omega), eX 3 (by omega), eX 4 (by omega), eX 5 (by omega), eX 6 (by omega), eX 7 (by omega), eX 8 (by omega)]
    refine ⟨hG.1.trans (e 0 (by omega)).symm, hG.2.1.trans (e 1 (by omega)).symm, fun b hb => ?_, fun k hk => ?_⟩
    · rw [e _ (by omega), e _ (by omega), e _ (by omega), e _ (by omega)]; exact hG.2.2.1 b hb
    · rw [e _ (by omega), e _ (by omega)]; exact hG.2.2.2 k hk
  · have er : ∀ i, i < 9 → xcR true X i = xcR true I i := by
      intro i hi
      match i, hi with
      | 0, _ | 1, _ | 2, _ | 3, _ | 4, _ | 5, _ | 6, _ | 7, _ | 8, _ => exact eX _ (by decide)
      | i + 9, h => exact absurd h (by omega)
    exact cSt_ext (cSt_V n14 (CR_cSt h) (fun p hp => e p (by omega))) n14 (fun j _ _ => congrFun (er 0 (by omega)) j) (fun j _ => congrFun (er 1 (by omega)) j) (fun j _ => congrFun (er 2 (by omega)) j) (fun i j i1 i2 _ => congrFun (er i (by omega)) j) (fun j _ => congrFun (er 8 (by omega)) j)
  · show X 27 0 = nI 200
    rw [eX 27 (by omega)]; exact hB.1
  · show X 27 1 = V 6
    rw [eX 27 (by omega), e 6 (by omega)]; exact hB.2.1
  · show X 28 i = V (270 + 4 * i) ∧ X 29 i = V (270 + 4 * i + 1) ∧ X 30 i = V (270 + 4 * i + 2) ∧ X 31 i = V (270 + 4 * i + 3)
    rw [eX 28 (by omega), eX 29 (by omega), eX 30 (by omega), eX 31 (by omega), e _ (by omega), e _ (by omega), e _ (by omega), e _ (by omega)]
    exact hB.2.2 i (by omega)
/-- the model begins -/
theorem md_in (hr : r < 4) (hl : l ≤ 400) (htl : t ≤ l) (h18 : X 126 18 = nI l) (h135 : ∀ p, p < l → X 135 p = nI (tp p) ∧ tp p < 256) (hP : tkP tp l t st sz) (h : ∀ v : Int32, mT r (x0 r X) t (tcF r tp t st sz) (vlF tp st sz) (ssF l t st) (enF l t st sz) → (tcF r tp t st sz 0 = 2 → v = nI (vlF tp st sz 0)) → xq_wp 90 169 (xq_s g J (ms (x0 r X) (enF l t st sz 0) (tcF r tp t st sz 0) (ssF l t st 0) v)) 45 [.ref 126, .int (nI r), xq_un] [] Q) : xq_wp 90 169 (xq_s g J X) 0 [.ref 126, .int (nI r), xq_un] [] Q := by
  have hG : mG r l tp (x0 r X) := ⟨hr, hl, x0_13, by rw [x0_j (by omega)]; exact h18, fun p hp => by rw [x0_a (by omega)]; exact h135 p hp⟩
  refine ty_169 (d := 89) ⟨fun z => ?_, fun _ => ⟨fun z => ?_, fun _ => ?_⟩⟩
  · rw [xn_lt (by omega) (by omega)] at z; omega
  · rw [xn_lt (by omega) (by omega)] at z; omega
  · refine xl_170 (d := 86) (I := x0 r X) (r := r) (j := 0) hG hP (Nat.zero_le _) ?_ (fun v hv => h v ⟨l, tp, st, sz, hG, hP, htl, rfl, rfl, rfl, rfl⟩ hv)
    unfold x0; rw [xw_x (by omega), xw_v]; rfl
end xk_te
