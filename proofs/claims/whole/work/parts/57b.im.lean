/-! THE IMAGE: what holds of a yard holds of its copy -/
section xk_im2
variable {g : xq_V} {J : Nat → Nat → Int64} {I I' IA IB : Nat → xw} {n ns a b cnt : Nat} {W : xw}
theorem CR_yc (ho : ok n ns W) (h : CR true n ns IB (xcR true IB) W) (hc : W 6 = nI cnt) (hcnt : cnt ≤ 200) (hy : yc I' I a b cnt) (eA : ∀ k, 1 ≤ k → k < 32 → IA k = I' (a + (k - 1))) (eB : ∀ k, 1 ≤ k → k < 32 → IB k = I (b + (k - 1))) (h0 : IA 27 0 = nI 200) (hr : IA 32 4 = nI 1) : CR true n ns IA (xcR true IA) W := by
  obtain ⟨⟨y1, y2, y3, y4⟩, ⟨y5, y6, y7⟩, -, ⟨y8, y9, y10, y11, y12⟩, ⟨y13, y14, y15⟩⟩ := hy
  have n14 := ho.1.2.1
  have ns8 := ho.1.2.2.2
  have hG := CR_G h
  have hB := (CR_B h).1 rfl
  have i6 : sp_ix W 6 = cnt := xk_ix hc (by omega)
  refine CR_mk ⟨?_, ?_, fun b hb => ⟨?_, ⟨?_, ?_⟩, ?_⟩, fun k hk => ⟨?_, ?_⟩⟩ ?_ hr ?_ ⟨fun _ => ⟨h0, ?_, fun i hi => ⟨?_, ?_, ?_, ?_⟩⟩, fun z => absurd z (by decide)⟩
  · rw [← hG.1, eA 2 (by omega) (by omega), eB 2 (by omega) (by omega)]; exact y1
  · rw [← hG.2.1, eA 2 (by omega) (by omega), eB 2 (by omega) (by omega)]; exact y2
  · rw [← (hG.2.2.1 b hb).1, eA 3 (by omega) (by omega), eB 3 (by omega) (by omega)]; exact y3 0 b (by omega) (by omega)
  · rw [← (hG.2.2.1 b hb).2.1.1, eA 5 (by omega) (by omega), eB 5 (by omega) (by omega)]; exact y3 2 b (by omega) (by omega)
  · rw [← (hG.2.2.1 b hb).2.1.2, eA 4 (by omega) (by omega), eB 4 (by omega) (by omega)]; exact y3 1 b (by omega) (by omega)
  · rw [← (hG.2.2.1 b hb).2.2, eA 6 (by omega) (by omega), eB 6 (by omega) (by omega)]; exact y3 3 b (by omega) (by omega)
  · rw [← (hG.2.2.2 k hk).1, eA 7 (by omega) (by omega), eB 7 (by omega) (by omega)]; exact y4 0 k (by omega) (by omega)
  · rw [← (hG.2.2.2 k hk).2, eA 8 (by omega) (by omega), eB 8 (by omega) (by omega)]; exact y4 1 k (by omega) (by omega)
  · refine cLaw_ext (CR_law h) ?_ (fun j hj => ?_) (fun j hj => ?_)
    · rw [eA 9 (by omega) (by omega), eB 9 (by omega) (by omega)]; exact y5
    · rw [eA 10 (by omega) (by omega), eB 10 (by omega) (by omega)]; exact y6 j hj
    · rw [eA 11 (by omega) (by omega), eB 11 (by omega) (by omega)]; exact y7 j hj
  · refine cSt_ext (CR_cSt h) n14 (fun j j1 j2 => ?_) (fun j hj => ?_) (fun j hj => ?_) (fun i j i1 i2 hj => ?_) (fun j hj => ?_)
    · show IA 18 j = IB 18 j
      rw [eA 18 (by omega) (by omega), eB 18 (by omega) (by omega)]; exact y8 j j1 j2
    · show IA 19 j = IB 19 j
      rw [eA 19 (by omega) (by omega), eB 19 (by omega) (by omega)]; exact y9 j hj
    · show IA 20 j = IB 20 j
      rw [eA 20 (by omega) (by omega), eB 20 (by omega) (by omega)]; exact y10 j hj
    · have : i = 3 ∨ i = 4 ∨ i = 5 ∨ i = 6 ∨ i = 7 := by omega
      rcases this with e | e | e | e | e <;> subst e
      · show IA 21 j = IB 21 j
        rw [eA 21 (by omega) (by omega), eB 21 (by omega) (by omega)]; exact y11 0 j (by omega) hj
      · show IA 22 j = IB 22 j
        rw [eA 22 (by omega) (by omega), eB 22 (by omega) (by omega)]; exact y11 1 j (by omega) hj
      · show IA 23 j = IB 23 j
        rw [eA 23 (by omega) (by omega), eB 23 (by omega) (by omega)]; exact y11 2 j (by omega) hj
      · show IA 24 j = IB 24 j
        rw [eA 24 (by omega) (by omega), eB 24 (by omega) (by omega)]; exact y11 3 j (by omega) hj
      · show IA 25 j = IB 25 j
        rw [eA 25 (by omega) (by omega), eB 25 (by omega) (by omega)]; exact y11 4 j (by omega) hj
    · show IA 26 j = IB 26 j
      rw [eA 26 (by omega) (by omega), eB 26 (by omega) (by omega)]; exact y12 j hj
  · show IA 27 1 = W 6
    rw [hc, eA 27 (by omega) (by omega)]; exact y14
  · rw [← (hB.2.2 i hi).1]
    show IA 28 i = IB 28 i
    rw [eA 28 (by omega) (by omega), eB 28 (by omega) (by omega)]; exact y15 0 i (by omega) (by omega)
  · rw [← (hB.2.2 i hi).2.1]
    show IA 29 i = IB 29 i
    rw [eA 29 (by omega) (by omega), eB 29 (by omega) (by omega)]; exact y15 1 i (by omega) (by omega)
  · rw [← (hB.2.2 i hi).2.2.1]
    show IA 30 i = IB 30 i
    rw [eA 30 (by omega) (by omega), eB 30 (by omega) (by omega)]; exact y15 2 i (by omega) (by omega)
  · rw [← (hB.2.2 i hi).2.2.2]
    show IA 31 i = IB 31 i
    rw [eA 31 (by omega) (by omega), eB 31 (by omega) (by omega)]; exact y15 3 i (by omega) (by omega)
theorem plR_yc (h : plR (IB 14 0) (IB 15) (IB 16) (IB 17) W) (hy : yc I' I a b cnt) (eA : ∀ k, 1 ≤ k → k < 32 → IA k = I' (a + (k - 1))) (eB : ∀ k, 1 ≤ k → k < 32 → IB k = I (b + (k - 1))) : plR (IA 14 0) (IA 15) (IA 16) (IA 17) W := by
  obtain ⟨-, -, ⟨y1, y2⟩, -⟩ := hy
  obtain ⟨s, h1, h2, h3, h4⟩ := h
  refine ⟨s, h1, ?_, h3, fun i hi => ?_⟩
  · rw [← h2, eA 14 (by omega) (by omega), eB 14 (by omega) (by omega)]; exact y1
  · have := h4 i hi
    have e1 : IA 15 i = IB 15 i := by rw [eA 15 (by omega) (by omega), eB 15 (by omega) (by omega)]; exact y2 0 i (by omega) (by omega)
    have e2 : IA 16 i = IB 16 i := by rw [eA 16 (by omega) (by omega), eB 16 (by omega) (by omega)]; exact y2 1 i (by omega) (by omega)
    have e3 : IA 17 i = IB 17 i := by rw [eA 17 (by omega) (by omega), eB 17 (by omega) (by omega)]; exact y2 2 i (by omega) (by omega)
    unfold plS at this ⊢
    rw [e1, e2, e3]
    exact this
theorem sh_y1 : shY (xq_s g J I) 1 := by
  refine ⟨by show _ < g.1 + 143; omega, rfl, rfl, rfl, rfl, rfl, rfl, ⟨fun j hj => ?_, rfl, rfl, rfl, rfl, rfl, rfl⟩, ⟨fun j hj => ?_, rfl, rfl⟩, ⟨fun j hj => ?_, rfl, rfl, rfl⟩, sh_18, ⟨fun j hj => ?_, rfl, rfl, rfl, rfl⟩⟩
  · match j, hj with
    | 0, _ | 1, _ | 2, _ | 3, _ | 4, _ | 5, _ | 6, _ => exact ⟨by show _ < g.1 + 143; omega, rfl⟩
    | j + 7, h => exact absurd h (by omega)
  · match j, hj with
    | 0, _ | 1, _ | 2, _ | 3, _ | 4, _ => exact ⟨by show _ < g.1 + 143; omega, rfl⟩
    | j + 5, h => exact absurd h (by omega)
  · match j, hj with
    | 0, _ | 1, _ | 2, _ | 3, _ => exact ⟨by show _ < g.1 + 143; omega, rfl⟩
    | j + 4, h => exact absurd h (by omega)
  · match j, hj with
    | 0, _ | 1, _ | 2, _ | 3, _ | 4, _ => exact ⟨by show _ < g.1 + 143; omega, rfl⟩
    | j + 5, h => exact absurd h (by omega)
end xk_im2
