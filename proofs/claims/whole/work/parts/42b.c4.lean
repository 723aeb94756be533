/-! the class: hauling -/
section yk_c4
variable {d : Nat} {g : xq_V} {J : Nat → Nat → Int64} {I : Nat → Nat → Int32} {Q : Option Value → xq_S → Prop} {q : Bool} {n ns : Nat} {R R' : Nat → xw} {W W' N : xw}
/-- rows that count for nothing -/
theorem CR_scr (h : CR q n ns I R W) (e : ∀ i, i < 9 ∨ (11 ≤ i ∧ i < 16) → R' i = R i) (e4 : R' 9 4 = R 9 4) : CR q n ns I R' W := by
  obtain ⟨g1, g2, g3, g4, g5, g6, g7, g8, g9, g10, g11, g12, g13, g14⟩ := h
  refine ⟨g1, g2, e4.trans g3, ?_, fun i hi => ?_, fun i hi => ?_, fun i hi => ?_, fun i hi => ?_, fun b hb z => ?_, fun b hb => ?_, fun hq b k hb hk => ?_, ?_, ?_, g14⟩
  · unfold cT0; rw [e 0 (by omega)]; exact g4
  · rw [e 1 (by omega)]; exact g5 i hi
  · rw [e 2 (by omega)]; exact g6 i hi
  · rw [e 3 (by omega)]; exact g7 i hi
  · rw [e 4 (by omega)]; exact g8 i hi
  · rw [e 5 (by omega), e 6 (by omega)]; exact g9 b hb z
  · rw [e 7 (by omega)]; exact g10 b hb
  · rw [e 8 (by omega)]; exact g11 hq b k hb hk
  · unfold cB; rw [e 11 (by omega), e 12 (by omega), e 13 (by omega), e 14 (by omega), e 15 (by omega)]; exact g12
  · unfold cL; rw [e 0 (by omega)]; exact g13
theorem CR_wt {b e : Nat} (ho : ok n ns W) (h : CR q n ns I R W) (hb : b < n) (he : e < 5) : CR q n ns I (xq_w R 8 (b * 5 + e) (R 8 (b * 5 + e) + nI 1)) (sp_wt W b e) := by
  have n14 := ho.1.2.1
  refine CR_oth (F := fun p => p = 50 + 14 * b + (7 + e)) ho h (fun p hp => upd_ne hp) (fun p hp => ?_) (xw_i (by omega)) (xw_i (by omega)) (xw_i (by omega)) (xw_i (by omega)) (by rw [xw_i (by omega)]) (xw_i (by omega)) (xw_i (by omega)) (xw_i (by omega)) (xw_i (by omega)) (xw_i (by omega)) ⟨by rw [xw_i (by omega)], by rw [xw_i (by omega)]⟩ ?_ (fun i hi => ?_) (fun i hi => ?_) (fun b' hb' => ?_) (fun hq b' k hb' hk => ?_)
  · exact Or.inr (Or.inr (Or.inr (Or.inr (Or.inr (Or.inr ⟨b, 7 + e, by omega, by omega, hp⟩)))))
  · unfold cT0 sp_wt
    rw [xw_i (by omega), upd_ne (by omega), upd_ne (by omega), upd_ne (by omega), upd_ne (by omega), upd_ne (by omega)]
    exact CR_0 h
  · rw [xw_i (by omega), sp_wt, upd_ne (by omega)]; exact CR_1 h i hi
  · rw [xw_i (by omega), sp_wt, upd_ne (by omega)]; exact CR_2 h i hi
  · rw [xw_i (by omega), sp_wt, upd_ne (by omega)]; exact CR_7 h b' hb'
  · have h8 := CR_8 h hq
    by_cases z : b' = b ∧ k = e
    · obtain ⟨z1, z2⟩ := z
      subst z1 z2
      rw [xw_v, sp_wt, upd_eq, h8 b' k hb' hk]
    · rw [xw_x (by omega), sp_wt, upd_ne (by omega)]; exact h8 b' k hb' hk
theorem CR_went {b : Nat} {wet dn hv : Int32} (ho : ok n ns W) (h : CR q n ns I R W) (hb : b < n) (h2 : W (50 + 14 * b + 4) = nI 2) (e : dn + hv = W (50 + 14 * b + 6) + sp_haul W b wet) : CR q n ns I (xq_w R 6 b (dn + hv)) (sp_went W b wet) := by
  have n14 := ho.1.2.1
  refine CR_blk ho h hb (fun p h1 h2 h3 => upd_ne h3) (fun i h1 h2 h3 => xw_i h3) (fun i x hx => xw_x hx) ?_ (fun y => ⟨?_, ?_⟩) (by rw [h2]; decide) ?_
  · rw [xw_i (by omega), sp_went, upd_ne (by omega)]; exact CR_4 h b hb
  · rw [xw_i (by omega), sp_went, upd_ne (by omega)]; exact (CR_A h b hb h2).1
  · rw [xw_v, sp_went, upd_eq, e]
  · rw [sp_went, upd_ne (by omega), h2]; decide
/-- what holds while it is hauled -/
def HI (ns : Nat) (wet : Int32) (R : Nat → xw) (W N : xw) (fr : Int32) : Prop := R 9 6 = fr ∧ R 17 2 = W 3 ∧ R 17 3 = wet ∧ R 17 5 = W 2 ∧ R 17 6 = W 15 ∧ R 17 7 = W 10 ∧ ∀ k, k < ns → W (250 + 2 * k) = nI 3 → R 10 k = N k ∧ ∃ m l, m ≤ l ∧ l ≤ 99 ∧ N k = nI m ∧ W (250 + 2 * k + 1) = nI l
theorem HI_fr {wet fr : Int32} (h : HI ns wet R W N fr) (hs : ns ≤ 8) (e : ∀ p, st2 p → W' p = W p) : HI ns wet R W' N fr := by
  obtain ⟨h1, h2, h3, h4, h5, h6, h7⟩ := h
  refine ⟨h1, h2.trans (e 3 (by unfold st2; omega)).symm, h3, h4.trans (e 2 (by unfold st2; omega)).symm, h5.trans (e 15 (by unfold st2 stp; omega)).symm, h6.trans (e 10 (by unfold st2; omega)).symm, fun k hk z => ?_⟩
  rw [e _ (by unfold st2 stp; omega)] at z ⊢
  exact h7 k hk z
theorem HI_row {wet fr : Int32} (h : HI ns wet R W N fr) (e9 : R' 9 6 = R 9 6) (e10 : R' 10 = R 10) (e17 : R' 17 = R 17) : HI ns wet R' W N fr := by
  unfold HI
  rw [e9, e10, e17]
  exact h
theorem yl_82 {b k : Nat} {wet fr : Int32} (ho : ok n ns W) (h : CR q n ns I R W) (hb : b < n) (h2 : W (50 + 14 * b + 4) = nI 2) (hk : k < ns) (ek : W (50 + 14 * b + 5) = nI k) (H : HI ns wet R W N fr)
  (hp0 : ∀ R', CR q n ns I R' (sp_goes wet W N fr b).1 → HI ns wet R' (sp_goes wet W N fr b).1 (sp_goes wet W N fr b).2.1 (sp_goes wet W N fr b).2.2 → (∀ j, ¬ j = 6 → R' 9 j = R 9 j) → Q (some (.int (nI 0))) (xq_s g J (xc q I R')))
  (hp1 : ∀ (R' : Nat → xw) (W1 : xw), (sp_goes wet W N fr b).1 = sp_over W1 b → ok n ns W1 → CR q n ns I R' W1 → HI ns wet R' (sp_goes wet W N fr b).1 (sp_goes wet W N fr b).2.1 (sp_goes wet W N fr b).2.2 → (∀ j, ¬ j = 6 → R' 9 j = R 9 j) → W1 (50 + 14 * b + 4) = nI 2 → W1 (50 + 14 * b + 5) = nI k → Q (some (.int (nI 1))) (xq_s g J (xc q I R'))) :
  xq_wp (d + 2) 82 (xq_s g J (xc q I R)) 0 [.ref (xid q 9), .int (nI b), .int (nI k), xq_un, xq_un] [] Q := by
  have n14 := ho.1.2.1
  have ns8 := ho.1.2.2.2
  have ik : sp_ix W (50 + 14 * b + 5) = k := xk_ix ek (by omega)
  obtain ⟨gs, gl⟩ := (CR_G h).2.2.2 k hk
  have gz := ((CR_G h).2.2.1 b hb).1
  have e6 : R 6 b = W (50 + 14 * b + 6) := (CR_A h b hb h2).2
  obtain ⟨H1, H2, H3, H4, H5, H6, H7⟩ := H
  have hst : ∀ p, st2 p → (sp_goes wet W N fr b).1 p = W p := fun p hp => st2_goes ho hp hb
  have hT : sp_team W b = if I 7 k = nI 2 then nI 0 else if I 7 k = nI 1 then nI 2 * I 3 b else I 3 b := by rw [sp_team, ik, gs, gz]
  -- what is left for the invariant behind any end
  have hHI : ∀ (R' : Nat → xw) (W' N' : xw) (fr' : Int32), (∀ p, st2 p → W' p = W p) → R' 9 6 = fr' → R' 17 2 = R 17 2 → R' 17 3 = R 17 3 → R' 17 5 = R 17 5 → R' 17 6 = R 17 6 → R' 17 7 = R 17 7 → (∀ j, j < ns → W (250 + 2 * j) = nI 3 → R' 10 j = N' j ∧ ∃ m l, m ≤ l ∧ l ≤ 99 ∧ N' j = nI m ∧ W (250 + 2 * j + 1) = nI l) → HI ns wet R' W' N' fr' := by
    intro R' W' N' fr' e z1 z2 z3 z4 z5 z6 z7
    exact HI_fr ⟨z1, z2.trans H2, z3.trans H3, z4.trans H4, z5.trans H5, z6.trans H6, z7⟩ ns8 e
  have leafW : ∀ T, sp_team W b = T → R 9 6 < T → Q (some (.int (nI 0))) (xq_s g J (xc q I (xq_w R 8 (b * 5 + 0) (R 8 (b * 5 + 0) + nI 1)))) := by
    intro T eT z
    rw [← eT, H1] at z
    have eg : sp_goes wet W N fr b = (sp_wt W b 0, N, fr) := by rw [sp_goes, if_pos z]
    refine hp0 _ ?_ ?_ (fun j hj => by rw [xw_i (by omega)])
    · rw [eg]; exact CR_wt ho h hb (by omega)
    · rw [eg] at hst ⊢
      exact hHI _ _ _ _ hst (by rw [xw_i (by omega)]; exact H1) (by rw [xw_i (by omega)]) (by rw [xw_i (by omega)]) (by rw [xw_i (by omega)]) (by rw [xw_i (by omega)]) (by rw [xw_i (by omega)]) (fun j hj y => by rw [xw_i (by omega)]; exact H7 j hj y)
  have leafB2 : ∀ T, sp_team W b = T → ¬ R 9 6 < T → I 7 k = nI 3 → ¬ R 10 k < I 8 k → Q (some (.int (nI 0))) (xq_s g J (xc q I (xq_w R 8 (b * 5 + 1) (R 8 (b * 5 + 1) + nI 1)))) := by
    intro T eT z z1 z2
    rw [← eT, H1] at z
    rw [gs] at z1
    obtain ⟨r10, m, l, ml, l99, eN, el⟩ := H7 k hk z1
    rw [r10, gl, eN, el, xn_lt (by omega) (by omega)] at z2
    have eg : sp_goes wet W N fr b = (sp_wt W b 1, N, fr) := by
      rw [sp_goes, if_neg z, ik, if_pos ⟨z1, by rw [eN, el, show m = l by omega]⟩]
    refine hp0 _ ?_ ?_ (fun j hj => by rw [xw_i (by omega)])
    · rw [eg]; exact CR_wt ho h hb (by omega)
    · rw [eg] at hst ⊢
      exact hHI _ _ _ _ hst (by rw [xw_i (by omega)]; exact H1) (by rw [xw_i (by omega)]) (by rw [xw_i (by omega)]) (by rw [xw_i (by omega)]) (by rw [xw_i (by omega)]) (by rw [xw_i (by omega)]) (fun j hj y => by rw [xw_i (by omega)]; exact H7 j hj y)
  have leafB1 : ∀ T, sp_team W b = T → ¬ R 9 6 < T → I 7 k = nI 3 → R 10 k < I 8 k → Q (some (.int (nI 1))) (xq_s g J (xc q I (xq_w (xq_w R 9 6 (R 9 6 - T)) 10 k (R 10 k + nI 1)))) := by
    intro T eT z z1 z2
    rw [← eT, H1] at z
    rw [gs] at z1
    obtain ⟨r10, m, l, ml, l99, eN, el⟩ := H7 k hk z1
    rw [r10, gl, eN, el, xn_lt (by omega) (by omega)] at z2
    have eg : sp_goes wet W N fr b = (sp_over W b, upd N k (N k + nI 1), fr - T) := by
      rw [sp_goes, if_neg z, ik, if_neg (fun y => by have y := y.2; rw [eN, el, xn_eq (by omega) (by omega)] at y; omega), if_pos z1, eT]
    refine hp1 _ W (by rw [eg]) ho (CR_scr h (fun i hi => by rw [xw_i (by omega), xw_i (by omega)]) (by rw [xw_i (by omega), xw_x (by omega)])) ?_ (fun j hj => by rw [xw_i (by omega), xw_x hj]) h2 ek
    rw [eg] at hst ⊢
    dsimp only at hst ⊢
    refine hHI _ _ _ _ hst (by rw [xw_i (by omega), xw_v, H1]) (by rw [xw_i (by omega), xw_i (by omega)]) (by rw [xw_i (by omega), xw_i (by omega)]) (by rw [xw_i (by omega), xw_i (by omega)]) (by rw [xw_i (by omega), xw_i (by omega)]) (by rw [xw_i (by omega), xw_i (by omega)]) (fun j hj y => ?_)
    by_cases ej : j = k
    · subst ej
      refine ⟨by rw [xw_v, upd_eq, r10], m + 1, l, by omega, l99, ?_, el⟩
      rw [upd_eq, eN, nI_add]
    · have := H7 j hj y
      rw [xw_x ej, xw_i (by omega), upd_ne ej]
      exact this
  have leafH : ∀ (T : Int32) (u : Value), sp_team W b = T → ¬ R 9 6 < T → ¬ I 7 k = nI 3 → xq_wp (d + 1) 84 (xq_s g J (xc q I (xq_w (xq_w (xq_w (xq_w R 9 6 (R 9 6 - T)) 17 0 (I 7 k)) 17 1 (I 3 b)) 17 4 (I 8 k - R 6 b)))) 0 [.ref 9, xq_un, xq_un, xq_un, xq_un] [] (fun v x1 => xq_wp (d + 2) 82 x1 207 [.ref (xid q 9), .int (nI b), .int (nI k), .int T, u] (v.toList ++ [.int (R 6 b), .int (nI b), .ref (xid q 6)]) Q) := by
    intro T u eT z z1
    rw [← eT, H1] at z
    rw [gs] at z1
    obtain ⟨m, hm16, em, _⟩ := ho.2.2.2.2.2.2.2.2.2.2
    refine yl_84 (F := sp_facts W b wet (fun _ => nI 0)) ho.2.2.2.2.2.2.2.2.2.2 em hm16 h.2.1 (fun j hj => ?_) (fun R' eR' => ?_)
    · have : j = 0 ∨ j = 1 ∨ j = 2 ∨ j = 3 ∨ j = 4 ∨ j = 5 ∨ j = 6 ∨ j = 7 := by omega
      unfold sp_facts
      rw [ik]
      rcases this with e | e | e | e | e | e | e | e <;> subst e
      · show _ = W (250 + 2 * k); rw [xw_x (by omega), xw_x (by omega), xw_v, gs]
      · show _ = W (50 + 14 * b + 0); rw [xw_x (by omega), xw_v, gz]
      · show _ = W 3; rw [xw_x (by omega), xw_x (by omega), xw_x (by omega), xw_i (by omega)]; exact H2
      · show _ = wet; rw [xw_x (by omega), xw_x (by omega), xw_x (by omega), xw_i (by omega)]; exact H3
      · show _ = W (250 + 2 * k + 1) - W (50 + 14 * b + 6); rw [xw_v, gl, e6]
      · show _ = W 2; rw [xw_x (by omega), xw_x (by omega), xw_x (by omega), xw_i (by omega)]; exact H4
      · show _ = W 15; rw [xw_x (by omega), xw_x (by omega), xw_x (by omega), xw_i (by omega)]; exact H5
      · show _ = W 10; rw [xw_x (by omega), xw_x (by omega), xw_x (by omega), xw_i (by omega)]; exact H6
    · have eh : sp_hl W (sp_facts W b wet (fun _ => nI 0)) m 0 = sp_haul W b wet := by rw [sp_haul, xk_ix em (by omega)]
      rw [eh]
      have hC : CR q n ns I R' W := by
        refine CR_scr h (fun i hi => ?_) ?_
        · rw [eR' i (by omega), xw_i (by omega), xw_i (by omega), xw_i (by omega), xw_i (by omega)]
        · rw [eR' 9 (by omega), xw_i (by omega), xw_i (by omega), xw_i (by omega), xw_x (by omega)]
      have hC2 := CR_went (wet := wet) (dn := R 6 b) (hv := sp_haul W b wet) ho hC hb h2 (by rw [e6])
      have r17 : ∀ j, ¬ j = 0 → ¬ j = 1 → ¬ j = 4 → xq_w R' 6 b (R 6 b + sp_haul W b wet) 17 j = R 17 j := by
        intro j j0 j1 j4
        rw [xw_i (by omega), eR' 17 (by omega), xw_x j4, xw_x j1, xw_x j0, xw_i (by omega)]
      have r9 : ∀ j, ¬ j = 6 → xq_w R' 6 b (R 6 b + sp_haul W b wet) 9 j = R 9 j := by
        intro j hj
        rw [xw_i (by omega), eR' 9 (by omega), xw_i (by omega), xw_i (by omega), xw_i (by omega), xw_x hj]
      have r96 : xq_w R' 6 b (R 6 b + sp_haul W b wet) 9 6 = fr - T := by
        rw [xw_i (by omega), eR' 9 (by omega), xw_i (by omega), xw_i (by omega), xw_i (by omega), xw_v, H1]
      have r10 : xq_w R' 6 b (R 6 b + sp_haul W b wet) 10 = R 10 := by
        rw [xw_i (by omega), eR' 10 (by omega), xw_i (by omega), xw_i (by omega), xw_i (by omega), xw_i (by omega)]
      have ew6 : sp_went W b wet (50 + 14 * b + 6) = R 6 b + sp_haul W b wet := by rw [sp_went, upd_eq, e6]
      have hN : ∀ j, j < ns → W (250 + 2 * j) = nI 3 → R 10 j = upd N k (N k + nI 1) j ∧ ∃ m l, m ≤ l ∧ l ≤ 99 ∧ upd N k (N k + nI 1) j = nI m ∧ W (250 + 2 * j + 1) = nI l := by
        intro j hj y
        have ej : ¬ j = k := fun e => z1 (e ▸ y)
        rw [upd_ne ej]
        exact H7 j hj y
      have z2 : ¬ (W (250 + 2 * k) = nI 3 ∧ N k = W (250 + 2 * k + 1)) := fun y => z1 y.1
      refine yu_82_207 ⟨by omega, by omega, fun y => ?_, fun y => ?_⟩
      · rw [xw_v, gl, ← ew6] at y
        have eg : sp_goes wet W N fr b = (sp_went W b wet, upd N k (N k + nI 1), fr - T) := by
          rw [sp_goes, if_neg z, ik, if_neg z2, if_neg z1, if_pos y, eT]
        refine hp0 _ (by rw [eg]; exact hC2) ?_ r9
        rw [eg] at hst ⊢
        exact hHI _ _ _ _ hst r96 (r17 _ (by omega) (by omega) (by omega)) (r17 _ (by omega) (by omega) (by omega)) (r17 _ (by omega) (by omega) (by omega)) (r17 _ (by omega) (by omega) (by omega)) (r17 _ (by omega) (by omega) (by omega)) (fun j hj y => by rw [r10]; exact hN j hj y)
      · rw [xw_v, gl, ← ew6] at y
        have eg : sp_goes wet W N fr b = (sp_over (sp_went W b wet) b, upd N k (N k + nI 1), fr - T) := by
          rw [sp_goes, if_neg z, ik, if_neg z2, if_neg z1, if_neg y, eT]
        refine hp1 _ (sp_went W b wet) (by rw [eg]) (ok_went ho hb) hC2 ?_ r9 (by rw [sp_went, upd_ne (by omega)]; exact h2) (by rw [sp_went, upd_ne (by omega)]; exact ek)
        rw [eg] at hst ⊢
        exact hHI _ _ _ _ hst r96 (r17 _ (by omega) (by omega) (by omega)) (r17 _ (by omega) (by omega) (by omega)) (r17 _ (by omega) (by omega) (by omega)) (r17 _ (by omega) (by omega) (by omega)) (r17 _ (by omega) (by omega) (by omega)) (fun j hj y => by rw [r10]; exact hN j hj y)
  refine yu_82 ⟨by omega, fun z => ?_, fun z => ⟨fun z0 => ?_, fun z0 => ?_⟩⟩
  · rw [if_pos z] at hT
    exact ⟨fun y => ⟨by omega, leafW _ hT y⟩, fun y => ⟨fun y1 => ⟨fun y2 => leafB1 _ hT y y1 y2, fun y2 => ⟨by omega, leafB2 _ hT y y1 y2⟩⟩, fun y1 => ⟨by omega, leafH _ _ hT y y1⟩⟩⟩
  · rw [if_neg z, if_pos z0] at hT
    exact ⟨by omega, fun y => ⟨by omega, leafW _ hT y⟩, fun y => ⟨fun y1 => ⟨fun y2 => leafB1 _ hT y y1 y2, fun y2 => ⟨by omega, leafB2 _ hT y y1 y2⟩⟩, fun y1 => leafH _ _ hT y y1⟩⟩
  · rw [if_neg z, if_neg z0] at hT
    exact ⟨by omega, fun y => ⟨by omega, leafW _ hT y⟩, fun y => ⟨fun y1 => ⟨fun y2 => leafB1 _ hT y y1 y2, fun y2 => ⟨by omega, leafB2 _ hT y y1 y2⟩⟩, fun y1 => leafH _ _ hT y y1⟩⟩
theorem sp_h1_eq {wet fr : Int32} {b : Nat} {W1 : xw} (e : W1 = if W (50 + 14 * b + 4) = nI 1 then sp_on W b (nI 0) else W) : sp_h1 wet W N fr b = if W1 (50 + 14 * b + 4) = nI 2 then sp_goes wet W1 N fr b else (W1, N, fr) := by
  subst e
  unfold sp_h1
  by_cases z : W (50 + 14 * b + 4) = nI 1
  · simp only [if_pos z]
  · simp only [if_neg z]
theorem yl_80_114 {wet : Int32} : ∀ (c i : Nat) (R : Nat → xw) (W N : xw) (fr : Int32) (u2 : Value), ok n ns W → CR q n ns I R W → HI ns wet R W N fr → i + c = n → (∀ R', CR q n ns I R' (sp_hauls wet c i W N fr).1 → (∀ j, ¬ j = 6 → R' 9 j = R 9 j) → Q none (xq_s g J (xc q I R'))) → xq_wp (d + 3) 80 (xq_s g J (xc q I R)) 114 [.ref (xid q 9), .int (nI i), u2] [] Q := by
  intro c
  induction c with
  | zero =>
    intro i R W N fr u2 ho h H e hp
    have hn := ok_n ho
    exact yu_80_114 (n := n) (b := 0) ⟨(CR_G h).1.trans hn.1, by omega, by omega, fun z => by omega, fun _ => hp R h (fun _ _ => rfl)⟩
  | succ c ih =>
    intro i R W N fr u2 ho h H e hp
    have hn := ok_n ho
    have ns8 := ho.1.2.2.2
    obtain ⟨b, hb, eb, ib⟩ := ok_or ho (show i < n by omega)
    simp only [sp_hauls, ib] at hp
    -- from place 153 on
    have go : ∀ (R1 : Nat → xw) (W1 : xw), W1 = (if W (50 + 14 * b + 4) = nI 1 then sp_on W b (nI 0) else W) → ok n ns W1 → CR q n ns I R1 W1 → HI ns wet R1 W1 N fr → (∀ j, ¬ j = 6 → R1 9 j = R 9 j) → xq_wp (d + 3) 80 (xq_s g J (xc q I R1)) 153 [.ref (xid q 9), .int (nI i), .int (nI b)] [] Q := by
      intro R1 W1 e1 ho1 h1 H1 r9
      rw [sp_h1_eq e1] at hp
      have r4 : R1 4 b = W1 (50 + 14 * b + 4) := CR_4 h1 b hb
      by_cases z : W1 (50 + 14 * b + 4) = nI 2
      · rw [if_pos z] at hp
        obtain ⟨k, hk, hk8, ek, _⟩ := ok_at ho1 hb z
        refine yu_80_153 (k := k) ⟨by omega, fun _ => ⟨(CR_A h1 b hb z).1.trans ek, ?_⟩, fun y => absurd (r4.trans z) y⟩
        refine yl_82 ho1 h1 hb z hk ek H1 (fun R' C' H' r9' => ?_) (fun R' W2 eg ho2 C' H' r9' w4 w5 => ?_)
        · refine yu_80_180 (k := 0) ⟨fun _ => ih (i + 1) _ _ _ _ _ (ok_goes ho1 hb) C' H' (by omega) (fun R'' C'' r9'' => hp R'' C'' (fun j hj => by rw [r9'' j hj, r9' j hj, r9 j hj])), fun y => absurd rfl y⟩
        · refine yu_80_180 (k := k) ⟨fun y => absurd y (by decide), fun _ => ⟨by omega, (CR_A C' b hb w4).1.trans w5, ?_⟩⟩
          refine yl_86 ho2 C' hb w4 hk8 w5 (fun R'' C'' q9 q10 q16 q17 => ?_)
          rw [← eg] at C''
          have key := ih (i + 1) R'' _ _ _ (.int (nI b)) (ok_goes ho1 hb) C'' (HI_row H' (by rw [q9]) q10 q17) (by omega) (fun R3 C3 r3 => hp R3 C3 (fun j hj => by rw [r3 j hj, q9, r9' j hj, r9 j hj]))
          rw [← nI_add i 1] at key
          cases q
          · exact xq_wp.go (k := 2) (fun F => rfl) key
          · exact xq_wp.go (k := 2) (fun F => rfl) key
      · rw [if_neg z] at hp
        exact yu_80_153 (k := 0) ⟨by omega, fun y => absurd (r4.symm.trans y) z, fun _ => ih (i + 1) _ _ _ _ _ ho1 h1 H1 (by omega) (fun R' C' r9' => hp R' C' (fun j hj => by rw [r9' j hj, r9 j hj]))⟩
    have r4 : R 4 b = W (50 + 14 * b + 4) := CR_4 h b hb
    refine yu_80_114 (n := n) (b := b) ⟨(CR_G h).1.trans hn.1, by omega, by omega, fun _ => ⟨by omega, (CR_3 h i (by omega)).trans eb, by omega, fun z => ?_, fun z => ?_⟩, fun z => by omega⟩
    · rw [r4] at z
      refine yl_81 ho h hb z (fun R' C' q9 q10 q16 q17 => ?_)
      exact go R' _ (by rw [if_pos z]) (ok_on ho hb) C' (HI_row (HI_fr H ns8 (fun p hp => st2_on ho.2.1 hp (by omega))) (by rw [q9]) q10 q17) (fun j _ => by rw [q9])
    · rw [r4] at z
      exact go R W (by rw [if_neg z]) ho h H (fun _ _ => rfl)
theorem yl_49 {v : Int32} : ∀ (c i : Nat) (R : Nat → xw), i + c = 8 → (∀ R' : Nat → xw, (∀ a, ¬ a = 10 → R' a = R a) → (∀ j, j < i → R' 10 j = R 10 j) → (∀ j, i ≤ j → j < 8 → R' 10 j = v) → Q none (xq_s g J (xc q I R'))) → xq_wp d 49 (xq_s g J (xc q I R)) 5 [.ref (xid q 10), .int v, .int (nI i), .int (nI 8)] [] Q := by
  intro c
  induction c with
  | zero =>
    intro i R e hp
    exact yu_49 ⟨by omega, fun z => by omega, fun _ => hp R (fun _ _ => rfl) (fun _ _ => rfl) (fun j h1 h2 => by omega)⟩
  | succ c ih =>
    intro i R e hp
    refine yu_49 ⟨by omega, fun _ => ih (i + 1) _ (by omega) (fun R' h1 h2 h3 => hp R' (fun a ha => by rw [h1 a ha, xw_i ha]) (fun j hj => by rw [h2 j (by omega), xw_x (by omega)]) (fun j hj hj8 => ?_)), fun z => by omega⟩
    by_cases ej : j = i
    · subst ej; rw [h2 j (by omega), xw_v]
    · exact h3 j (by omega) hj8
theorem yl_80 {wet : Bool} (ho : ok n ns W) (h : CR q n ns I R W) (hw : R 9 7 = sp_b2 wet) (hp : ∀ R', CR q n ns I R' (sp_hauls (sp_b2 wet) n 0 W (fun _ => nI 0) (W 10)).1 → (∀ j, ¬ j = 6 → R' 9 j = R 9 j) → Q none (xq_s g J (xc q I R'))) : xq_wp (d + 3) 80 (xq_s g J (xc q I R)) 0 [.ref (xid q 9), xq_un, xq_un] [] Q := by
  have e10 : R 1 0 = W 10 := CR_1 h 0 (by omega)
  have e15 : R 1 5 = W 15 := CR_1 h 5 (by omega)
  have h0 := CR_0 h
  have ns8 := ho.1.2.2.2
  refine yu_80 ?_
  have key := yl_49 (d := d + 2) (g := g) (J := J) (I := I) (q := q) (v := nI 0) (Q := fun v x1 => xq_wp (d + 3) 80 x1 21 [.ref (xid q 9), xq_un, xq_un] (v.toList ++ []) Q) 8 0 (xq_w R 9 6 (R 1 0)) (by omega) (fun R1 z1 z2 z3 => ?_)
  · cases q
    · exact xq_wp.go (k := 5) (fun F => rfl) key
    · exact xq_wp.go (k := 5) (fun F => rfl) key
  · have a0 : R1 0 = R 0 := by rw [z1 0 (by omega), xw_i (by omega)]
    have a1 : R1 1 = R 1 := by rw [z1 1 (by omega), xw_i (by omega)]
    have a97 : R1 9 7 = sp_b2 wet := by rw [z1 9 (by omega), xw_x (by omega)]; exact hw
    have fin : ∀ v : Int32, v = sp_b2 wet → xq_wp (d + 3) 80 (xq_s g J (xc q I (xq_w (xq_w (xq_w (xq_w (xq_w R1 17 2 (R1 0 9)) 17 3 v) 17 5 (R1 0 10)) 17 6 (R1 1 5)) 17 7 (R1 1 0)))) 114 [.ref (xid q 9), .int (nI 0), xq_un] [] Q := by
      intro v ev
      rw [a0, a1]
      have r : ∀ i, ¬ i = 17 → (xq_w (xq_w (xq_w (xq_w (xq_w R1 17 2 (R 0 9)) 17 3 v) 17 5 (R 0 10)) 17 6 (R 1 5)) 17 7 (R 1 0)) i = R1 i := by
        intro i hi
        rw [xw_i hi, xw_i hi, xw_i hi, xw_i hi, xw_i hi]
      refine yl_80_114 (wet := sp_b2 wet) n 0 _ W (fun _ => nI 0) (W 10) xq_un ho (CR_scr h (fun i hi => ?_) ?_) ⟨?_, ?_, ?_, ?_, ?_, ?_, fun k hk y => ?_⟩ (by omega) (fun R' C' r9 => hp R' C' (fun j hj => ?_))
      · rw [r i (by omega), z1 i (by omega), xw_i (by omega)]
      · rw [r 9 (by omega), z1 9 (by omega), xw_x (by omega)]
      · rw [r 9 (by omega), z1 9 (by omega), xw_v, e10]
      · rw [xw_x (by omega), xw_x (by omega), xw_x (by omega), xw_x (by omega), xw_v]; exact h0.2.1
      · rw [xw_x (by omega), xw_x (by omega), xw_x (by omega), xw_v]; exact ev
      · rw [xw_x (by omega), xw_x (by omega), xw_v]; exact h0.1
      · rw [xw_x (by omega), xw_v]; exact e15
      · rw [xw_v]; exact e10
      · refine ⟨by rw [r 10 (by omega), z3 k (by omega) (by omega)], ?_⟩
        obtain ⟨_, l, hl1, hl2, el⟩ := ho.2.2.2.2.2.2.2.2.2.1 k hk
        exact ⟨0, l, by omega, hl2, rfl, el⟩
      · rw [r9 j hj, r 9 (by omega), z1 9 (by omega), xw_x hj]
    refine yu_80_21 ⟨fun z => fin _ ?_, fun z => fin _ ?_⟩
    · rw [a97] at z; exact z.symm
    · rw [a97] at z; rw [sp_b21 z]; rfl
/-- floods -/
theorem yl_87_2 : ∀ (c i : Nat) (R : Nat → xw) (W : xw) (u2 : Value), ok n ns W → CR q n ns I R W → R 9 8 = nI 1 → i + c = n → (∀ R', CR q n ns I R' (sp_flood c i W) → R' 9 = R 9 → Q none (xq_s g J (xc q I R'))) → xq_wp (d + 2) 87 (xq_s g J (xc q I R)) 2 [.ref (xid q 9), .int (nI i), u2] [] Q := by
  intro c
  induction c with
  | zero =>
    intro i R W u2 ho h hf e hp
    have hn := ok_n ho
    exact yu_87 (n := n) (b := 0) (k := 0) ⟨(CR_G h).1.trans hn.1, by omega, by omega, fun z => by omega, fun _ => hp R h rfl⟩
  | succ c ih =>
    intro i R W u2 ho h hf e hp
    have hn := ok_n ho
    have ns8 := ho.1.2.2.2
    obtain ⟨b, hb, eb, ib⟩ := ok_or ho (show i < n by omega)
    simp only [sp_flood, ib] at hp
    have r4 : R 4 b = W (50 + 14 * b + 4) := CR_4 h b hb
    by_cases z : W (50 + 14 * b + 4) = nI 2
    · obtain ⟨k, hk, hk8, ek, ik⟩ := ok_at ho hb z
      have gs := ((CR_G h).2.2.2 k hk).1
      rw [ik] at hp
      refine yu_87 (n := n) (b := b) (k := k) ⟨(CR_G h).1.trans hn.1, by omega, by omega, fun _ => ⟨fun y => by rw [hf] at y; exact absurd y (by decide), fun _ => ⟨by omega, (CR_3 h i (by omega)).trans eb, by omega, fun _ => ⟨(CR_A h b hb z).1.trans ek, by omega, fun y => ⟨(CR_A h b hb z).1.trans ek, ?_⟩, fun y => ?_⟩, fun y => absurd (r4.trans z) y⟩⟩, fun z => by omega⟩
      · rw [gs] at y
        rw [if_pos ⟨z, y⟩] at hp
        refine yl_86 ho h hb z hk8 ek (fun R' C' q9 _ _ _ => ?_)
        have key := ih (i + 1) R' _ (.int (nI b)) (ok_over ho hb) C' (by rw [q9]; exact hf) (by omega) (fun R'' C'' r => hp R'' C'' (by rw [r, q9]))
        rw [← nI_add i 1] at key
        cases q
        · exact xq_wp.go (k := 2) (fun F => rfl) key
        · exact xq_wp.go (k := 2) (fun F => rfl) key
      · rw [gs] at y
        rw [if_neg (fun w => y w.2)] at hp
        exact ih (i + 1) R W _ ho h hf (by omega) hp
    · rw [if_neg (fun w => z w.1)] at hp
      exact yu_87 (n := n) (b := b) (k := 0) ⟨(CR_G h).1.trans hn.1, by omega, by omega, fun _ => ⟨fun y => by rw [hf] at y; exact absurd y (by decide), fun _ => ⟨by omega, (CR_3 h i (by omega)).trans eb, by omega, fun y => absurd (r4.symm.trans y) z, fun y => ih (i + 1) R W _ ho h hf (by omega) hp⟩⟩, fun z => by omega⟩
theorem yl_87 {flood : Bool} (ho : ok n ns W) (h : CR q n ns I R W) (hf : R 9 8 = sp_b2 flood) (hp : ∀ R', CR q n ns I R' (if flood then sp_flood n 0 W else W) → R' 9 = R 9 → Q none (xq_s g J (xc q I R'))) : xq_wp (d + 2) 87 (xq_s g J (xc q I R)) 0 [.ref (xid q 9), xq_un, xq_un] [] Q := by
  have hn := ok_n ho
  have key : xq_wp (d + 2) 87 (xq_s g J (xc q I R)) 2 [.ref (xid q 9), .int (nI 0), xq_un] [] Q := by
    cases flood
    · exact yu_87 (n := n) (b := 0) (k := 0) ⟨(CR_G h).1.trans hn.1, by omega, by omega, fun z => ⟨fun _ => hp R h rfl, fun y => absurd hf y⟩, fun _ => hp R h rfl⟩
    · exact yl_87_2 n 0 R W _ ho h hf (by omega) hp
  cases q
  · exact xq_wp.go (k := 2) (fun F => rfl) key
  · exact xq_wp.go (k := 2) (fun F => rfl) key
end yk_c4
