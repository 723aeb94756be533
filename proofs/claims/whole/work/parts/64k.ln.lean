/-! text: the model reads THE LAW -/
section yk_lp
variable {d : Nat} {g : xq_V} {J : Nat → Nat → Int64} {I X Z : Nat → xw} {Q : Option Value → xq_S → Prop} {t i j k o : Nat} {tc vl ss en : Nat → Nat} {a b : LA} {n : Int32} {L : xw} {v : Int32}
theorem mC_r {p : Nat} {w : Int32} (h : mC n L o a X) : mC n (xq_w X 131 p w 131) o a (xq_w X 131 p w) := by
  obtain ⟨h1, h2, h3, h4, h5⟩ := h
  refine ⟨?_, rfl, ?_, ?_, ?_⟩
  · rw [xw_i (by omega)]; exact h1
  · rw [xw_i (by omega)]; exact h3
  · rw [xw_i (by omega)]; exact h4
  · rw [xw_i (by omega)]; exact h5
theorem wLL (hM : mT 2 I t tc vl ss en) (h4 : t ≤ 400) (hv : ∀ i, tc i = 2 → vl i ≤ 9999) : ∀ (f i : Nat) (p : LL) (Z : Nat → xw) (v : Int32), t < i + f → i ≤ t → (cds p.1).length ≤ i → lK p → (tc i = 2 → v = nI (vl i)) → nF I Z → lM p Z → (∀ k j, spL tc vl f i p = some (.inl (k, j)) → ∀ (Y : Nat → xw) (e c s : Nat) (v : Int32), nF I Y → Q (some (.int (nI 0))) (xq_s g J (ms (xq_w (xq_w Y 126 23 (nI k)) 126 24 (nI (ss j))) e c s v))) → (∀ p', spL tc vl f i p = some (.inr p') → lK p' → (cds p'.1).length ≤ t → ∀ (Y : Nat → xw) (e c s : Nat) (v : Int32), nF I Y → lM p' Y → Q (some (.int (nI 1))) (xq_s g J (ms Y e c s v))) → xq_wp (d + 35) 180 (xq_s g J (ms Z (en i) (tc i) (ss i) v)) 12 [.ref 126, .int (nI 1)] [] Q := by
  have hbb : ∀ k, tc k < 2147483648 := fun k => by have := mT_b hM k; omega
  intro f
  induction f with
  | zero => intro i p Z v h1 h2; omega
  | succ f ih =>
    intro i p Z v hf hi hl hK hvi hF hC bad good
    have hX := mT_nF hM hF
    have h16 := hK.1
    have hla := cds_l p.1
    rw [spL] at bad good
    -- a fault, behind the line
    have hb : ∀ (k j : Nat), (∀ (Y : Nat → xw) (e c s : Nat) (v : Int32), nF I Y → Q (some (.int (nI 0))) (xq_s g J (ms (xq_w (xq_w Y 126 23 (nI k)) 126 24 (nI (ss j))) e c s v))) → ∀ (Y : Nat → xw) (e c s : Nat) (v : Int32), nF I Y → xq_wp (d + 35) 180 (xq_s g J (ms (xq_w (xq_w Y 126 23 (nI k)) 126 24 (nI (ss j))) e c s v)) 27 [.ref 126, .int (nI 1)] [.int (nI 0)] Q := fun k j B Y e c s v gY => by
      refine tn_180_f (d := d + 35) ?_
      rw [ms_w (by omega), xq_w_comm (j := 24) (k := 14) (by omega), xq_w_comm (j := 23) (k := 14) (by omega)]
      exact B _ e c s v (nF_w gY (by omega))
    refine tn_180_12 (d := d + 34) hX hbb ⟨fun q0 => good p (by rw [if_pos q0]) hK (by omega) Z _ _ _ v hF hC, fun q0 => ?_⟩
    refine tn_181 (d := d + 30) (nl := p.2.length) (n := p.1.length) hX hbb ⟨fun q7 => ⟨hC.1, by omega, fun q16 => hb 3 i (bad 3 i (by rw [if_neg q0, if_neg (fun z => z q7), if_pos q16])) Z _ _ _ _ hF, fun q16 => ⟨q0, hi, fun v1 hv1 => ⟨hC.1, hC.2.1, by omega, ?_⟩⟩⟩, fun q7 => hb 1 i (bad 1 i (by rw [if_neg q0, if_pos q7])) Z _ _ _ _ hF⟩
    rw [if_neg q0, if_neg (fun z => z q7), if_neg q16] at bad good
    have i1 := m_lt hX hi q0
    have hF1 : nF I (xq_w (xq_w Z 126 26 (nI 0)) 131 (3 * p.2.length) (nI p.1.length)) := nF_w (nF_w hF (by omega)) (by omega)
    have hC1 : mC (nI p.2.length) (xq_w (xq_w Z 126 26 (nI 0)) 131 (3 * p.2.length) (nI p.1.length) 131) 0 p.1 (xq_w (xq_w Z 126 26 (nI 0)) 131 (3 * p.2.length) (nI p.1.length)) := mC_r (L := Z 131) ⟨by rw [xw_x (by omega)]; exact hC.1, by rw [xw_i (by omega)], xw_v, by rw [xw_x (by omega)]; exact hC.2.1, by rw [xw_i (by omega)]; exact hC.2.2.1⟩
    refine wS hM h4 hv (d + 27) g J _ (nI p.2.length) _ (i + 1) p.1 _ v1 i1 (by omega) hv1 hF1 hC1 (fun k j e Y e' c s v gY => xq_wp.ret (k := 3) (fun F => rfl) (hb k j (bad k j (by rw [e])) Y e' c s v gY)) (fun j b e hj Y v2 hv2 g1 g2 => ?_)
    rw [e] at bad good
    dsimp only at bad good
    obtain ⟨x, x1, x2⟩ := lE_S hv _ _ _ _ e
    have hB := lB_S _ _ _ _ e
    have hlb := cds_l b
    have y131 := g2.2.1
    have tail : ∀ (k : Nat) (c : LA) (Y' : Nat → xw) (v' : Int32), spW tc vl j b = some (.inr (k, c)) → k ≤ t → (tc k = 2 → v' = nI (vl k)) → nF I Y' → mC (nI p.2.length) (xq_w Y 131 (3 * p.2.length + 1) (nI b.length) 131) 0 c Y' → xq_wp (d + 34) 181 (xq_s g J (ms Y' (en k) (tc k) (ss k) v')) 101 [.ref 126] [] (fun v x1 => xq_wp (d + 34 + 1) 180 x1 27 [.ref 126, .int (nI 1)] (v.toList ++ []) Q) := fun k c Y' v' e2 hk hv' g1 g2 => by
      rw [e2] at bad good
      dsimp only at bad good
      obtain ⟨y, y1, y2⟩ := lE_W hv e2
      have hB2 := lB_W e2
      have hlc := cds_l c
      refine tn_181_101 (d := d + 29) (n := c.length) (nl := p.2.length) (mT_nF hM g1) hbb ⟨g2.1, g2.2.2.2.1, by omega, hk, fun q v5 hv5 => ?_, fun q => hb 1 k (bad 1 k (by rw [if_neg q])) _ _ _ _ _ (nF_w g1 (by omega))⟩
      rw [if_pos q] at bad good
      have hk1 := m_lt (mT_nF hM g1) hk (show ¬ tc k = 0 by omega)
      have hF3 : nF I (xq_w Y' 131 (3 * p.2.length + 2) (nI c.length)) := nF_w g1 (by omega)
      refine tn_180_27_1 (d := d + 35) (nl := p.2.length) (mT_nF hM hF3) hbb ⟨by rw [xw_i (by omega)]; exact g2.1, ?_⟩
      have hF4 : nF I (xq_w (xq_w Y' 131 (3 * p.2.length + 2) (nI c.length)) 126 14 (nI (p.2.length + 1))) := nF_w hF3 (by omega)
      have hC4 : lM (c, p.2 ++ [(p.1.length, b.length, c.length)]) (xq_w (xq_w Y' 131 (3 * p.2.length + 2) (nI c.length)) 126 14 (nI (p.2.length + 1))) := by
        refine lM_s (F := upd (upd (upd (Z 131) (3 * p.2.length) (nI p.1.length)) (3 * p.2.length + 1) (nI b.length)) (3 * p.2.length + 2) (nI c.length)) hC (fun q hq => ?_) ?_ ?_ ?_ xw_v ?_ ?_ ?_
        · rw [upd_ne (by omega), upd_ne (by omega), upd_ne (by omega)]
        · rw [upd_ne (by omega), upd_ne (by omega), upd_eq]
        · rw [upd_ne (by omega), upd_eq]
        · rw [upd_eq]
        · rw [xw_x (by omega), xw_i (by omega)]; exact g2.2.2.2.1
        · rw [xw_i (by omega), xw_i (by omega)]; exact g2.2.2.2.2
        · rw [xw_i (by omega), xw_row, g2.2.1, xw_row, y131, xw_row, xw_i (by omega)]
      have hK2 : lK (c, p.2 ++ [(p.1.length, b.length, c.length)]) := by
        rw [y1, x1]; exact lK_s hK q16 x2 y2
      exact ih (k + 1) _ _ v5 (by omega) hk1 (by show (cds c).length ≤ k + 1; omega) hK2 hv5 hF4 hC4 bad good
    have hF2 : nF I (xq_w Y 131 (3 * p.2.length + 1) (nI b.length)) := nF_w g1 (by omega)
    refine tn_181_58_1 (d := d + 30) (nl := p.2.length) (n := b.length) (mT_nF hM g1) hbb ⟨g2.1, g2.2.2.2.1, by omega, fun q3 => ⟨by omega, hj, fun v3 hv3 => ?_⟩, fun q3 => tail j b _ _ (by unfold spW; rw [if_neg q3]) hj hv2 hF2 (mC_r g2)⟩
    have j1 := m_lt (mT_nF hM g1) hj (show ¬ tc j = 0 by omega)
    have ew : spW tc vl j b = spA tc (spC tc vl 8) (j + 1) b := by unfold spW; rw [if_pos q3]
    refine wA (o := 0) (dd := fun d => d + 3 * 8 + 2) hM h4 (lB_C 8) (wC hM h4 hv 8 (Nat.le_refl 8)) d g J _ (nI p.2.length) _ (j + 1) b _ v3 j1 (by omega) hv3 hF2 (mC_r g2) (fun k j e Y e' c s v gY => xq_wp.ret (k := 3) (fun F => rfl) (hb k j (bad k j (by rw [ew, e])) Y e' c s v gY)) (fun k c e2 hk Y v4 hv4 g1 g2 => ?_)
    exact tn_181_96_1 (d := d + 34) (mT_nF hM g1) hbb (tail k c Y v4 (ew.trans e2) hk hv4 g1 g2)
/-- the model reads THE LAW -/
theorem xl_180 (hM : mT 2 I t tc vl ss en) (h4 : t ≤ 400) (hvi : tc 0 = 2 → v = nI (vl 0)) (hF : nF I Z) (bad : ∀ k j, lwX tc vl = some (.inl (k, j)) → ∀ (Y : Nat → xw) (e c s : Nat) (v : Int32), nF I Y → Q (some (.int (nI 0))) (xq_s g J (ms (xq_w (xq_w Y 126 23 (nI k)) 126 24 (nI (ss j))) e c s v))) (good : ∀ p, lwX tc vl = some (.inr p) → lK p → (cds p.1).length ≤ t → ∀ (Y : Nat → xw) (e c s : Nat) (v : Int32), nF I Y → lM p Y → Q (some (.int (nI 1))) (xq_s g J (ms Y e c s v))) : xq_wp (d + 35) 180 (xq_s g J (ms Z (en 0) (tc 0) (ss 0) v)) 0 [.ref 126, xq_un] [] Q := by
  have hbb : ∀ k, tc k < 2147483648 := fun k => by have := mT_b hM k; omega
  have := lF_e
  refine tn_180 (d := d + 35) (mT_nF hM hF) hbb ?_
  refine wLL hM h4 (mT_vl hM) lF 0 ([], []) _ v (by omega) (by omega) (Nat.zero_le _) lK_0 hvi (nF_w (nF_w hF (by omega)) (by omega)) ⟨?_, ?_, fun q hq => absurd hq (by show ¬ q < 0; omega), fun q hq => absurd hq (by show ¬ q < 0; omega)⟩ bad good
  · rw [xw_x (by omega), xw_v]; rfl
  · rw [xw_v]; rfl
end yk_lp
