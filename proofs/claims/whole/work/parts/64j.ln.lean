/-! text: the model reads THE LAW's conditions and lines (written by program) -/
section yk_ln
variable {d : Nat} {g : xq_V} {J : Nat → Nat → Int64} {I X Z : Nat → xw} {Q : Option Value → xq_S → Prop} {t i j k o : Nat} {tc vl ss en : Nat → Nat} {a b : LA} {n : Int32} {L : xw} {v : Int32}
theorem wVL {C : Nat → LA → LR} {dd : Nat → Nat} (hM : mT 2 I t tc vl ss en) (h4 : t ≤ 400) (hB : lB C) (hC : wP t tc vl ss en I C 189 o (fun d => dd d + 5) [.ref 126, xq_un]) : ∀ (f i : Nat) (a : LA) (Z : Nat → xw) (v : Int32), t < i + f → i ≤ t → (cds a).length ≤ i → (tc i = 2 → v = nI (vl i)) → nF I Z → mC n L o a Z → wB ss I g J Q (lpS tc opV C f i a) → wG t tc vl ss en I g J Q n L o (lpS tc opV C f i a) → xq_wp (dd d + 6) 188 (xq_s g J (ms Z (en i) (tc i) (ss i) v)) 9 [.ref 126] [] Q := by
  have hbb : ∀ k, tc k < 2147483648 := fun k => by have := mT_b hM k; omega
  intro f
  induction f with
  | zero => intro i a Z v h1 h2; omega
  | succ f ih =>
    intro i a Z v hf hi hl hvi hF hZ bad good
    have hX := mT_nF hM hF
    rw [lpS] at bad good
    refine tn_188_9 (d := dd d + 2) hX hbb ⟨fun q => ⟨by omega, hi, fun v3 hv3 => ?_⟩, fun q => ?_⟩
    · have o1 : opV (tc i) = 21 := by unfold opV; rw [if_pos q]
      rw [o1, if_neg (by omega)] at bad good
      have i1 := m_lt hX hi (show ¬ tc i = 0 by omega)
      refine hC d g J _ n L (i + 1) a Z v3 i1 (by omega) hv3 hF hZ (fun k j e Y e' c s v gY => xq_wp.ret (k := 3) (fun F => rfl) (bad k j (bnd_e e) Y e' c s v gY)) (fun j b e hj Y v1 hv1 g1 g2 => ?_)
      rw [bnd_o e] at bad good
      have hB1 := hB _ _ _ _ e
      have hlb := cds_l b
      have key := ih j (b ++ [(21, 0)]) _ v1 (by omega) hj (by rw [lw_1 (by omega)]; omega) hv1 (nF_p (r := 15) g1 (by omega)) (mC_p (s := (21, 0)) g2 (w := nI 0) (fun z => absurd z (by decide))) bad good
      exact tn_188_25_1 (d := dd d + 5) (n := b.length) (mT_nF hM g1) hbb ⟨g2.2.2.2.1, by omega, g2.2.2.2.1, by omega, g2.2.2.2.1, key⟩
    · have o1 : opV (tc i) = 0 := by unfold opV; rw [if_neg q]
      exact good i a (by rw [o1, if_pos rfl]) hi Z v hvi hF hZ
theorem wVV {C : Nat → LA → LR} {dd : Nat → Nat} (hM : mT 2 I t tc vl ss en) (h4 : t ≤ 400) (hB : lB C) (hC : wP t tc vl ss en I C 189 o (fun d => dd d + 5) [.ref 126, xq_un]) : wP t tc vl ss en I (chS tc opV C) 188 o (fun d => dd d + 6) [.ref 126] := by
  intro d g J Q n L i a Z v hi hl hvi hF hZ bad good
  have hbb : ∀ k, tc k < 2147483648 := fun k => by have := mT_b hM k; omega
  unfold chS at bad good
  refine tn_188 (d := dd d + 5) (mT_nF hM hF) hbb (hC d g J _ n L i a Z v hi hl hvi hF hZ (fun k j e Y e' c s v gY => xq_wp.ret (k := 3) (fun F => rfl) (bad k j (bnd_e e) Y e' c s v gY)) (fun j b e hj Y v1 hv1 g1 g2 => ?_))
  rw [bnd_o e] at bad good
  have hB1 := hB _ _ _ _ e
  have := lF_e
  exact tn_188_4_1 (d := dd d + 6) (mT_nF hM g1) hbb (wVL hM h4 hB hC lF j b Y v1 (by omega) hj (by omega) hv1 g1 g2 bad good)
theorem wAL {C : Nat → LA → LR} {dd : Nat → Nat} (hM : mT 2 I t tc vl ss en) (h4 : t ≤ 400) (hB : lB C) (hC : wP t tc vl ss en I C 188 o (fun d => dd d + 6) [.ref 126]) : ∀ (f i : Nat) (a : LA) (Z : Nat → xw) (v : Int32), t < i + f → i ≤ t → (cds a).length ≤ i → (tc i = 2 → v = nI (vl i)) → nF I Z → mC n L o a Z → wB ss I g J Q (lpS tc opA C f i a) → wG t tc vl ss en I g J Q n L o (lpS tc opA C f i a) → xq_wp (dd d + 7) 187 (xq_s g J (ms Z (en i) (tc i) (ss i) v)) 9 [.ref 126] [] Q := by
  have hbb : ∀ k, tc k < 2147483648 := fun k => by have := mT_b hM k; omega
  intro f
  induction f with
  | zero => intro i a Z v h1 h2; omega
  | succ f ih =>
    intro i a Z v hf hi hl hvi hF hZ bad good
    have hX := mT_nF hM hF
    rw [lpS] at bad good
    refine tn_187_9 (d := dd d + 3) hX hbb ⟨fun q => ⟨by omega, hi, fun v3 hv3 => ?_⟩, fun q => ?_⟩
    · have o1 : opA (tc i) = 22 := by unfold opA; rw [if_pos q]
      rw [o1, if_neg (by omega)] at bad good
      have i1 := m_lt hX hi (show ¬ tc i = 0 by omega)
      refine hC d g J _ n L (i + 1) a Z v3 i1 (by omega) hv3 hF hZ (fun k j e Y e' c s v gY => xq_wp.ret (k := 3) (fun F => rfl) (bad k j (bnd_e e) Y e' c s v gY)) (fun j b e hj Y v1 hv1 g1 g2 => ?_)
      rw [bnd_o e] at bad good
      have hB1 := hB _ _ _ _ e
      have hlb := cds_l b
      have key := ih j (b ++ [(22, 0)]) _ v1 (by omega) hj (by rw [lw_1 (by omega)]; omega) hv1 (nF_p (r := 15) g1 (by omega)) (mC_p (s := (22, 0)) g2 (w := nI 0) (fun z => absurd z (by decide))) bad good
      exact tn_187_25_1 (d := dd d + 6) (n := b.length) (mT_nF hM g1) hbb ⟨g2.2.2.2.1, by omega, g2.2.2.2.1, by omega, g2.2.2.2.1, key⟩
    · have o1 : opA (tc i) = 0 := by unfold opA; rw [if_neg q]
      exact good i a (by rw [o1, if_pos rfl]) hi Z v hvi hF hZ
theorem wAA {C : Nat → LA → LR} {dd : Nat → Nat} (hM : mT 2 I t tc vl ss en) (h4 : t ≤ 400) (hB : lB C) (hC : wP t tc vl ss en I C 188 o (fun d => dd d + 6) [.ref 126]) : wP t tc vl ss en I (chS tc opA C) 187 o (fun d => dd d + 7) [.ref 126] := by
  intro d g J Q n L i a Z v hi hl hvi hF hZ bad good
  have hbb : ∀ k, tc k < 2147483648 := fun k => by have := mT_b hM k; omega
  unfold chS at bad good
  refine tn_187 (d := dd d + 6) (mT_nF hM hF) hbb (hC d g J _ n L i a Z v hi hl hvi hF hZ (fun k j e Y e' c s v gY => xq_wp.ret (k := 3) (fun F => rfl) (bad k j (bnd_e e) Y e' c s v gY)) (fun j b e hj Y v1 hv1 g1 g2 => ?_))
  rw [bnd_o e] at bad good
  have hB1 := hB _ _ _ _ e
  have := lF_e
  exact tn_187_4_1 (d := dd d + 7) (mT_nF hM g1) hbb (wAL hM h4 hB hC lF j b Y v1 (by omega) hj (by omega) hv1 g1 g2 bad good)
theorem wA {C : Nat → LA → LR} {dd : Nat → Nat} (hM : mT 2 I t tc vl ss en) (h4 : t ≤ 400) (hB : lB C) (hC : wP t tc vl ss en I C 189 o (fun d => dd d + 5) [.ref 126, xq_un]) : wP t tc vl ss en I (spA tc C) 187 o (fun d => dd d + 7) [.ref 126] := wAA hM h4 (lB_ch oV_n hB) (wVV hM h4 hB hC)
theorem wM (hM : mT 2 I t tc vl ss en) (h4 : t ≤ 400) (hv : ∀ i, tc i = 2 → vl i ≤ 9999) (hi : i ≤ t) (hl : (cds a).length ≤ i) (hvi : tc i = 2 → v = nI (vl i)) (hF : nF I Z) (hZ : mC n L o a Z) (q : ¬ tc i = 6) (q2 : ¬ tc i = 140) (bad : wB ss I g J Q (spM tc vl i a)) (good : wG t tc vl ss en I g J Q n L o (spM tc vl i a)) : xq_wp (d + 7) 189 (xq_s g J (ms Z (en i) (tc i) (ss i) v)) 0 [.ref 126, xq_un] [] Q := by
  have hbb : ∀ k, tc k < 2147483648 := fun k => by have := mT_b hM k; omega
  unfold spM at bad good
  refine tn_189 (d := d + 2) (o := o) (mT_nF hM hF) hbb ⟨fun z => absurd z q, fun _ => ⟨fun z => absurd z q2, fun _ => ?_⟩⟩
  refine wS hM h4 hv d g J _ n L i a Z v hi hl hvi hF hZ (fun k j e Y e' c s v gY => xq_wp.ret (k := 3) (fun F => rfl) (bad k j (bnd_e e) Y e' c s v gY)) (fun j b e hj Y v1 hv1 g1 g2 => ?_)
  rw [bnd_o e] at bad good
  have hB := lB_S _ _ _ _ e
  have hX := mT_nF hM g1
  have key : ∀ w, w < 3 → tc j = 160 + w → ∀ v3 : Int32, (tc (j + 1) = 2 → v3 = nI (vl (j + 1))) → xq_wp (d + 6) 183 (xq_s g J (ms Y (en (j + 1)) (tc (j + 1)) (ss (j + 1)) v3)) 0 [.ref 126, xq_un] [] (fun v x1 => xq_wp (d + 7) 189 x1 167 [.ref 126, .int (nI (17 + w))] (v.toList ++ []) Q) := fun w hw ew v3 hv3 => by
    rw [if_pos (by omega)] at bad good
    have i1 := m_lt hX hj (show ¬ tc j = 0 by omega)
    refine wS hM h4 hv d g J _ n L (j + 1) b Y v3 i1 (by omega) hv3 g1 g2 (fun k j e Y e' c s v gY => xq_wp.ret (k := 3) (fun F => rfl) (bad k j (bnd_e e) Y e' c s v gY)) (fun k c e2 hk Y v4 hv4 g1 g2 => ?_)
    rw [bnd_o e2] at bad good
    have hB2 := lB_S _ _ _ _ e2
    have hlc := cds_l c
    refine tn_189_167_1 (d := d + 6) (n := c.length) (s := 17 + w) (mT_nF hM g1) hbb ⟨g2.2.2.2.1, by omega, g2.2.2.2.1, by omega, g2.2.2.2.1, ?_⟩
    have e9 : tc j - 143 = 17 + w := by omega
    rw [e9] at good
    exact good k (c ++ [(17 + w, 0)]) rfl hk _ _ hv4 (nF_p g1 (by omega)) (mC_p (s := (17 + w, 0)) g2 (fun z => by have z : 17 + w = 0 ∨ 17 + w = 16 := z; omega))
  exact tn_189_96_1 (d := d + 3) hX hbb ⟨fun z => ⟨by omega, hj, key 0 (by omega) z⟩, fun z0 => ⟨fun z => ⟨by omega, hj, key 1 (by omega) z⟩, fun z1 => ⟨fun z => ⟨by omega, hj, key 2 (by omega) z⟩, fun z2 => bad 1 j (by rw [if_neg (by omega)]) Y _ _ _ _ g1⟩⟩⟩
theorem wC (hM : mT 2 I t tc vl ss en) (h4 : t ≤ 400) (hv : ∀ i, tc i = 2 → vl i ≤ 9999) : ∀ k, k ≤ 8 → wP t tc vl ss en I (spC tc vl k) 189 (8 - k) (fun d => d + 3 * k + 7) [.ref 126, xq_un] := by
  have hbb : ∀ k, tc k < 2147483648 := fun k => by have := mT_b hM k; omega
  intro k
  induction k with
  | zero =>
    intro _ d g J Q n L i a Z v hi hl hvi hF hZ bad good
    unfold spC at bad good
    by_cases q : tc i = 6 ∨ tc i = 140
    · rw [if_pos q] at bad
      have fl := bad 3 i rfl Z (en i) (tc i) (ss i) v hF
      exact tn_189 (d := d + 2) (o := 8) (mT_nF hM hF) hbb ⟨fun _ => ⟨hZ.2.2.1, by omega, fun _ => fl, fun z => absurd rfl z⟩, fun q1 => ⟨fun _ => ⟨hZ.2.2.1, by omega, fun _ => fl, fun z => absurd rfl z⟩, fun q2 => by omega⟩⟩
    · rw [if_neg q] at bad good
      exact wM (d := d) hM h4 hv hi hl hvi hF hZ (fun z => q (.inl z)) (fun z => q (.inr z)) bad good
  | succ k ih =>
    intro hk d g J Q n L i a Z v hi hl hvi hF hZ bad good
    have ih := ih (by omega)
    have hX := mT_nF hM hF
    have e8 : 8 - (k + 1) + 1 = 8 - k := by omega
    have e7 : 8 - k - 1 = 8 - (k + 1) := by omega
    have hF2 : nF I (xq_w Z 126 26 (nI (8 - k))) := nF_w hF (by omega)
    unfold spC at bad good
    by_cases q : tc i = 6
    · rw [if_pos q] at bad good
      have i1 := m_lt hX hi (show ¬ tc i = 0 by omega)
      refine tn_189 (d := d + 3 * k + 5) (o := 8 - (k + 1)) hX hbb ⟨fun _ => ⟨hZ.2.2.1, by omega, fun z => by omega, fun _ => ⟨hZ.2.2.1, by omega, hi, fun v3 hv3 => ?_⟩⟩, fun z => absurd q z⟩
      rw [e8, show d + 3 * k + 5 + 4 = d + 2 + 3 * k + 7 by omega]
      refine ih (d + 2) g J _ n L (i + 1) a _ v3 i1 (by omega) hv3 hF2 (mC_o hZ) (fun k' j e Y e' c s v gY => xq_wp.ret (k := 3) (fun F => rfl) (bad k' j (bnd_e e) Y e' c s v gY)) (fun j b e hj Y v1 hv1 g1 g2 => ?_)
      rw [bnd_o e] at bad good
      have hB := lB_C _ _ _ _ _ e
      have hlb := cds_l b
      refine tn_189_20_1 (d := d + 3 * k + 9) (n := b.length) (o := 8 - k) (mT_nF hM g1) hbb ⟨g2.2.2.1, by omega, g2.2.2.2.1, by omega, g2.2.2.2.1, by omega, g2.2.2.2.1, ?_⟩
      rw [e7]
      exact good j (b ++ [(20, 0)]) rfl hj _ _ hv1 (nF_p (nF_w g1 (by omega)) (by omega)) (mC_p (s := (20, 0)) (mC_o g2) (fun z => absurd z (by decide)))
    · rw [if_neg q] at bad good
      by_cases q1 : tc i = 140
      · rw [if_pos q1] at bad good
        have i1 := m_lt hX hi (show ¬ tc i = 0 by omega)
        refine tn_189 (d := d + 3 * k + 5) (o := 8 - (k + 1)) hX hbb ⟨fun z => absurd z q, fun _ => ⟨fun _ => ⟨hZ.2.2.1, by omega, fun z => by omega, fun _ => ⟨hZ.2.2.1, by omega, hi, fun v3 hv3 => ?_⟩⟩, fun z => absurd q1 z⟩⟩
        rw [e8]
        refine wA (dd := fun d => d + 3 * k + 2) hM h4 (lB_C k) ih d g J _ n L (i + 1) a _ v3 i1 (by omega) hv3 hF2 (mC_o hZ) (fun k' j e Y e' c s v gY => xq_wp.ret (k := 3) (fun F => rfl) (bad k' j (bnd_e e) Y e' c s v gY)) (fun j b e hj Y v1 hv1 g1 g2 => ?_)
        rw [bnd_o e] at bad good
        refine tn_189_65_1 (d := d + 3 * k + 5) (o := 8 - k) (mT_nF hM g1) hbb ⟨hj, fun z v4 hv4 => ⟨g2.2.2.1, by omega, ?_⟩, fun z => bad 1 j (by rw [if_neg z]) Y _ _ _ _ g1⟩
        rw [e7]
        exact good (j + 1) b (by rw [if_pos z]) (m_lt (mT_nF hM g1) hj (by omega)) _ _ hv4 (nF_w g1 (by omega)) (mC_o g2)
      · rw [if_neg q1] at bad good
        have := wM (d := d + 3 * k + 3) hM h4 hv hi hl hvi hF hZ q q1 bad good
        exact this
/-- what the lines leave in the model -/
def lM (p : LL) (Y : Nat → xw) : Prop := Y 126 14 = nI p.2.length ∧ Y 126 15 = nI p.1.length ∧ mst p.1 (Y 132) ∧ ∀ q, q < p.2.length → Y 131 (3 * q) = nI (p.2.getD q (0, 0, 0)).1 ∧ Y 131 (3 * q + 1) = nI (p.2.getD q (0, 0, 0)).2.1 ∧ Y 131 (3 * q + 2) = nI (p.2.getD q (0, 0, 0)).2.2
theorem lM_s {p : LL} {Y : Nat → xw} {c : LA} {l : Nat × Nat × Nat} {F : xw} (hp : lM p Z) (hF : ∀ q, q < 3 * p.2.length → F q = Z 131 q) (f0 : F (3 * p.2.length) = nI l.1) (f1 : F (3 * p.2.length + 1) = nI l.2.1) (f2 : F (3 * p.2.length + 2) = nI l.2.2) (y14 : Y 126 14 = nI (p.2.length + 1)) (y15 : Y 126 15 = nI c.length) (y132 : mst c (Y 132)) (y131 : Y 131 = F) : lM (c, p.2 ++ [l]) Y := by
  refine ⟨?_, y15, y132, fun q hq => ?_⟩
  · rw [y14]; show _ = nI (p.2 ++ [l]).length; rw [List.length_append, List.length_singleton]
  · have hq : q < (p.2 ++ [l]).length := hq
    rw [List.length_append, List.length_singleton] at hq
    show Y 131 (3 * q) = nI ((p.2 ++ [l]).getD q (0, 0, 0)).1 ∧ Y 131 (3 * q + 1) = nI ((p.2 ++ [l]).getD q (0, 0, 0)).2.1 ∧ Y 131 (3 * q + 2) = nI ((p.2 ++ [l]).getD q (0, 0, 0)).2.2
    rw [y131]
    by_cases e : q = p.2.length
    · subst e
      rw [gd_e]
      exact ⟨f0, f1, f2⟩
    · rw [gd_l (by omega), hF _ (by omega), hF _ (by omega), hF _ (by omega)]
      exact hp.2.2.2 q (by omega)
end yk_ln
