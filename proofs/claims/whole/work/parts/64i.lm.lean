/-! text: the model reads THE LAW -/
def mst (a : LA) (F : xw) : Prop := ∀ q, q < a.length → F (2 * q) = nI (a.getD q (0, 0)).1 ∧ ((a.getD q (0, 0)).1 = 0 ∨ (a.getD q (0, 0)).1 = 16 → F (2 * q + 1) = nI (a.getD q (0, 0)).2)
def mC (n : Int32) (L : xw) (o : Nat) (a : LA) (Y : Nat → xw) : Prop := Y 126 14 = n ∧ Y 131 = L ∧ Y 126 26 = nI o ∧ Y 126 15 = nI a.length ∧ mst a (Y 132)
def wB (ss : Nat → Nat) (I : Nat → xw) (g : xq_V) (J : Nat → Nat → Int64) (Q : Option Value → xq_S → Prop) (x : LR) : Prop := ∀ k j, x = some (.inl (k, j)) → ∀ (Y : Nat → xw) (e c s : Nat) (v : Int32), nF I Y → Q (some (.int (nI 0))) (xq_s g J (ms (xq_w (xq_w Y 126 23 (nI k)) 126 24 (nI (ss j))) e c s v))
def wG (t : Nat) (tc vl ss en : Nat → Nat) (I : Nat → xw) (g : xq_V) (J : Nat → Nat → Int64) (Q : Option Value → xq_S → Prop) (n : Int32) (L : xw) (o : Nat) (x : LR) : Prop := ∀ j b, x = some (.inr (j, b)) → j ≤ t → ∀ (Y : Nat → xw) (v : Int32), (tc j = 2 → v = nI (vl j)) → nF I Y → mC n L o b Y → Q (some (.int (nI 1))) (xq_s g J (ms Y (en j) (tc j) (ss j) v))
/-- a reader of the model -/
def wP (t : Nat) (tc vl ss en : Nat → Nat) (I : Nat → xw) (X : Nat → LA → LR) (m o : Nat) (dd : Nat → Nat) (As : List Value) : Prop := ∀ (d : Nat) (g : xq_V) (J : Nat → Nat → Int64) (Q : Option Value → xq_S → Prop) (n : Int32) (L : xw) (i : Nat) (a : LA) (Z : Nat → xw) (v : Int32), i ≤ t → (cds a).length ≤ i → (tc i = 2 → v = nI (vl i)) → nF I Z → mC n L o a Z → wB ss I g J Q (X i a) → wG t tc vl ss en I g J Q n L o (X i a) → xq_wp (dd d) m (xq_s g J (ms Z (en i) (tc i) (ss i) v)) 0 As [] Q
section yk_lm
variable {d : Nat} {g : xq_V} {J : Nat → Nat → Int64} {I X Z : Nat → xw} {Q : Option Value → xq_S → Prop} {t i j k o : Nat} {tc vl ss en : Nat → Nat} {a b : LA} {n : Int32} {L : xw} {v : Int32}
theorem nF_p {p q r : Nat} {v w z : Int32} (h : nF I X) (hr : 14 ≤ r ∧ r < 18) : nF I (xq_w (xq_w (xq_w X 132 p v) 132 q w) 126 r z) := nF_w (nF_w (nF_w h (by omega)) (by omega)) (by omega)
theorem mC_p {s : Nat × Nat} {w : Int32} (h : mC n L o a X) (hw : s.1 = 0 ∨ s.1 = 16 → w = nI s.2) : mC n L o (a ++ [s]) (xq_w (xq_w (xq_w X 132 (2 * a.length) (nI s.1)) 132 (2 * a.length + 1) w) 126 15 (nI (a.length + 1))) := by
  obtain ⟨h1, h2, h3, h4, h5⟩ := h
  refine ⟨?_, ?_, ?_, ?_, fun q hq => ?_⟩
  · rw [xw_x (by omega), xw_i (by omega), xw_i (by omega)]; exact h1
  · rw [xw_i (by omega), xw_i (by omega), xw_i (by omega)]; exact h2
  · rw [xw_x (by omega), xw_i (by omega), xw_i (by omega)]; exact h3
  · rw [xw_v, List.length_append, List.length_singleton]
  · rw [List.length_append, List.length_singleton] at hq
    rw [xw_i (by omega)]
    by_cases e : q = a.length
    · subst e
      rw [gd_e]
      refine ⟨?_, fun z => ?_⟩
      · rw [xw_x (by omega), xw_v]
      · rw [xw_v]; exact hw z
    · rw [gd_l (by omega), xw_x (by omega), xw_x (by omega), xw_x (by omega), xw_x (by omega)]
      exact h5 q (by omega)
theorem mC_w {f : Nat} {w : Int32} (h : mC n L o a X) (hf : f = 23 ∨ f = 24 ∨ f = 28) : mC n L o a (xq_w X 126 f w) := by
  obtain ⟨h1, h2, h3, h4, h5⟩ := h
  refine ⟨?_, ?_, ?_, ?_, ?_⟩
  · rw [xw_x (by omega)]; exact h1
  · rw [xw_i (by omega)]; exact h2
  · rw [xw_x (by omega)]; exact h3
  · rw [xw_x (by omega)]; exact h4
  · rw [xw_i (by omega)]; exact h5
theorem mC_o {o' : Nat} (h : mC n L o a X) : mC n L o' a (xq_w X 126 26 (nI o')) := by
  obtain ⟨h1, h2, h3, h4, h5⟩ := h
  refine ⟨?_, ?_, xw_v, ?_, ?_⟩
  · rw [xw_x (by omega)]; exact h1
  · rw [xw_i (by omega)]; exact h2
  · rw [xw_x (by omega)]; exact h4
  · rw [xw_i (by omega)]; exact h5
theorem wU (hM : mT 2 I t tc vl ss en) (h4 : t ≤ 400) : wP t tc vl ss en I (spU tc vl) 185 o (fun d => d + 4) [.ref 126, xq_un] := by
  intro d g J Q n L i a Z v hi hl hv hF hC bad good
  have hbb : ∀ k, tc k < 2147483648 := fun k => by have := mT_b hM k; omega
  have hX := mT_nF hM hF
  have hla := cds_l a
  have h15 := hC.2.2.2.1
  have num : tc i = 2 → Z 126 15 = (nI a.length) ∧ ((2 * a.length) < 820 ∧ (Z 126 15 = (nI a.length) ∧ ((2 * a.length + 1) < 820 ∧ (Z 126 15 = (nI a.length) ∧ (¬ (tc i) = 0 ∧ i ≤ t ∧ (∀ (v1 : Int32) (_ : tc (i + 1) = 2 → v1 = nI (vl (i + 1))), (Q (some (.int (nI 1))) (xq_s g J (ms (xq_w (xq_w (xq_w Z 132 (2 * a.length) (nI 0)) 132 (2 * a.length + 1) v) 126 15 (nI (a.length + 1))) (en (i + 1)) (tc (i + 1)) (ss (i + 1)) v1))))))))) := fun q => by
    have i1 := m_lt hX hi (show ¬ tc i = 0 by omega)
    refine ⟨h15, by omega, h15, by omega, h15, by omega, hi, fun v1 hv1 => ?_⟩
    exact good (i + 1) (a ++ [(0, vl i)]) (by unfold spU; rw [if_pos q]) i1 _ _ hv1 (nF_p hF (by omega)) (mC_p (s := (0, vl i)) hC (fun _ => hv q))
  have no : ¬ tc i = 2 → ¬ (41 ≤ tc i ∧ tc i ≤ 48) → Q (some (.int (nI 0))) (xq_s g J (ms (xq_w (xq_w Z 126 23 (nI 1)) 126 24 (nI (ss i))) (en i) (tc i) (ss i) v)) := fun q q2 => bad 1 i (by unfold spU; rw [if_neg q, if_neg q2]) Z _ _ _ _ hF
  refine tn_185 (d := d) (n := a.length) hX hbb ⟨fun q => ⟨num, fun q2 => no q2 (by omega)⟩, fun q => ⟨fun q3 => ⟨num, fun q2 => no q2 (by omega)⟩, fun q3 => ⟨fun q2 => by omega, fun q2 => ?_⟩⟩⟩
  have i1 := m_lt hX hi (show ¬ tc i = 0 by omega)
  refine ⟨by omega, h15, by omega, h15, by omega, h15, by omega, hi, fun v1 hv1 => ?_⟩
  exact good (i + 1) (a ++ [(tc i - 40, 0)]) (by unfold spU; rw [if_neg q2, if_pos (by omega)]) i1 _ _ hv1 (nF_p hF (by omega)) (mC_p (s := (tc i - 40, 0)) hC (fun z => by have z : tc i - 40 = 0 ∨ tc i - 40 = 16 := z; omega))
theorem wPL (hM : mT 2 I t tc vl ss en) (h4 : t ≤ 400) (hv : ∀ i, tc i = 2 → vl i ≤ 9999) : ∀ (f i : Nat) (a : LA) (Z : Nat → xw) (v : Int32) (u1 u2 : Value), t < i + f → i ≤ t → (cds a).length ≤ i → (tc i = 2 → v = nI (vl i)) → nF I Z → mC n L o a Z → wB ss I g J Q (spPL tc vl f i a) → wG t tc vl ss en I g J Q n L o (spPL tc vl f i a) → xq_wp (d + 5) 184 (xq_s g J (ms Z (en i) (tc i) (ss i) v)) 9 [.ref 126, u1, u2] [] Q := by
  have hbb : ∀ k, tc k < 2147483648 := fun k => by have := mT_b hM k; omega
  intro f
  induction f with
  | zero => intro i a Z v u1 u2 h1 h2; omega
  | succ f ih =>
    intro i a Z v u1 u2 hf hi hl hvi hF hC bad good
    have hX := mT_nF hM hF
    have hla := cds_l a
    rw [spPL] at bad good
    refine tn_184_9 (d := d + 1) (n := a.length) hX hbb ⟨fun q => ⟨fun q2 => by omega, fun q2 => ⟨by omega, hi, fun v3 hv3 => ?_⟩⟩, fun q => ⟨fun q2 => ⟨by omega, hi, fun v4 hv4 => ⟨fun q3 => ⟨fun q4 => ?_, fun q4 => ⟨by omega, m_lt hX hi (show ¬ tc i = 0 by omega), fun v5 hv5 => ?_⟩⟩, fun q3 => ?_⟩⟩, fun q2 => ?_⟩⟩
    · rw [if_pos q] at bad good
      have i1 := m_lt hX hi (show ¬ tc i = 0 by omega)
      refine wU hM h4 d g J _ n L (i + 1) a Z v3 i1 (by omega) hv3 hF hC (fun k j e Y e' c s v gY => xq_wp.ret (k := 3) (fun F => rfl) (bad k j (bnd_e e) Y e' c s v gY)) (fun j b e hj Y v1 hv1 g1 g2 => ?_)
      rw [bnd_o e] at bad good
      have hB := lB_U _ _ _ _ e
      have hlb := cds_l b
      refine tn_184_100_1 (d := d + 4) (n := b.length) (mT_nF hM g1) hbb ⟨g2.2.2.2.1, by omega, g2.2.2.2.1, by omega, g2.2.2.2.1, ?_⟩
      exact ih j _ _ _ _ _ (by omega) hj (by rw [lw_1 (by omega)]; omega) hv1 (nF_p g1 (by omega)) (mC_p (s := (15, 0)) g2 (fun z => absurd z (by decide))) bad good
    · rw [if_neg q, if_pos q2, if_neg (fun z => z q3)] at bad
      have z : vl (i + 1) = 0 := by
        have h9 := hv _ q3
        have e := (hv4 q3).symm.trans q4
        exact (xn_eq (by omega) (by omega)).1 e
      exact bad 2 (i + 1) (by rw [if_pos z]) Z _ _ _ _ hF
    · have h9 := hv _ q3
      have z : ¬ vl (i + 1) = 0 := fun z => q4 (by rw [hv4 q3, z])
      rw [if_neg q, if_pos q2, if_neg (fun z => z q3), if_neg z] at bad good
      have i1 := m_lt hX hi (show ¬ tc i = 0 by omega)
      have i2 := m_lt hX i1 (show ¬ tc (i + 1) = 0 by omega)
      have h15 := hC.2.2.2.1
      refine ⟨h15, by omega, h15, by omega, h15, ?_⟩
      refine ih (i + 1 + 1) (a ++ [(16, vl (i + 1))]) _ _ _ _ (by omega) i2 ?_ hv5 (nF_p hF (by omega)) (mC_p (s := (16, vl (i + 1))) hC (fun _ => hv4 q3)) bad good
      rw [cds_w, List.length_append, show (cd1 (16, vl (i + 1))).length = 2 from rfl]; omega
    · exact bad 1 (i + 1) (by rw [if_neg q, if_pos q2, if_pos q3]) Z _ _ _ _ hF
    · exact good i a (by rw [if_neg q, if_neg q2]) hi Z v hvi hF hC
theorem wPr (hM : mT 2 I t tc vl ss en) (h4 : t ≤ 400) (hv : ∀ i, tc i = 2 → vl i ≤ 9999) : wP t tc vl ss en I (spP tc vl) 184 o (fun d => d + 5) [.ref 126, xq_un, xq_un] := by
  intro d g J Q n L i a Z v hi hl hvi hF hC bad good
  have hbb : ∀ k, tc k < 2147483648 := fun k => by have := mT_b hM k; omega
  unfold spP at bad good
  refine tn_184 (d := d + 4) (mT_nF hM hF) hbb (wU hM h4 d g J _ n L i a Z v hi hl hvi hF hC (fun k j e Y e' c s v gY => xq_wp.ret (k := 3) (fun F => rfl) (bad k j (bnd_e e) Y e' c s v gY)) (fun j b e hj Y v1 hv1 g1 g2 => ?_))
  rw [bnd_o e] at bad good
  have hB := lB_U _ _ _ _ e
  have := lF_e
  exact tn_184_4_1 (d := d + 5) (mT_nF hM g1) hbb (wPL hM h4 hv lF j b Y v1 _ _ (by omega) hj (by omega) hv1 g1 g2 bad good)
/-- a row of X with signs between, in the model -/
theorem wSL (hM : mT 2 I t tc vl ss en) (h4 : t ≤ 400) (hv : ∀ i, tc i = 2 → vl i ≤ 9999) : ∀ (f i : Nat) (a : LA) (Z : Nat → xw) (v : Int32) (u1 : Value), t < i + f → i ≤ t → (cds a).length ≤ i → (tc i = 2 → v = nI (vl i)) → nF I Z → mC n L o a Z → wB ss I g J Q (lpS tc opS (spP tc vl) f i a) → wG t tc vl ss en I g J Q n L o (lpS tc opS (spP tc vl) f i a) → xq_wp (d + 6) 183 (xq_s g J (ms Z (en i) (tc i) (ss i) v)) 9 [.ref 126, u1] [] Q := by
  have hbb : ∀ k, tc k < 2147483648 := fun k => by have := mT_b hM k; omega
  intro f
  induction f with
  | zero => intro i a Z v u1 h1 h2; omega
  | succ f ih =>
    intro i a Z v u1 hf hi hl hvi hF hC bad good
    have hX := mT_nF hM hF
    rw [lpS] at bad good
    have step : ∀ s, s = 13 ∨ s = 14 → opS (tc i) = s → ∀ (v3 : Int32), (tc (i + 1) = 2 → v3 = nI (vl (i + 1))) → xq_wp (d + 5) 184 (xq_s g J (ms Z (en (i + 1)) (tc (i + 1)) (ss (i + 1)) v3)) 0 [.ref 126, xq_un, xq_un] [] (fun v x1 => xq_wp (d + 6) 183 x1 55 [.ref 126, .int (nI s)] (v.toList ++ []) Q) := fun s hs o v3 hv3 => by
      have n0 : ¬ tc i = 0 := fun z => by rw [z] at o; have : opS 0 = 0 := rfl; omega
      rw [o, if_neg (by omega)] at bad good
      have i1 := m_lt hX hi n0
      refine wPr hM h4 hv d g J _ n L (i + 1) a Z v3 i1 (by omega) hv3 hF hC (fun k j e Y e' c s v gY => xq_wp.ret (k := 3) (fun F => rfl) (bad k j (bnd_e e) Y e' c s v gY)) (fun j b e hj Y v1 hv1 g1 g2 => ?_)
      rw [bnd_o e] at bad good
      have hB := lB_P _ _ _ _ e
      have hlb := cds_l b
      have key := ih j (b ++ [(s, 0)]) _ v1 (.int (nI s)) (by omega) hj (by rw [lw_1 (by omega)]; omega) hv1 (nF_p (r := 15) g1 (by omega)) (mC_p (s := (s, 0)) g2 (w := nI 0) (fun z => by have z : s = 0 ∨ s = 16 := z; omega)) bad good
      rcases hs with z | z
      · subst z
        exact tn_183_55_13_1 (d := d + 5) (n := b.length) (mT_nF hM g1) hbb ⟨g2.2.2.2.1, by omega, g2.2.2.2.1, by omega, g2.2.2.2.1, key⟩
      · subst z
        exact tn_183_55_14_1 (d := d + 5) (n := b.length) (mT_nF hM g1) hbb ⟨g2.2.2.2.1, by omega, g2.2.2.2.1, by omega, g2.2.2.2.1, key⟩
    refine tn_183_9 (d := d + 2) hX hbb ⟨fun q => ⟨by omega, hi, fun v3 hv3 => step 13 (.inl rfl) (by unfold opS; rw [if_pos q]) v3 hv3⟩, fun q => ⟨fun q2 => ⟨by omega, hi, fun v3 hv3 => step 14 (.inr rfl) (by unfold opS; rw [if_neg q, if_pos q2]) v3 hv3⟩, fun q2 => ?_⟩⟩
    have o : opS (tc i) = 0 := by unfold opS; rw [if_neg q, if_neg q2]
    exact good i a (by rw [o, if_pos rfl]) hi Z v hvi hF hC
theorem wS (hM : mT 2 I t tc vl ss en) (h4 : t ≤ 400) (hv : ∀ i, tc i = 2 → vl i ≤ 9999) : wP t tc vl ss en I (spS tc vl) 183 o (fun d => d + 6) [.ref 126, xq_un] := by
  intro d g J Q n L i a Z v hi hl hvi hF hC bad good
  have hbb : ∀ k, tc k < 2147483648 := fun k => by have := mT_b hM k; omega
  unfold spS chS at bad good
  refine tn_183 (d := d + 5) (mT_nF hM hF) hbb (wPr hM h4 hv d g J _ n L i a Z v hi hl hvi hF hC (fun k j e Y e' c s v gY => xq_wp.ret (k := 3) (fun F => rfl) (bad k j (bnd_e e) Y e' c s v gY)) (fun j b e hj Y v1 hv1 g1 g2 => ?_))
  rw [bnd_o e] at bad good
  have hB := lB_P _ _ _ _ e
  have := lF_e
  exact tn_183_4_1 (d := d + 6) (mT_nF hM g1) hbb (wSL hM h4 hv lF j b Y v1 _ (by omega) hj (by omega) hv1 g1 g2 bad good)
end yk_lm
