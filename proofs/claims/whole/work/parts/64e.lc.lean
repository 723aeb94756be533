/-! text: the class reads THE LAW -/
def cC (n : Int32) (E : xw) (l : List Nat) (Y : Nat → xw) : Prop := Y 117 0 = n ∧ Y 119 = E ∧ Y 117 1 = nI l.length ∧ ∀ q, q < l.length → Y 118 q = nI (l.getD q 0)
def kB (ss : Nat → Nat) (I : Nat → xw) (g : xq_V) (J : Nat → Nat → Int64) (Q : Option Value → xq_S → Prop) (x : LR) : Prop := ∀ k j, x = some (.inl (k, j)) → ∀ (Y : Nat → xw) (j' : Nat), gF I Y → Q (some (.int (nI 0))) (xq_s g J (rs (xq_w (xq_w Y 104 8 (nI k)) 104 9 (nI (ss j))) j'))
def kG (t : Nat) (I : Nat → xw) (g : xq_V) (J : Nat → Nat → Int64) (Q : Option Value → xq_S → Prop) (n : Int32) (E : xw) (x : LR) : Prop := ∀ j b, x = some (.inr (j, b)) → j ≤ t → ∀ Y : Nat → xw, gF I Y → cC n E (cds b) Y → Q (some (.int (nI 1))) (xq_s g J (rs Y j))
/-- a reader of the class -/
def kP (t : Nat) (ss : Nat → Nat) (I : Nat → xw) (X : Nat → LA → LR) (m : Nat) (dd : Nat → Nat) (As : List Value) : Prop := ∀ (d : Nat) (g : xq_V) (J : Nat → Nat → Int64) (Q : Option Value → xq_S → Prop) (n : Int32) (E : xw) (i : Nat) (a : LA) (Z : Nat → xw), i ≤ t → (cds a).length ≤ i → gF I Z → cC n E (cds a) Z → kB ss I g J Q (X i a) → kG t I g J Q n E (X i a) → xq_wp (dd d) m (xq_s g J (rs Z i)) 0 As [] Q
section yk_lc
variable {d : Nat} {g : xq_V} {J : Nat → Nat → Int64} {I X Z : Nat → xw} {Q : Option Value → xq_S → Prop} {t i j k o : Nat} {tc vl ss : Nat → Nat} {a b : LA} {n : Int32} {E : xw}
theorem bnd_e {x : LR} {f : Nat → LA → LR} {e : Nat × Nat} (h : x = some (.inl e)) : bnd x f = some (.inl e) := by rw [h]; rfl
theorem bnd_o {x : LR} {f : Nat → LA → LR} (h : x = some (.inr (j, b))) : bnd x f = f j b := by rw [h]; rfl
theorem cC_x {l : List Nat} {s : Nat} (h : cC n E l X) : cC n E (l ++ [s]) (xq_w (xq_w X 118 l.length (nI s)) 117 1 (nI (l.length + 1))) := by
  obtain ⟨h1, h2, h3, h4⟩ := h
  refine ⟨?_, ?_, ?_, fun q hq => ?_⟩
  · rw [xw_x (by omega), xw_i (by omega)]; exact h1
  · rw [xw_i (by omega), xw_i (by omega)]; exact h2
  · rw [xw_v, List.length_append]; rfl
  · rw [xw_i (by omega), xw_row]
    rw [List.length_append] at hq
    have hq : q < l.length + 1 := hq
    by_cases e : q = l.length
    · subst e
      rw [upd_eq, List.getD_eq_getElem?_getD, List.getElem?_append_right (Nat.le_refl _), Nat.sub_self]; rfl
    · rw [upd_ne e, h4 q (by omega), List.getD_eq_getElem?_getD, List.getD_eq_getElem?_getD, List.getElem?_append_left (by omega)]
theorem cC_p {s : Nat × Nat} {c : Nat} (h : cC n E (cds a) X) (e : cd1 s = [c]) : cC n E (cds (a ++ [s])) (xq_w (xq_w X 118 (cds a).length (nI c)) 117 1 (nI ((cds a).length + 1))) := by
  rw [cds_w, e]; exact cC_x h
theorem gF_p {p q : Nat} {v w : Int32} (h : gF I X) : gF I (xq_w (xq_w X 118 p v) 117 q w) := gF_w (gF_w h (by omega)) (by omega)
theorem cd1_n {s : Nat} (h : 1 ≤ s) (h2 : s < 9) : cd1 (s, 0) = [s - 1] := by
  unfold cd1
  rw [if_neg (show ¬ s = 0 by omega), if_pos (show s < 9 by omega)]
theorem kU (hT : cT 2 I t tc vl ss) : kP t ss I (spU tc vl) 53 (fun d => d + 2) [.ref 117, .ref 104, xq_un] := by
  intro d g J Q n E i a Z hi hl hF hC bad good
  have h4 := hT.1
  have hX := cT_gF hT hF
  have key : ∀ w, w < 8 → tc i = 41 + w → Z 117 1 = nI (cds a).length ∧ ((cds a).length < 2147483648 ∧ ((cds a).length < 400 → (Z 117 1 = (nI (cds a).length) ∧ (Z 117 1 = (nI (cds a).length) ∧ (¬ (tc i) = 0 ∧ (Q (some (.int (nI 1))) (xq_s g J (rs (xq_w (xq_w Z 118 (cds a).length (nI w)) 117 1 (nI ((cds a).length + 1))) (i + 1)))))))) ∧ (¬ ((cds a).length < 400) → (¬ (tc i) = 0 ∧ (Q (some (.int (nI 1))) (xq_s g J (rs Z (i + 1))))))) := fun w hw e => by
    have i1 := c_lt hX hi (show ¬ tc i = 0 by omega)
    refine ⟨hC.2.2.1, by omega, fun _ => ⟨hC.2.2.1, hC.2.2.1, by omega, ?_⟩, fun z => by omega⟩
    refine good (i + 1) (a ++ [(tc i - 40, 0)]) (by unfold spU; rw [if_neg (by omega), if_pos (by omega)]) i1 _ (gF_p hF) ?_
    exact cC_p hC (by rw [cd1_n (by omega) (by omega), show tc i - 40 - 1 = w by omega])
  refine tl_53 (d := d) (n := (cds a).length) hX ⟨hi, fun q => ?_, fun q => ⟨key 0 (by omega), fun q0 => ⟨key 1 (by omega), fun q1 => ⟨key 2 (by omega), fun q2 => ⟨key 3 (by omega), fun q3 => ⟨key 4 (by omega), fun q4 => ⟨key 5 (by omega), fun q5 => ⟨key 6 (by omega), fun q6 => ⟨key 7 (by omega), fun q7 => ?_⟩⟩⟩⟩⟩⟩⟩⟩⟩
  · have i1 := c_lt hX hi (show ¬ tc i = 0 by omega)
    refine ⟨hC.2.2.1, by omega, fun _ => ⟨hC.2.2.1, hC.2.2.1, ?_⟩, fun z => by omega⟩
    exact good (i + 1) (a ++ [(0, vl i)]) (by unfold spU; rw [if_pos q]) i1 _ (gF_p hF) (cC_p hC rfl)
  · exact bad 1 i (by unfold spU; rw [if_neg q, if_neg (by omega)]) Z i hF
theorem kPL (hT : cT 2 I t tc vl ss) (hv : ∀ i, tc i = 2 → vl i ≤ 9999) : ∀ (f i c : Nat) (a : LA) (Z : Nat → xw) (u3 : Value), t < i + f → c ≤ i → i ≤ t → (cds a).length ≤ i → gF I Z → cC n E (cds a) Z → kB ss I g J Q (spPL tc vl f i a) → kG t I g J Q n E (spPL tc vl f i a) → xq_wp (d + 3) 52 (xq_s g J (rs Z i)) 12 [.ref 117, .ref 104, .int (nI c), u3] [] Q := by
  have h4 := hT.1
  intro f
  induction f with
  | zero => intro i c a Z u3 h1 h2 h3; omega
  | succ f ih =>
    intro i c a Z u3 hf hc hi hl hF hC bad good
    have hX := cT_gF hT hF
    rw [spPL] at bad good
    refine tl_52_12 (d := d + 1) hX ⟨by omega, fun _ => ⟨hi, fun q => ⟨by omega, ?_⟩, fun q => ⟨fun q2 => ⟨by omega, c_lt hX hi (show ¬ tc i = 0 by omega), by omega, fun q3 => ⟨fun q4 => ?_, fun q4 => ?_⟩, fun q3 => ?_⟩, fun q2 => ?_⟩⟩, fun z => ?_⟩
    · rw [if_pos q] at bad good
      have i1 := c_lt hX hi (show ¬ tc i = 0 by omega)
      refine kU hT d g J _ n E (i + 1) a Z i1 (by omega) hF hC (fun k j e Y j' gY => tl_52_82_10_0 (d := d + 3) (cT_ff hT gY) (bad k j (bnd_e e) Y j' gY)) (fun j b e hj Y g1 g2 => ?_)
      rw [bnd_o e] at bad good
      have hB := lB_U _ _ _ _ e
      refine tl_52_82_10_1 (d := d + 2) (n := (cds b).length) (cT_gF hT g1) ⟨g2.2.2.1, by omega, fun _ => ⟨g2.2.2.1, g2.2.2.1, ?_⟩, fun z => by omega⟩
      exact ih j (c + 1) _ _ _ (by omega) (by omega) hj (by rw [lw_1 (by omega)]; omega) (gF_p g1) (cC_p g2 rfl) bad good
    · have i1 := c_lt hX hi (show ¬ tc i = 0 by omega)
      rw [if_neg q, if_pos q2, if_neg (fun z => z q3), if_neg (by omega)] at bad good
      refine kU hT d g J _ n E (i + 1) a Z i1 (by omega) hF hC (fun k j e Y j' gY => absurd e (by unfold spU; rw [if_pos q3]; simp)) (fun j b e hj Y g1 g2 => ?_)
      have hB := lB_U _ _ _ _ e
      unfold spU at e
      rw [if_pos q3] at e
      have e := Prod.mk.inj (Sum.inr.inj (Option.some.inj e))
      obtain ⟨e1, e2⟩ := e
      subst e1
      subst e2
      refine tl_52_82_11_1 (d := d + 2) (n := (cds (a ++ [(0, vl (i + 1))])).length) (cT_gF hT g1) ⟨g2.2.2.1, by omega, fun _ => ⟨g2.2.2.1, g2.2.2.1, ?_⟩, fun z => by omega⟩
      have e5 : cds (a ++ [(16, vl (i + 1))]) = cds (a ++ [(0, vl (i + 1))]) ++ [11] := by
        rw [cds_w, cds_w, List.append_assoc]; rfl
      refine ih (i + 1 + 1) (c + 1) _ _ _ (by omega) (by omega) hj ?_ (gF_p g1) ?_ bad good
      · rw [e5, List.length_append, List.length_singleton]; omega
      · rw [e5]; exact cC_x g2
    · have i1 := c_lt hX hi (show ¬ tc i = 0 by omega)
      have := hv (i + 1) q3
      exact bad 2 (i + 1) (by rw [if_neg q, if_pos q2, if_neg (fun z => z q3), if_pos (by omega)]) Z _ hF
    · exact bad 1 (i + 1) (by rw [if_neg q, if_pos q2, if_pos q3]) Z _ hF
    · exact good i a (by rw [if_neg q, if_neg q2]) hi Z hF hC
    · have : i = t := by omega
      have t0 := (hT.2.2.1 i hi).2 this
      exact good i a (by rw [if_neg (by omega), if_neg (by omega)]) hi Z hF hC
theorem kPr (hT : cT 2 I t tc vl ss) (hv : ∀ i, tc i = 2 → vl i ≤ 9999) : kP t ss I (spP tc vl) 52 (fun d => d + 3) [.ref 117, .ref 104, xq_un, xq_un] := by
  intro d g J Q n E i a Z hi hl hF hC bad good
  have h4 := hT.1
  have hX := cT_gF hT hF
  unfold spP at bad good
  refine tl_52 (d := d + 2) hX (kU hT d g J _ n E i a Z hi hl hF hC (fun k j e Y j' gY => tl_52_5_0 (d := d + 3) (cT_ff hT gY) (bad k j (bnd_e e) Y j' gY)) (fun j b e hj Y g1 g2 => ?_))
  rw [bnd_o e] at bad good
  have hB := lB_U _ _ _ _ e
  have := lF_e
  exact tl_52_5_1 (d := d + 3) (cT_gF hT g1) (kPL hT hv lF j 0 b Y _ (by omega) (by omega) hj (by omega) g1 g2 bad good)
theorem kSL (hT : cT 2 I t tc vl ss) (hv : ∀ i, tc i = 2 → vl i ≤ 9999) : ∀ (f i c : Nat) (a : LA) (Z : Nat → xw) (u3 : Value), t < i + f → c ≤ i → i ≤ t → (cds a).length ≤ i → gF I Z → cC n E (cds a) Z → kB ss I g J Q (lpS tc opS (spP tc vl) f i a) → kG t I g J Q n E (lpS tc opS (spP tc vl) f i a) → xq_wp (d + 4) 51 (xq_s g J (rs Z i)) 12 [.ref 117, .ref 104, .int (nI c), u3] [] Q := by
  have h4 := hT.1
  intro f
  induction f with
  | zero => intro i c a Z u3 h1 h2 h3; omega
  | succ f ih =>
    intro i c a Z u3 hf hc hi hl hF hC bad good
    have hX := cT_gF hT hF
    rw [lpS] at bad good
    refine tl_51_12 (d := d + 2) hX ⟨by omega, fun _ => ⟨hi, fun q => ⟨by omega, ?_⟩, fun q => ⟨fun q2 => ⟨by omega, ?_⟩, fun q2 => ?_⟩⟩, fun z => ?_⟩
    · have o : opS (tc i) = 13 := by unfold opS; rw [if_pos q]
      rw [o, if_neg (by omega)] at bad good
      have i1 := c_lt hX hi (show ¬ tc i = 0 by omega)
      refine kPr hT hv d g J _ n E (i + 1) a Z i1 (by omega) hF hC (fun k j e Y j' gY => tl_51_65_8_0 (d := d + 4) (cT_ff hT gY) (bad k j (bnd_e e) Y j' gY)) (fun j b e hj Y g1 g2 => ?_)
      rw [bnd_o e] at bad good
      have hB := lB_P _ _ _ _ e
      refine tl_51_65_8_1 (d := d + 3) (n := (cds b).length) (cT_gF hT g1) ⟨g2.2.2.1, by omega, fun _ => ⟨g2.2.2.1, g2.2.2.1, ?_⟩, fun z => by omega⟩
      exact ih j (c + 1) _ _ _ (by omega) (by omega) hj (by rw [lw_1 (by omega)]; omega) (gF_p g1) (cC_p g2 rfl) bad good
    · have o : opS (tc i) = 14 := by unfold opS; rw [if_neg q, if_pos q2]
      rw [o, if_neg (by omega)] at bad good
      have i1 := c_lt hX hi (show ¬ tc i = 0 by omega)
      refine kPr hT hv d g J _ n E (i + 1) a Z i1 (by omega) hF hC (fun k j e Y j' gY => tl_51_65_9_0 (d := d + 4) (cT_ff hT gY) (bad k j (bnd_e e) Y j' gY)) (fun j b e hj Y g1 g2 => ?_)
      rw [bnd_o e] at bad good
      have hB := lB_P _ _ _ _ e
      refine tl_51_65_9_1 (d := d + 3) (n := (cds b).length) (cT_gF hT g1) ⟨g2.2.2.1, by omega, fun _ => ⟨g2.2.2.1, g2.2.2.1, ?_⟩, fun z => by omega⟩
      exact ih j (c + 1) _ _ _ (by omega) (by omega) hj (by rw [lw_1 (by omega)]; omega) (gF_p g1) (cC_p g2 rfl) bad good
    · have o : opS (tc i) = 0 := by unfold opS; rw [if_neg q, if_neg q2]
      exact good i a (by rw [o, if_pos rfl]) hi Z hF hC
    · have : i = t := by omega
      have t0 := (hT.2.2.1 i hi).2 this
      have o : opS (tc i) = 0 := by unfold opS; rw [if_neg (by omega), if_neg (by omega)]
      exact good i a (by rw [o, if_pos rfl]) hi Z hF hC
theorem kS (hT : cT 2 I t tc vl ss) (hv : ∀ i, tc i = 2 → vl i ≤ 9999) : kP t ss I (spS tc vl) 51 (fun d => d + 4) [.ref 117, .ref 104, xq_un, xq_un] := by
  intro d g J Q n E i a Z hi hl hF hC bad good
  have h4 := hT.1
  have hX := cT_gF hT hF
  unfold spS chS at bad good
  refine tl_51 (d := d + 3) hX (kPr hT hv d g J _ n E i a Z hi hl hF hC (fun k j e Y j' gY => tl_51_5_0 (d := d + 4) (cT_ff hT gY) (bad k j (bnd_e e) Y j' gY)) (fun j b e hj Y g1 g2 => ?_))
  rw [bnd_o e] at bad good
  have hB := lB_P _ _ _ _ e
  have := lF_e
  exact tl_51_5_1 (d := d + 4) (cT_gF hT g1) (kSL hT hv lF j 0 b Y _ (by omega) (by omega) hj (by omega) g1 g2 bad good)
end yk_lc
