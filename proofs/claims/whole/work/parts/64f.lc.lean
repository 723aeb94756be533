/-! text: the class reads THE LAW's conditions -/
def apA (z s : Nat) (b : LA) : LA := if z = 1 then b ++ [(s, 0)] else b
section yk_ld
variable {d : Nat} {g : xq_V} {J : Nat → Nat → Int64} {I X Z : Nat → xw} {Q : Option Value → xq_S → Prop} {t i j k o : Nat} {tc vl ss : Nat → Nat} {a b : LA} {n : Int32} {E : xw}
/-- what is left to read, behind an and, behind an or -/
def rdC (tc : Nat → Nat) (C : Nat → LA → LR) (ba bo fv fo i : Nat) (a : LA) : LR := bnd (C i a) (fun j b => bnd (lpS tc opV C fv j (apA ba 21 b)) (fun j2 b2 => lpS tc opA (chS tc opV C) fo j2 (apA bo 22 b2)))
theorem apA_0 {s : Nat} : apA 0 s b = b := if_neg (by omega)
theorem apA_1 {s : Nat} : apA 1 s b = b ++ [(s, 0)] := if_pos rfl
theorem rdC_v {C : Nat → LA → LR} {bo fv fo j : Nat} (h : tc j = 5) : bnd (lpS tc opV C (fv + 1) j b) (fun j2 b2 => lpS tc opA (chS tc opV C) fo j2 (apA bo 22 b2)) = rdC tc C 1 bo fv fo (j + 1) b := by
  have o : opV (tc j) = 21 := by unfold opV; rw [if_pos h]
  rw [lpS, o, if_neg (by omega), bnd_a]
  rfl
theorem rdC_a {C : Nat → LA → LR} {fo j : Nat} (h : tc j = 4) : lpS tc opA (chS tc opV C) (fo + 1) j b = rdC tc C 0 1 lF fo (j + 1) b := by
  have o : opA (tc j) = 22 := by unfold opA; rw [if_pos h]
  rw [lpS, o, if_neg (by omega)]
  unfold chS rdC
  rw [bnd_a]
  rfl
theorem kAL {C : Nat → LA → LR} {dd : Nat → Nat} (hT : cT 2 I t tc vl ss) (hB : lB C) (hC : kP t ss I C 57 (fun d => dd d + 1) [.ref 117, .ref 104, .int (nI o), xq_un, xq_un]) : ∀ (m i c ba bo fv fo : Nat) (a : LA) (Z : Nat → xw), t < i + m → 2 * c ≤ i → t < i + fv → t < i + fo → i ≤ t → ba ≤ 1 → bo ≤ 1 → (cds a).length + ba + bo ≤ i → gF I Z → cC n E (cds a) Z → kB ss I g J Q (rdC tc C ba bo fv fo i a) → kG t I g J Q n E (rdC tc C ba bo fv fo i a) → xq_wp (dd d + 2) 56 (xq_s g J (rs Z i)) 8 [.ref 117, .ref 104, .int (nI o), .int (nI ba), .int (nI bo), .int (nI c)] [] Q := by
  have h4 := hT.1
  intro m
  induction m with
  | zero => intro i c ba bo fv fo a Z h1 h2 h3 h4 h5; omega
  | succ m ih =>
    intro i c ba bo fv fo a Z hm hc hfv hfo hi hba hbo hl hF hZ bad good
    have hX := cT_gF hT hF
    unfold rdC at bad good
    refine tl_56_8 (d := dd d + 1) hX ⟨by omega, fun _ => ?_, fun z => by omega⟩
    refine hC d g J _ n E i a Z hi (by omega) hF hZ (fun k j e Y j' gY => tl_56_22_0 (d := dd d + 2) (cT_ff hT gY) (bad k j (bnd_e e) Y j' gY)) (fun j b e hj Y g1 g2 => ?_)
    rw [bnd_o e] at bad good
    have hB1 := hB _ _ _ _ e
    refine xq_wp.go (k := 1) (fun F => rfl) ?_
    -- behind the sign
    have next : ∀ (Y : Nat → xw) (b : LA) (u3 : Value), gF I Y → cC n E (cds b) Y → (cds b).length + bo ≤ j → kB ss I g J Q (bnd (lpS tc opV C fv j b) (fun j2 b2 => lpS tc opA (chS tc opV C) fo j2 (apA bo 22 b2))) → kG t I g J Q n E (bnd (lpS tc opV C fv j b) (fun j2 b2 => lpS tc opA (chS tc opV C) fo j2 (apA bo 22 b2))) → xq_wp (dd d + 2) 56 (xq_s g J (rs Y j)) 37 [.ref 117, .ref 104, .int (nI o), u3, .int (nI bo), .int (nI c)] [] Q := fun Y b u3 g1 g2 hlb bad good => by
      obtain ⟨fv', rfl⟩ : ∃ x, fv = x + 1 := ⟨fv - 1, by omega⟩
      obtain ⟨fo', rfl⟩ : ∃ x, fo = x + 1 := ⟨fo - 1, by omega⟩
      have hX := cT_gF hT g1
      refine tl_56_37 (d := dd d) hX ⟨hj, fun q => ⟨by omega, ?_⟩, fun q => ?_⟩
      · rw [rdC_v q] at bad good
        have i1 := c_lt hX hj (show ¬ tc j = 0 by omega)
        exact ih (j + 1) (c + 1) 1 bo fv' (fo' + 1) b Y (by omega) (by omega) (by omega) (by omega) i1 (by omega) hbo (by omega) g1 g2 bad good
      · have o1 : opV (tc j) = 0 := by unfold opV; rw [if_neg q]
        have e1 : lpS tc opV C (fv' + 1) j b = some (.inr (j, b)) := by rw [lpS, o1, if_pos rfl]
        rw [bnd_o e1] at bad good
        -- the end of it
        have fin : ∀ (Y : Nat → xw) (b : LA), gF I Y → cC n E (cds b) Y → (cds b).length ≤ j → kB ss I g J Q (lpS tc opA (chS tc opV C) (fo' + 1) j b) → kG t I g J Q n E (lpS tc opA (chS tc opV C) (fo' + 1) j b) → j ≤ t ∧ (((tc j) = 4 → (¬ (tc j) = 0 ∧ (xq_wp (dd d + 2) 56 (xq_s g J (rs Y (j + 1))) 8 [.ref 117, .ref 104, .int (nI o), .int (nI 0), .int (nI 1), .int (nI (c + 1))] [] Q))) ∧ (¬ ((tc j) = 4) → (Q (some (.int (nI 1))) (xq_s g J (rs Y j))))) := fun Y b g1 g2 hlb bad good => by
          refine ⟨hj, fun q2 => ⟨by omega, ?_⟩, fun q2 => ?_⟩
          · rw [rdC_a q2] at bad good
            have i1 := c_lt (cT_gF hT g1) hj (show ¬ tc j = 0 by omega)
            have := lF_e
            exact ih (j + 1) (c + 1) 0 1 lF fo' b Y (by omega) (by omega) (by omega) (by omega) i1 (by omega) (by omega) (by omega) g1 g2 bad good
          · have o2 : opA (tc j) = 0 := by unfold opA; rw [if_neg q2]
            exact good j b (by rw [lpS, o2, if_pos rfl]) hj Y g1 g2
        rcases (show bo = 0 ∨ bo = 1 by omega) with z | z
        · subst z
          rw [apA_0] at bad good
          exact tl_56_48_0 (d := dd d) hX (fin Y b g1 g2 (by omega) bad good)
        · subst z
          rw [apA_1] at bad good
          refine tl_56_48_1 (d := dd d) (n := (cds b).length) hX ⟨g2.2.2.1, by omega, fun _ => ⟨g2.2.2.1, g2.2.2.1, ?_⟩, fun z => by omega⟩
          exact fin _ (b ++ [(22, 0)]) (gF_p g1) (cC_p g2 rfl) (by rw [lw_1 (by omega)]; omega) bad good
    rcases (show ba = 0 ∨ ba = 1 by omega) with z | z
    · subst z
      rw [apA_0] at bad good
      exact tl_56_27_0 (d := dd d + 2) (cT_gF hT g1) (next Y b _ g1 g2 (by omega) bad good)
    · subst z
      rw [apA_1] at bad good
      refine tl_56_27 (d := dd d + 1) (n := (cds b).length) (cT_gF hT g1) ⟨g2.2.2.1, by omega, fun _ => ⟨g2.2.2.1, g2.2.2.1, ?_⟩, fun z => by omega⟩
      exact next _ (b ++ [(21, 0)]) _ (gF_p g1) (cC_p g2 rfl) (by rw [lw_1 (by omega)]; omega) bad good
theorem kA {C : Nat → LA → LR} {dd : Nat → Nat} (hT : cT 2 I t tc vl ss) (hB : lB C) (hC : kP t ss I C 57 (fun d => dd d + 1) [.ref 117, .ref 104, .int (nI o), xq_un, xq_un]) : kP t ss I (spA tc C) 56 (fun d => dd d + 2) [.ref 117, .ref 104, .int (nI o), xq_un, xq_un, xq_un] := by
  intro d g J Q n E i a Z hi hl hF hZ bad good
  have h4 := hT.1
  have e : spA tc C i a = rdC tc C 0 0 lF lF i a := by
    unfold spA chS rdC
    rw [bnd_a]
    rfl
  rw [e] at bad good
  have := lF_e
  exact tl_56 (d := dd d + 2) (cT_gF hT hF) (kAL hT hB hC 402 i 0 0 0 lF lF a Z (by omega) (by omega) (by omega) (by omega) hi (by omega) (by omega) (by omega) hF hZ bad good)
theorem kM (hT : cT 2 I t tc vl ss) (hv : ∀ i, tc i = 2 → vl i ≤ 9999) (hi : i ≤ t) (hl : (cds a).length ≤ i) (hF : gF I Z) (hZ : cC n E (cds a) Z) (q : ¬ tc i = 6) (q2 : ¬ tc i = 140) (bad : kB ss I g J Q (spM tc vl i a)) (good : kG t I g J Q n E (spM tc vl i a)) : xq_wp (d + 5) 57 (xq_s g J (rs Z i)) 0 [.ref 117, .ref 104, .int (nI o), xq_un, xq_un] [] Q := by
  have h4 := hT.1
  unfold spM at bad good
  refine tl_57 (d := d + 3) (cT_gF hT hF) ⟨hi, fun z => absurd z q, fun _ => ⟨fun z => absurd z q2, fun _ => ?_⟩⟩
  refine kS hT hv d g J _ n E i a Z hi hl hF hZ (fun k j e Y j' gY => tl_57_92_0 (d := d + 5) (cT_ff hT gY) (bad k j (bnd_e e) Y j' gY)) (fun j b e hj Y g1 g2 => ?_)
  rw [bnd_o e] at bad good
  have hB := lB_S _ _ _ _ e
  have hX := cT_gF hT g1
  have key : ∀ w, w < 3 → tc j = 160 + w → xq_wp (d + 4) 51 (xq_s g J (rs Y (j + 1))) 0 [.ref 117, .ref 104, xq_un, xq_un] [] (fun v x1 => xq_wp (d + 5) 57 x1 163 [.ref 117, .ref 104, .int (nI o), .int (nI 0), .int (nI (12 + w))] (v.toList ++ []) Q) := fun w hw ew => by
    rw [if_pos (by omega)] at bad good
    have i1 := c_lt hX hj (show ¬ tc j = 0 by omega)
    refine kS hT hv d g J _ n E (j + 1) b Y i1 (by omega) g1 g2 (fun k j e Y j' gY => tl_57_163_0 (d := d + 5) (cT_ff hT gY) (bad k j (bnd_e e) Y j' gY)) (fun k c e2 hk Y g1 g2 => ?_)
    rw [bnd_o e2] at bad good
    have hB2 := lB_S _ _ _ _ e2
    refine tl_57_163_1 (d := d + 4) (n := (cds c).length) (cT_gF hT g1) ⟨g2.2.2.1, by omega, fun _ => ⟨g2.2.2.1, g2.2.2.1, ?_⟩, fun z => by omega⟩
    refine good k (c ++ [(tc j - 143, 0)]) rfl hk _ (gF_p g1) (cC_p g2 ?_)
    unfold cd1
    rw [if_neg (show ¬ tc j - 143 = 0 by omega), if_neg (show ¬ tc j - 143 < 9 by omega), if_neg (show ¬ tc j - 143 = 16 by omega), if_neg (show ¬ tc j - 143 = 20 by omega), if_pos (show tc j - 143 < 20 by omega), show tc j - 143 - 5 = 12 + w by omega]
  exact tl_57_92_1 (d := d + 3) hX ⟨hj, fun z => ⟨by omega, key 0 (by omega) z⟩, fun z0 => ⟨fun z => ⟨by omega, key 1 (by omega) z⟩, fun z1 => ⟨fun z => ⟨by omega, key 2 (by omega) z⟩, fun z2 => bad 1 j (by rw [if_neg (by omega)]) Y j g1⟩⟩⟩
theorem kC (hT : cT 2 I t tc vl ss) (hv : ∀ i, tc i = 2 → vl i ≤ 9999) : ∀ k, k ≤ 8 → kP t ss I (spC tc vl k) 57 (fun d => d + 2 * k + 5) [.ref 117, .ref 104, .int (nI (8 - k)), xq_un, xq_un] := by
  have h4 := hT.1
  intro k
  induction k with
  | zero =>
    intro _ d g J Q n E i a Z hi hl hF hZ bad good
    unfold spC at bad good
    by_cases q : tc i = 6 ∨ tc i = 140
    · rw [if_pos q] at bad
      have fl := bad 3 i rfl Z i hF
      exact tl_57 (d := d + 3) (cT_gF hT hF) ⟨hi, fun _ => ⟨by omega, fun _ => fl, fun z => absurd rfl z⟩, fun q1 => ⟨fun _ => ⟨by omega, fun _ => fl, fun z => absurd rfl z⟩, fun q2 => by omega⟩⟩
    · rw [if_neg q] at bad good
      exact kM (d := d) hT hv hi hl hF hZ (fun z => q (.inl z)) (fun z => q (.inr z)) bad good
  | succ k ih =>
    intro hk d g J Q n E i a Z hi hl hF hZ bad good
    have ih := ih (by omega)
    have hX := cT_gF hT hF
    unfold spC at bad good
    by_cases q : tc i = 6
    · rw [if_pos q] at bad good
      have i1 := c_lt hX hi (show ¬ tc i = 0 by omega)
      refine tl_57 (d := d + 2 * k + 5) hX ⟨hi, fun _ => ⟨by omega, fun z => by omega, fun _ => ⟨by omega, ?_⟩⟩, fun z => absurd q z⟩
      rw [nI_add, show 8 - (k + 1) + 1 = 8 - k by omega, show d + 2 * k + 5 + 1 = d + 1 + 2 * k + 5 by omega]
      refine ih (d + 1) g J _ n E (i + 1) a Z i1 (by omega) hF hZ (fun k' j e Y j' gY => tl_57_74_0 (d := d + 2 * k + 7) (cT_ff hT gY) (bad k' j (bnd_e e) Y j' gY)) (fun j b e hj Y g1 g2 => ?_)
      rw [bnd_o e] at bad good
      have hB := lB_C _ _ _ _ _ e
      refine tl_57_74_1 (d := d + 2 * k + 6) (n := (cds b).length) (cT_gF hT g1) ⟨g2.2.2.1, by omega, fun _ => ⟨g2.2.2.1, g2.2.2.1, ?_⟩, fun z => by omega⟩
      exact good j (b ++ [(20, 0)]) rfl hj _ (gF_p g1) (cC_p g2 rfl)
    · rw [if_neg q] at bad good
      by_cases q1 : tc i = 140
      · rw [if_pos q1] at bad good
        have i1 := c_lt hX hi (show ¬ tc i = 0 by omega)
        refine tl_57 (d := d + 2 * k + 5) hX ⟨hi, fun z => absurd z q, fun _ => ⟨fun _ => ⟨by omega, fun z => by omega, fun _ => ⟨by omega, ?_⟩⟩, fun z => absurd q1 z⟩⟩
        rw [nI_add, show 8 - (k + 1) + 1 = 8 - k by omega]
        refine kA (dd := fun d => d + 2 * k + 4) hT (lB_C k) ih d g J _ n E (i + 1) a Z i1 (by omega) hF hZ (fun k' j e Y j' gY => tl_57_48_0 (d := d + 2 * k + 7) (cT_ff hT gY) (bad k' j (bnd_e e) Y j' gY)) (fun j b e hj Y g1 g2 => ?_)
        rw [bnd_o e] at bad good
        exact tl_57_48_1 (d := d + 2 * k + 5) (cT_gF hT g1) ⟨hj, fun z => good (j + 1) b (by rw [if_pos z]) (c_lt (cT_gF hT g1) hj (by omega)) Y g1 g2, fun z => bad 1 j (by rw [if_neg z]) Y j g1⟩
      · rw [if_neg q1] at bad good
        exact kM (d := d + 2 * k + 2) hT hv hi hl hF hZ q q1 bad good
end yk_ld
