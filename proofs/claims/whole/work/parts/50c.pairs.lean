/-! the pairs: state, set, vein, end -/
section xk_pw
variable {g : xq_V} {J : Nat → Nat → Int64} {I I' : Nat → xw} {n ns : Nat}
theorem i14 {i : Nat} (h : i < 9 ∨ (11 ≤ i ∧ i < 16)) : i = 0 ∨ i = 1 ∨ i = 2 ∨ i = 3 ∨ i = 4 ∨ i = 5 ∨ i = 6 ∨ i = 7 ∨ i = 8 ∨ i = 11 ∨ i = 12 ∨ i = 13 ∨ i = 14 ∨ i = 15 := by omega
theorem P0 : xq_P0 126 Inv := by
  intro w
  refine pair_of (fun g J I hi => ?_)
  have hi' := hi
  obtain ⟨n, ns, ⟨ho, hw, hbk, hC, h32, h29⟩, hT, hP, hrest⟩ := hi'
  have e8 : I 18 8 = I 127 7 := (CR_0 hC).2.2.2.2
  refine zc_13 (d := 88) ⟨_, g, J, _, rfl, rfl, ⟨_, rfl⟩, ?_⟩
  refine zm_158 (d := 89) ⟨?_, g, J, _, rfl, ?_⟩
  · show some (Value.int (I 127 7)) = some (Value.int (I 18 8))
    rw [e8]
  · refine iv_told (n := n) (ns := ns) hi ⟨?_, ?_, ?_, ?_, h32, h29⟩ rfl rfl rfl rfl ?_ ?_ ?_ rfl
    · exact ok_free (p := 7) (v := w) ho (by omega)
    · exact w9_fr (W := I 127) (W' := upd (I 127) 7 w) hw (upd_ne (by omega))
    · exact bkw_fr (W := I 127) (W' := upd (I 127) 7 w) ho.2.1 hbk (upd_ne (by omega)) (fun p p1 p2 => upd_ne (by omega))
    · refine CR_at (W := upd (I 127) 7 w) (CR_draws (v := w) ho hC) (fun a ha => ?_) (fun i hi => ?_) rfl
      · rw [xw_i (by omega), xw_i (by omega), xw_i (by omega), xw_i (by omega), xw_i (by omega)]
      · rcases i14 hi with e | e | e | e | e | e | e | e | e | e | e | e | e | e <;> (subst e; rfl)
    · exact plR_fr (W := I 127) (W' := upd (I 127) 7 w) hP (fun p hp => upd_ne (by omega))
    · intro a ha
      rw [xw_i (by omega), xw_i (by omega), xw_i (by omega), xw_i (by omega), xw_i (by omega)]
    · intro j hj
      show upd (I 126) 4 (nI 0) j = I 126 j
      rw [upd_ne (by omega)]
theorem P1_0 {w : Int32} : xq_pair 126 Inv 16 160 (([nI 0, w] : List Int32).map Value.int) xq_isI := by
  refine pair_of (fun g J I hi => ?_)
  have hi' := hi
  obtain ⟨n, ns, ⟨ho, hw, hbk, hC, h32, h29⟩, hT, hP, hrest⟩ := hi'
  have em : xq_most (nI 0) = nI 99 := by decide
  by_cases hv : ¬ w < nI 0 ∧ ¬ nI 99 < w
  · obtain ⟨t, t1, t2, t3⟩ := i_rng hv.1 hv.2 (by omega) (by omega)
    subst t3
    refine zc_16_0 (d := 88) ⟨fun z => absurd z hv.1, fun _ => ⟨fun z => absurd z hv.2, fun _ => ⟨_, g, J, _, rfl, rfl, ⟨_, rfl⟩, ?_⟩⟩⟩
    refine zm_160_0 (d := 89) ⟨fun z => absurd z hv.1, fun _ => ⟨fun z => absurd z (by rw [em]; exact hv.2), fun _ => ⟨rfl, g, J, _, rfl, ?_⟩⟩⟩
    refine iv_told (n := n) (ns := ns) hi ⟨?_, ?_, ?_, ?_, h32, h29⟩ rfl rfl rfl rfl ?_ ?_ ?_ rfl
    · exact ok_told (i := 0) ho (by omega) (show t ≤ 99 by omega)
    · exact w9_fr (W := I 127) (W' := upd (I 127) (10 + 0) (nI t)) hw (upd_ne (by omega))
    · exact bkw_fr (W := I 127) (W' := upd (I 127) (10 + 0) (nI t)) ho.2.1 hbk (upd_ne (by omega)) (fun p p1 p2 => upd_ne (by omega))
    · refine CR_at (W := upd (I 127) (10 + 0) (nI t)) (CR_told (j := 0) (v := nI t) ho hC (by omega)) (fun a ha => ?_) (fun i hi => ?_) rfl
      · rw [xw_i (by omega), xw_i (by omega), xw_i (by omega), xw_i (by omega), xw_i (by omega)]
      · rcases i14 hi with e | e | e | e | e | e | e | e | e | e | e | e | e | e <;> (subst e; rfl)
    · exact plR_fr (W := I 127) (W' := upd (I 127) (10 + 0) (nI t)) hP (fun p hp => upd_ne (by omega))
    · intro a ha
      rw [xw_i (by omega), xw_i (by omega), xw_i (by omega), xw_i (by omega), xw_i (by omega)]
    · intro j hj
      show upd (I 126) 4 (nI 0) j = I 126 j
      rw [upd_ne (by omega)]
  · refine zc_16_0 (d := 88) ⟨fun z => ⟨_, g, J, I, rfl, rfl, ⟨_, rfl⟩, ?_⟩, fun z => ⟨fun z2 => ⟨_, g, J, I, rfl, rfl, ⟨_, rfl⟩, ?_⟩, fun z2 => absurd ⟨z, z2⟩ hv⟩⟩
    all_goals
      exact zm_160_0 (d := 89) ⟨fun z => ⟨rfl, g, J, I, rfl, hi⟩, fun z => ⟨fun z2 => ⟨rfl, g, J, I, rfl, hi⟩, fun z2 => absurd ⟨z, by rw [em] at z2; exact z2⟩ hv⟩⟩
theorem P1_1 {w : Int32} : xq_pair 126 Inv 16 160 (([nI 1, w] : List Int32).map Value.int) xq_isI := by
  refine pair_of (fun g J I hi => ?_)
  have hi' := hi
  obtain ⟨n, ns, ⟨ho, hw, hbk, hC, h32, h29⟩, hT, hP, hrest⟩ := hi'
  have em : xq_most (nI 1) = nI 9999 := by decide
  by_cases hv : ¬ w < nI 0 ∧ ¬ nI 9999 < w
  · obtain ⟨t, t1, t2, t3⟩ := i_rng hv.1 hv.2 (by omega) (by omega)
    subst t3
    refine zc_16_1 (d := 88) ⟨fun z => absurd z hv.1, fun _ => ⟨fun z => absurd z hv.2, fun _ => ⟨_, g, J, _, rfl, rfl, ⟨_, rfl⟩, ?_⟩⟩⟩
    refine zm_160_1 (d := 89) ⟨fun z => absurd z hv.1, fun _ => ⟨fun z => absurd z (by rw [em]; exact hv.2), fun _ => ⟨rfl, g, J, _, rfl, ?_⟩⟩⟩
    refine iv_told (n := n) (ns := ns) hi ⟨?_, ?_, ?_, ?_, h32, h29⟩ rfl rfl rfl rfl ?_ ?_ ?_ rfl
    · exact ok_told (i := 1) ho (by omega) (show t ≤ 9999 by omega)
    · exact w9_fr (W := I 127) (W' := upd (I 127) (10 + 1) (nI t)) hw (upd_ne (by omega))
    · exact bkw_fr (W := I 127) (W' := upd (I 127) (10 + 1) (nI t)) ho.2.1 hbk (upd_ne (by omega)) (fun p p1 p2 => upd_ne (by omega))
    · refine CR_at (W := upd (I 127) (10 + 1) (nI t)) (CR_told (j := 1) (v := nI t) ho hC (by omega)) (fun a ha => ?_) (fun i hi => ?_) rfl
      · rw [xw_i (by omega), xw_i (by omega), xw_i (by omega), xw_i (by omega), xw_i (by omega)]
      · rcases i14 hi with e | e | e | e | e | e | e | e | e | e | e | e | e | e <;> (subst e; rfl)
    · exact plR_fr (W := I 127) (W' := upd (I 127) (10 + 1) (nI t)) hP (fun p hp => upd_ne (by omega))
    · intro a ha
      rw [xw_i (by omega), xw_i (by omega), xw_i (by omega), xw_i (by omega), xw_i (by omega)]
    · intro j hj
      show upd (I 126) 4 (nI 0) j = I 126 j
      rw [upd_ne (by omega)]
  · refine zc_16_1 (d := 88) ⟨fun z => ⟨_, g, J, I, rfl, rfl, ⟨_, rfl⟩, ?_⟩, fun z => ⟨fun z2 => ⟨_, g, J, I, rfl, rfl, ⟨_, rfl⟩, ?_⟩, fun z2 => absurd ⟨z, z2⟩ hv⟩⟩
    all_goals
      exact zm_160_1 (d := 89) ⟨fun z => ⟨rfl, g, J, I, rfl, hi⟩, fun z => ⟨fun z2 => ⟨rfl, g, J, I, rfl, hi⟩, fun z2 => absurd ⟨z, by rw [em] at z2; exact z2⟩ hv⟩⟩
theorem P1_2 {w : Int32} : xq_pair 126 Inv 16 160 (([nI 2, w] : List Int32).map Value.int) xq_isI := by
  refine pair_of (fun g J I hi => ?_)
  have hi' := hi
  obtain ⟨n, ns, ⟨ho, hw, hbk, hC, h32, h29⟩, hT, hP, hrest⟩ := hi'
  have em : xq_most (nI 2) = nI 99 := by decide
  by_cases hv : ¬ w < nI 0 ∧ ¬ nI 99 < w
  · obtain ⟨t, t1, t2, t3⟩ := i_rng hv.1 hv.2 (by omega) (by omega)
    subst t3
    refine zc_16_2 (d := 88) ⟨fun z => absurd z hv.1, fun _ => ⟨fun z => absurd z hv.2, fun _ => ⟨_, g, J, _, rfl, rfl, ⟨_, rfl⟩, ?_⟩⟩⟩
    refine zm_160_2 (d := 89) ⟨fun z => absurd z hv.1, fun _ => ⟨fun z => absurd z (by rw [em]; exact hv.2), fun _ => ⟨rfl, g, J, _, rfl, ?_⟩⟩⟩
    refine iv_told (n := n) (ns := ns) hi ⟨?_, ?_, ?_, ?_, h32, h29⟩ rfl rfl rfl rfl ?_ ?_ ?_ rfl
    · exact ok_told (i := 2) ho (by omega) (show t ≤ 99 by omega)
    · exact w9_fr (W := I 127) (W' := upd (I 127) (10 + 2) (nI t)) hw (upd_ne (by omega))
    · exact bkw_fr (W := I 127) (W' := upd (I 127) (10 + 2) (nI t)) ho.2.1 hbk (upd_ne (by omega)) (fun p p1 p2 => upd_ne (by omega))
    · refine CR_at (W := upd (I 127) (10 + 2) (nI t)) (CR_told (j := 2) (v := nI t) ho hC (by omega)) (fun a ha => ?_) (fun i hi => ?_) rfl
      · rw [xw_i (by omega), xw_i (by omega), xw_i (by omega), xw_i (by omega), xw_i (by omega)]
      · rcases i14 hi with e | e | e | e | e | e | e | e | e | e | e | e | e | e <;> (subst e; rfl)
    · exact plR_fr (W := I 127) (W' := upd (I 127) (10 + 2) (nI t)) hP (fun p hp => upd_ne (by omega))
    · intro a ha
      rw [xw_i (by omega), xw_i (by omega), xw_i (by omega), xw_i (by omega), xw_i (by omega)]
    · intro j hj
      show upd (I 126) 4 (nI 0) j = I 126 j
      rw [upd_ne (by omega)]
  · refine zc_16_2 (d := 88) ⟨fun z => ⟨_, g, J, I, rfl, rfl, ⟨_, rfl⟩, ?_⟩, fun z => ⟨fun z2 => ⟨_, g, J, I, rfl, rfl, ⟨_, rfl⟩, ?_⟩, fun z2 => absurd ⟨z, z2⟩ hv⟩⟩
    all_goals
      exact zm_160_2 (d := 89) ⟨fun z => ⟨rfl, g, J, I, rfl, hi⟩, fun z => ⟨fun z2 => ⟨rfl, g, J, I, rfl, hi⟩, fun z2 => absurd ⟨z, by rw [em] at z2; exact z2⟩ hv⟩⟩
theorem P1_3 {w : Int32} : xq_pair 126 Inv 16 160 (([nI 3, w] : List Int32).map Value.int) xq_isI := by
  refine pair_of (fun g J I hi => ?_)
  have hi' := hi
  obtain ⟨n, ns, ⟨ho, hw, hbk, hC, h32, h29⟩, hT, hP, hrest⟩ := hi'
  have em : xq_most (nI 3) = nI 9 := by decide
  by_cases hv : ¬ w < nI 0 ∧ ¬ nI 9 < w
  · obtain ⟨t, t1, t2, t3⟩ := i_rng hv.1 hv.2 (by omega) (by omega)
    subst t3
    refine zc_16_3 (d := 88) ⟨fun z => absurd z hv.1, fun _ => ⟨fun z => absurd z hv.2, fun _ => ⟨_, g, J, _, rfl, rfl, ⟨_, rfl⟩, ?_⟩⟩⟩
    refine zm_160_3 (d := 89) ⟨fun z => absurd z hv.1, fun _ => ⟨fun z => absurd z (by rw [em]; exact hv.2), fun _ => ⟨rfl, g, J, _, rfl, ?_⟩⟩⟩
    refine iv_told (n := n) (ns := ns) hi ⟨?_, ?_, ?_, ?_, h32, h29⟩ rfl rfl rfl rfl ?_ ?_ ?_ rfl
    · exact ok_told (i := 3) ho (by omega) (show t ≤ 9 by omega)
    · exact w9_fr (W := I 127) (W' := upd (I 127) (10 + 3) (nI t)) hw (upd_ne (by omega))
    · exact bkw_fr (W := I 127) (W' := upd (I 127) (10 + 3) (nI t)) ho.2.1 hbk (upd_ne (by omega)) (fun p p1 p2 => upd_ne (by omega))
    · refine CR_at (W := upd (I 127) (10 + 3) (nI t)) (CR_told (j := 3) (v := nI t) ho hC (by omega)) (fun a ha => ?_) (fun i hi => ?_) rfl
      · rw [xw_i (by omega), xw_i (by omega), xw_i (by omega), xw_i (by omega), xw_i (by omega)]
      · rcases i14 hi with e | e | e | e | e | e | e | e | e | e | e | e | e | e <;> (subst e; rfl)
    · exact plR_fr (W := I 127) (W' := upd (I 127) (10 + 3) (nI t)) hP (fun p hp => upd_ne (by omega))
    · intro a ha
      rw [xw_i (by omega), xw_i (by omega), xw_i (by omega), xw_i (by omega), xw_i (by omega)]
    · intro j hj
      show upd (I 126) 4 (nI 0) j = I 126 j
      rw [upd_ne (by omega)]
  · refine zc_16_3 (d := 88) ⟨fun z => ⟨_, g, J, I, rfl, rfl, ⟨_, rfl⟩, ?_⟩, fun z => ⟨fun z2 => ⟨_, g, J, I, rfl, rfl, ⟨_, rfl⟩, ?_⟩, fun z2 => absurd ⟨z, z2⟩ hv⟩⟩
    all_goals
      exact zm_160_3 (d := 89) ⟨fun z => ⟨rfl, g, J, I, rfl, hi⟩, fun z => ⟨fun z2 => ⟨rfl, g, J, I, rfl, hi⟩, fun z2 => absurd ⟨z, by rw [em] at z2; exact z2⟩ hv⟩⟩
theorem P1_4 {w : Int32} : xq_pair 126 Inv 16 160 (([nI 4, w] : List Int32).map Value.int) xq_isI := by
  refine pair_of (fun g J I hi => ?_)
  have hi' := hi
  obtain ⟨n, ns, ⟨ho, hw, hbk, hC, h32, h29⟩, hT, hP, hrest⟩ := hi'
  have em : xq_most (nI 4) = nI 9 := by decide
  by_cases hv : ¬ w < nI 0 ∧ ¬ nI 9 < w
  · obtain ⟨t, t1, t2, t3⟩ := i_rng hv.1 hv.2 (by omega) (by omega)
    subst t3
    refine zc_16_4 (d := 88) ⟨fun z => absurd z hv.1, fun _ => ⟨fun z => absurd z hv.2, fun _ => ⟨_, g, J, _, rfl, rfl, ⟨_, rfl⟩, ?_⟩⟩⟩
    refine zm_160_4 (d := 89) ⟨fun z => absurd z hv.1, fun _ => ⟨fun z => absurd z (by rw [em]; exact hv.2), fun _ => ⟨rfl, g, J, _, rfl, ?_⟩⟩⟩
    refine iv_told (n := n) (ns := ns) hi ⟨?_, ?_, ?_, ?_, h32, h29⟩ rfl rfl rfl rfl ?_ ?_ ?_ rfl
    · exact ok_told (i := 4) ho (by omega) (show t ≤ 9 by omega)
    · exact w9_fr (W := I 127) (W' := upd (I 127) (10 + 4) (nI t)) hw (upd_ne (by omega))
    · exact bkw_fr (W := I 127) (W' := upd (I 127) (10 + 4) (nI t)) ho.2.1 hbk (upd_ne (by omega)) (fun p p1 p2 => upd_ne (by omega))
    · refine CR_at (W := upd (I 127) (10 + 4) (nI t)) (CR_told (j := 4) (v := nI t) ho hC (by omega)) (fun a ha => ?_) (fun i hi => ?_) rfl
      · rw [xw_i (by omega), xw_i (by omega), xw_i (by omega), xw_i (by omega), xw_i (by omega)]
      · rcases i14 hi with e | e | e | e | e | e | e | e | e | e | e | e | e | e <;> (subst e; rfl)
    · exact plR_fr (W := I 127) (W' := upd (I 127) (10 + 4) (nI t)) hP (fun p hp => upd_ne (by omega))
    · intro a ha
      rw [xw_i (by omega), xw_i (by omega), xw_i (by omega), xw_i (by omega), xw_i (by omega)]
    · intro j hj
      show upd (I 126) 4 (nI 0) j = I 126 j
      rw [upd_ne (by omega)]
  · refine zc_16_4 (d := 88) ⟨fun z => ⟨_, g, J, I, rfl, rfl, ⟨_, rfl⟩, ?_⟩, fun z => ⟨fun z2 => ⟨_, g, J, I, rfl, rfl, ⟨_, rfl⟩, ?_⟩, fun z2 => absurd ⟨z, z2⟩ hv⟩⟩
    all_goals
      exact zm_160_4 (d := 89) ⟨fun z => ⟨rfl, g, J, I, rfl, hi⟩, fun z => ⟨fun z2 => ⟨rfl, g, J, I, rfl, hi⟩, fun z2 => absurd ⟨z, by rw [em] at z2; exact z2⟩ hv⟩⟩
theorem P1_5 {w : Int32} : xq_pair 126 Inv 16 160 (([nI 5, w] : List Int32).map Value.int) xq_isI := by
  refine pair_of (fun g J I hi => ?_)
  have hi' := hi
  obtain ⟨n, ns, ⟨ho, hw, hbk, hC, h32, h29⟩, hT, hP, hrest⟩ := hi'
  have em : xq_most (nI 5) = nI 9 := by decide
  by_cases hv : ¬ w < nI 0 ∧ ¬ nI 9 < w
  · obtain ⟨t, t1, t2, t3⟩ := i_rng hv.1 hv.2 (by omega) (by omega)
    subst t3
    refine zc_16_5 (d := 88) ⟨fun z => absurd z hv.1, fun _ => ⟨fun z => absurd z hv.2, fun _ => ⟨_, g, J, _, rfl, rfl, ⟨_, rfl⟩, ?_⟩⟩⟩
    refine zm_160_5 (d := 89) ⟨fun z => absurd z hv.1, fun _ => ⟨fun z => absurd z (by rw [em]; exact hv.2), fun _ => ⟨rfl, g, J, _, rfl, ?_⟩⟩⟩
    refine iv_told (n := n) (ns := ns) hi ⟨?_, ?_, ?_, ?_, h32, h29⟩ rfl rfl rfl rfl ?_ ?_ ?_ rfl
    · exact ok_told (i := 5) ho (by omega) (show t ≤ 9 by omega)
    · exact w9_fr (W := I 127) (W' := upd (I 127) (10 + 5) (nI t)) hw (upd_ne (by omega))
    · exact bkw_fr (W := I 127) (W' := upd (I 127) (10 + 5) (nI t)) ho.2.1 hbk (upd_ne (by omega)) (fun p p1 p2 => upd_ne (by omega))
    · refine CR_at (W := upd (I 127) (10 + 5) (nI t)) (CR_told (j := 5) (v := nI t) ho hC (by omega)) (fun a ha => ?_) (fun i hi => ?_) rfl
      · rw [xw_i (by omega), xw_i (by omega), xw_i (by omega), xw_i (by omega), xw_i (by omega)]
      · rcases i14 hi with e | e | e | e | e | e | e | e | e | e | e | e | e | e <;> (subst e; rfl)
    · exact plR_fr (W := I 127) (W' := upd (I 127) (10 + 5) (nI t)) hP (fun p hp => upd_ne (by omega))
    · intro a ha
      rw [xw_i (by omega), xw_i (by omega), xw_i (by omega), xw_i (by omega), xw_i (by omega)]
    · intro j hj
      show upd (I 126) 4 (nI 0) j = I 126 j
      rw [upd_ne (by omega)]
  · refine zc_16_5 (d := 88) ⟨fun z => ⟨_, g, J, I, rfl, rfl, ⟨_, rfl⟩, ?_⟩, fun z => ⟨fun z2 => ⟨_, g, J, I, rfl, rfl, ⟨_, rfl⟩, ?_⟩, fun z2 => absurd ⟨z, z2⟩ hv⟩⟩
    all_goals
      exact zm_160_5 (d := 89) ⟨fun z => ⟨rfl, g, J, I, rfl, hi⟩, fun z => ⟨fun z2 => ⟨rfl, g, J, I, rfl, hi⟩, fun z2 => absurd ⟨z, by rw [em] at z2; exact z2⟩ hv⟩⟩
theorem P1_6 {w : Int32} : xq_pair 126 Inv 16 160 (([nI 6, w] : List Int32).map Value.int) xq_isI := by
  refine pair_of (fun g J I hi => ?_)
  have hi' := hi
  obtain ⟨n, ns, ⟨ho, hw, hbk, hC, h32, h29⟩, hT, hP, hrest⟩ := hi'
  have em : xq_most (nI 6) = nI 1000 := by decide
  by_cases hv : ¬ w < nI 0 ∧ ¬ nI 1000 < w
  · obtain ⟨t, t1, t2, t3⟩ := i_rng hv.1 hv.2 (by omega) (by omega)
    subst t3
    refine zc_16_6 (d := 88) ⟨fun z => absurd z hv.1, fun _ => ⟨fun z => absurd z hv.2, fun _ => ⟨_, g, J, _, rfl, rfl, ⟨_, rfl⟩, ?_⟩⟩⟩
    refine zm_160_6 (d := 89) ⟨fun z => absurd z hv.1, fun _ => ⟨fun z => absurd z (by rw [em]; exact hv.2), fun _ => ⟨rfl, g, J, _, rfl, ?_⟩⟩⟩
    refine iv_told (n := n) (ns := ns) hi ⟨?_, ?_, ?_, ?_, h32, h29⟩ rfl rfl rfl rfl ?_ ?_ ?_ rfl
    · exact ok_told (i := 6) ho (by omega) (show t ≤ 1000 by omega)
    · exact w9_fr (W := I 127) (W' := upd (I 127) (10 + 6) (nI t)) hw (upd_ne (by omega))
    · exact bkw_fr (W := I 127) (W' := upd (I 127) (10 + 6) (nI t)) ho.2.1 hbk (upd_ne (by omega)) (fun p p1 p2 => upd_ne (by omega))
    · refine CR_at (W := upd (I 127) (10 + 6) (nI t)) (CR_told (j := 6) (v := nI t) ho hC (by omega)) (fun a ha => ?_) (fun i hi => ?_) rfl
      · rw [xw_i (by omega), xw_i (by omega), xw_i (by omega), xw_i (by omega), xw_i (by omega)]
      · rcases i14 hi with e | e | e | e | e | e | e | e | e | e | e | e | e | e <;> (subst e; rfl)
    · exact plR_fr (W := I 127) (W' := upd (I 127) (10 + 6) (nI t)) hP (fun p hp => upd_ne (by omega))
    · intro a ha
      rw [xw_i (by omega), xw_i (by omega), xw_i (by omega), xw_i (by omega), xw_i (by omega)]
    · intro j hj
      show upd (I 126) 4 (nI 0) j = I 126 j
      rw [upd_ne (by omega)]
  · refine zc_16_6 (d := 88) ⟨fun z => ⟨_, g, J, I, rfl, rfl, ⟨_, rfl⟩, ?_⟩, fun z => ⟨fun z2 => ⟨_, g, J, I, rfl, rfl, ⟨_, rfl⟩, ?_⟩, fun z2 => absurd ⟨z, z2⟩ hv⟩⟩
    all_goals
      exact zm_160_6 (d := 89) ⟨fun z => ⟨rfl, g, J, I, rfl, hi⟩, fun z => ⟨fun z2 => ⟨rfl, g, J, I, rfl, hi⟩, fun z2 => absurd ⟨z, by rw [em] at z2; exact z2⟩ hv⟩⟩
theorem P1_7 {w : Int32} : xq_pair 126 Inv 16 160 (([nI 7, w] : List Int32).map Value.int) xq_isI := by
  refine pair_of (fun g J I hi => ?_)
  have hi' := hi
  obtain ⟨n, ns, ⟨ho, hw, hbk, hC, h32, h29⟩, hT, hP, hrest⟩ := hi'
  have em : xq_most (nI 7) = nI 1000 := by decide
  by_cases hv : ¬ w < nI 0 ∧ ¬ nI 1000 < w
  · obtain ⟨t, t1, t2, t3⟩ := i_rng hv.1 hv.2 (by omega) (by omega)
    subst t3
    refine zc_16_7 (d := 88) ⟨fun z => absurd z hv.1, fun _ => ⟨fun z => absurd z hv.2, fun _ => ⟨_, g, J, _, rfl, rfl, ⟨_, rfl⟩, ?_⟩⟩⟩
    refine zm_160_7 (d := 89) ⟨fun z => absurd z hv.1, fun _ => ⟨fun z => absurd z (by rw [em]; exact hv.2), fun _ => ⟨rfl, g, J, _, rfl, ?_⟩⟩⟩
    refine iv_told (n := n) (ns := ns) hi ⟨?_, ?_, ?_, ?_, h32, h29⟩ rfl rfl rfl rfl ?_ ?_ ?_ rfl
    · exact ok_told (i := 7) ho (by omega) (show t ≤ 1000 by omega)
    · exact w9_fr (W := I 127) (W' := upd (I 127) (10 + 7) (nI t)) hw (upd_ne (by omega))
    · exact bkw_fr (W := I 127) (W' := upd (I 127) (10 + 7) (nI t)) ho.2.1 hbk (upd_ne (by omega)) (fun p p1 p2 => upd_ne (by omega))
    · refine CR_at (W := upd (I 127) (10 + 7) (nI t)) (CR_told (j := 7) (v := nI t) ho hC (by omega)) (fun a ha => ?_) (fun i hi => ?_) rfl
      · rw [xw_i (by omega), xw_i (by omega), xw_i (by omega), xw_i (by omega), xw_i (by omega)]
      · rcases i14 hi with e | e | e | e | e | e | e | e | e | e | e | e | e | e <;> (subst e; rfl)
    · exact plR_fr (W := I 127) (W' := upd (I 127) (10 + 7) (nI t)) hP (fun p hp => upd_ne (by omega))
    · intro a ha
      rw [xw_i (by omega), xw_i (by omega), xw_i (by omega), xw_i (by omega), xw_i (by omega)]
    · intro j hj
      show upd (I 126) 4 (nI 0) j = I 126 j
      rw [upd_ne (by omega)]
  · refine zc_16_7 (d := 88) ⟨fun z => ⟨_, g, J, I, rfl, rfl, ⟨_, rfl⟩, ?_⟩, fun z => ⟨fun z2 => ⟨_, g, J, I, rfl, rfl, ⟨_, rfl⟩, ?_⟩, fun z2 => absurd ⟨z, z2⟩ hv⟩⟩
    all_goals
      exact zm_160_7 (d := 89) ⟨fun z => ⟨rfl, g, J, I, rfl, hi⟩, fun z => ⟨fun z2 => ⟨rfl, g, J, I, rfl, hi⟩, fun z2 => absurd ⟨z, by rw [em] at z2; exact z2⟩ hv⟩⟩
theorem P1_8 {w : Int32} : xq_pair 126 Inv 16 160 (([nI 8, w] : List Int32).map Value.int) xq_isI := by
  refine pair_of (fun g J I hi => ?_)
  have hi' := hi
  obtain ⟨n, ns, ⟨ho, hw, hbk, hC, h32, h29⟩, hT, hP, hrest⟩ := hi'
  have em : xq_most (nI 8) = nI 1000 := by decide
  by_cases hv : ¬ w < nI 0 ∧ ¬ nI 1000 < w
  · obtain ⟨t, t1, t2, t3⟩ := i_rng hv.1 hv.2 (by omega) (by omega)
    subst t3
    refine zc_16_8 (d := 88) ⟨fun z => absurd z hv.1, fun _ => ⟨fun z => absurd z hv.2, fun _ => ⟨_, g, J, _, rfl, rfl, ⟨_, rfl⟩, ?_⟩⟩⟩
    refine zm_160_8 (d := 89) ⟨fun z => absurd z hv.1, fun _ => ⟨fun z => absurd z (by rw [em]; exact hv.2), fun _ => ⟨rfl, g, J, _, rfl, ?_⟩⟩⟩
    refine iv_told (n := n) (ns := ns) hi ⟨?_, ?_, ?_, ?_, h32, h29⟩ rfl rfl rfl rfl ?_ ?_ ?_ rfl
    · exact ok_told (i := 8) ho (by omega) (show t ≤ 1000 by omega)
    · exact w9_fr (W := I 127) (W' := upd (I 127) (10 + 8) (nI t)) hw (upd_ne (by omega))
    · exact bkw_fr (W := I 127) (W' := upd (I 127) (10 + 8) (nI t)) ho.2.1 hbk (upd_ne (by omega)) (fun p p1 p2 => upd_ne (by omega))
    · refine CR_at (W := upd (I 127) (10 + 8) (nI t)) (CR_told (j := 8) (v := nI t) ho hC (by omega)) (fun a ha => ?_) (fun i hi => ?_) rfl
      · rw [xw_i (by omega), xw_i (by omega), xw_i (by omega), xw_i (by omega), xw_i (by omega)]
      · rcases i14 hi with e | e | e | e | e | e | e | e | e | e | e | e | e | e <;> (subst e; rfl)
    · exact plR_fr (W := I 127) (W' := upd (I 127) (10 + 8) (nI t)) hP (fun p hp => upd_ne (by omega))
    · intro a ha
      rw [xw_i (by omega), xw_i (by omega), xw_i (by omega), xw_i (by omega), xw_i (by omega)]
    · intro j hj
      show upd (I 126) 4 (nI 0) j = I 126 j
      rw [upd_ne (by omega)]
  · refine zc_16_8 (d := 88) ⟨fun z => ⟨_, g, J, I, rfl, rfl, ⟨_, rfl⟩, ?_⟩, fun z => ⟨fun z2 => ⟨_, g, J, I, rfl, rfl, ⟨_, rfl⟩, ?_⟩, fun z2 => absurd ⟨z, z2⟩ hv⟩⟩
    all_goals
      exact zm_160_8 (d := 89) ⟨fun z => ⟨rfl, g, J, I, rfl, hi⟩, fun z => ⟨fun z2 => ⟨rfl, g, J, I, rfl, hi⟩, fun z2 => absurd ⟨z, by rw [em] at z2; exact z2⟩ hv⟩⟩
theorem P1_9 {w : Int32} : xq_pair 126 Inv 16 160 (([nI 9, w] : List Int32).map Value.int) xq_isI := by
  refine pair_of (fun g J I hi => ?_)
  have hi' := hi
  obtain ⟨n, ns, ⟨ho, hw, hbk, hC, h32, h29⟩, hT, hP, hrest⟩ := hi'
  have em : xq_most (nI 9) = nI 52 := by decide
  by_cases hv : ¬ w < nI 1 ∧ ¬ nI 52 < w
  · obtain ⟨t, t1, t2, t3⟩ := i_rng hv.1 hv.2 (by omega) (by omega)
    subst t3
    refine zc_16_9 (d := 88) ⟨fun z => absurd z hv.1, fun _ => ⟨fun z => absurd z hv.2, fun _ => ⟨_, g, J, _, rfl, rfl, ⟨_, rfl⟩, ?_⟩⟩⟩
    refine zm_160_9 (d := 89) ⟨fun z => absurd z hv.1, fun _ => ⟨fun z => absurd z (by rw [em]; exact hv.2), fun _ => ⟨rfl, g, J, _, rfl, ?_⟩⟩⟩
    refine iv_told (n := n) (ns := ns) hi ⟨?_, ?_, ?_, ?_, h32, h29⟩ rfl rfl rfl rfl ?_ ?_ ?_ rfl
    · exact ok_told (i := 9) ho (by omega) (show t ≤ 52 by omega)
    · exact w9_fr (W := I 127) (W' := upd (I 127) (10 + 9) (nI t)) hw (upd_ne (by omega))
    · exact bkw_fr (W := I 127) (W' := upd (I 127) (10 + 9) (nI t)) ho.2.1 hbk (upd_ne (by omega)) (fun p p1 p2 => upd_ne (by omega))
    · refine CR_at (W := upd (I 127) (10 + 9) (nI t)) (CR_told (j := 9) (v := nI t) ho hC (by omega)) (fun a ha => ?_) (fun i hi => ?_) rfl
      · rw [xw_i (by omega), xw_i (by omega), xw_i (by omega), xw_i (by omega), xw_i (by omega)]
      · rcases i14 hi with e | e | e | e | e | e | e | e | e | e | e | e | e | e <;> (subst e; rfl)
    · exact plR_fr (W := I 127) (W' := upd (I 127) (10 + 9) (nI t)) hP (fun p hp => upd_ne (by omega))
    · intro a ha
      rw [xw_i (by omega), xw_i (by omega), xw_i (by omega), xw_i (by omega), xw_i (by omega)]
    · intro j hj
      show upd (I 126) 4 (nI 0) j = I 126 j
      rw [upd_ne (by omega)]
  · refine zc_16_9 (d := 88) ⟨fun z => ⟨_, g, J, I, rfl, rfl, ⟨_, rfl⟩, ?_⟩, fun z => ⟨fun z2 => ⟨_, g, J, I, rfl, rfl, ⟨_, rfl⟩, ?_⟩, fun z2 => absurd ⟨z, z2⟩ hv⟩⟩
    all_goals
      exact zm_160_9 (d := 89) ⟨fun z => ⟨rfl, g, J, I, rfl, hi⟩, fun z => ⟨fun z2 => ⟨rfl, g, J, I, rfl, hi⟩, fun z2 => absurd ⟨z, by rw [em] at z2; exact z2⟩ hv⟩⟩
theorem P1_10 {w : Int32} : xq_pair 126 Inv 16 160 (([nI 10, w] : List Int32).map Value.int) xq_isI := by
  refine pair_of (fun g J I hi => ?_)
  have hi' := hi
  obtain ⟨n, ns, ⟨ho, hw, hbk, hC, h32, h29⟩, hT, hP, hrest⟩ := hi'
  have em : xq_most (nI 10) = nI 999 := by decide
  by_cases hv : ¬ w < nI 0 ∧ ¬ nI 999 < w
  · obtain ⟨t, t1, t2, t3⟩ := i_rng hv.1 hv.2 (by omega) (by omega)
    subst t3
    refine zc_16_10 (d := 88) ⟨fun z => absurd z hv.1, fun _ => ⟨fun z => absurd z hv.2, fun _ => ⟨_, g, J, _, rfl, rfl, ⟨_, rfl⟩, ?_⟩⟩⟩
    refine zm_160_10 (d := 89) ⟨fun z => absurd z hv.1, fun _ => ⟨fun z => absurd z (by rw [em]; exact hv.2), fun _ => ⟨rfl, g, J, _, rfl, ?_⟩⟩⟩
    refine iv_told (n := n) (ns := ns) hi ⟨?_, ?_, ?_, ?_, h32, h29⟩ rfl rfl rfl rfl ?_ ?_ ?_ rfl
    · exact ok_told (i := 10) ho (by omega) (show t ≤ 999 by omega)
    · exact w9_fr (W := I 127) (W' := upd (I 127) (10 + 10) (nI t)) hw (upd_ne (by omega))
    · exact bkw_fr (W := I 127) (W' := upd (I 127) (10 + 10) (nI t)) ho.2.1 hbk (upd_ne (by omega)) (fun p p1 p2 => upd_ne (by omega))
    · refine CR_at (W := upd (I 127) (10 + 10) (nI t)) (CR_told (j := 10) (v := nI t) ho hC (by omega)) (fun a ha => ?_) (fun i hi => ?_) rfl
      · rw [xw_i (by omega), xw_i (by omega), xw_i (by omega), xw_i (by omega), xw_i (by omega)]
      · rcases i14 hi with e | e | e | e | e | e | e | e | e | e | e | e | e | e <;> (subst e; rfl)
    · exact plR_fr (W := I 127) (W' := upd (I 127) (10 + 10) (nI t)) hP (fun p hp => upd_ne (by omega))
    · intro a ha
      rw [xw_i (by omega), xw_i (by omega), xw_i (by omega), xw_i (by omega), xw_i (by omega)]
    · intro j hj
      show upd (I 126) 4 (nI 0) j = I 126 j
      rw [upd_ne (by omega)]
  · refine zc_16_10 (d := 88) ⟨fun z => ⟨_, g, J, I, rfl, rfl, ⟨_, rfl⟩, ?_⟩, fun z => ⟨fun z2 => ⟨_, g, J, I, rfl, rfl, ⟨_, rfl⟩, ?_⟩, fun z2 => absurd ⟨z, z2⟩ hv⟩⟩
    all_goals
      exact zm_160_10 (d := 89) ⟨fun z => ⟨rfl, g, J, I, rfl, hi⟩, fun z => ⟨fun z2 => ⟨rfl, g, J, I, rfl, hi⟩, fun z2 => absurd ⟨z, by rw [em] at z2; exact z2⟩ hv⟩⟩
theorem P1_11 {w : Int32} : xq_pair 126 Inv 16 160 (([nI 11, w] : List Int32).map Value.int) xq_isI := by
  refine pair_of (fun g J I hi => ?_)
  have hi' := hi
  obtain ⟨n, ns, ⟨ho, hw, hbk, hC, h32, h29⟩, hT, hP, hrest⟩ := hi'
  have em : xq_most (nI 11) = nI 520 := by decide
  by_cases hv : ¬ w < nI 0 ∧ ¬ nI 520 < w
  · obtain ⟨t, t1, t2, t3⟩ := i_rng hv.1 hv.2 (by omega) (by omega)
    subst t3
    refine zc_16_11 (d := 88) ⟨fun z => absurd z hv.1, fun _ => ⟨fun z => absurd z hv.2, fun _ => ⟨_, g, J, _, rfl, rfl, ⟨_, rfl⟩, ?_⟩⟩⟩
    refine zm_160_11 (d := 89) ⟨fun z => absurd z hv.1, fun _ => ⟨fun z => absurd z (by rw [em]; exact hv.2), fun _ => ⟨rfl, g, J, _, rfl, ?_⟩⟩⟩
    refine iv_told (n := n) (ns := ns) hi ⟨?_, ?_, ?_, ?_, h32, h29⟩ rfl rfl rfl rfl ?_ ?_ ?_ rfl
    · exact ok_told (i := 11) ho (by omega) (show t ≤ 520 by omega)
    · exact w9_fr (W := I 127) (W' := upd (I 127) (10 + 11) (nI t)) hw (upd_ne (by omega))
    · exact bkw_fr (W := I 127) (W' := upd (I 127) (10 + 11) (nI t)) ho.2.1 hbk (upd_ne (by omega)) (fun p p1 p2 => upd_ne (by omega))
    · refine CR_at (W := upd (I 127) (10 + 11) (nI t)) (CR_told (j := 11) (v := nI t) ho hC (by omega)) (fun a ha => ?_) (fun i hi => ?_) rfl
      · rw [xw_i (by omega), xw_i (by omega), xw_i (by omega), xw_i (by omega), xw_i (by omega)]
      · rcases i14 hi with e | e | e | e | e | e | e | e | e | e | e | e | e | e <;> (subst e; rfl)
    · exact plR_fr (W := I 127) (W' := upd (I 127) (10 + 11) (nI t)) hP (fun p hp => upd_ne (by omega))
    · intro a ha
      rw [xw_i (by omega), xw_i (by omega), xw_i (by omega), xw_i (by omega), xw_i (by omega)]
    · intro j hj
      show upd (I 126) 4 (nI 0) j = I 126 j
      rw [upd_ne (by omega)]
  · refine zc_16_11 (d := 88) ⟨fun z => ⟨_, g, J, I, rfl, rfl, ⟨_, rfl⟩, ?_⟩, fun z => ⟨fun z2 => ⟨_, g, J, I, rfl, rfl, ⟨_, rfl⟩, ?_⟩, fun z2 => absurd ⟨z, z2⟩ hv⟩⟩
    all_goals
      exact zm_160_11 (d := 89) ⟨fun z => ⟨rfl, g, J, I, rfl, hi⟩, fun z => ⟨fun z2 => ⟨rfl, g, J, I, rfl, hi⟩, fun z2 => absurd ⟨z, by rw [em] at z2; exact z2⟩ hv⟩⟩
theorem P1 : xq_P1 126 Inv := by
  intro k w
  by_cases hk : ¬ k < nI 0 ∧ k < nI 12
  · obtain ⟨t, ht, et⟩ := i_nat hk.1 hk.2 (by omega)
    subst et
    match t, ht with
    | 0, _ => exact P1_0
    | 1, _ => exact P1_1
    | 2, _ => exact P1_2
    | 3, _ => exact P1_3
    | 4, _ => exact P1_4
    | 5, _ => exact P1_5
    | 6, _ => exact P1_6
    | 7, _ => exact P1_7
    | 8, _ => exact P1_8
    | 9, _ => exact P1_9
    | 10, _ => exact P1_10
    | 11, _ => exact P1_11
    | t + 12, h => exact absurd h (by omega)
  · refine pair_of (fun g J I hi => ?_)
    refine zc_16_x (d := 90) ⟨fun z => ⟨_, g, J, I, rfl, rfl, ⟨_, rfl⟩, ?_⟩, fun z => ⟨fun z2 => absurd ⟨z, z2⟩ hk, fun z2 => ⟨_, g, J, I, rfl, rfl, ⟨_, rfl⟩, ?_⟩⟩⟩
    all_goals
      exact zm_160_x (d := 89) ⟨fun z => ⟨rfl, g, J, I, rfl, hi⟩, fun z => ⟨fun z2 => ⟨rfl, g, J, I, rfl, hi⟩, fun z2 => absurd (i_out (n := 12) (fun y => hk ⟨z, y⟩) (by omega)) z2⟩⟩
theorem P2_v {t b : Nat} {g : xq_V} {I : Nat → xw} (ht : t < 4) (hb : b < 2) (hi : iv g I) : iv g (xq_w (xq_w (xq_w (xq_w (xq_w I 20 t (nI b)) 56 3 (nI 0)) 34 4 (nI 0)) 127 (24 + t) (nI b)) 126 4 (nI 0)) := by
  have hi' := hi
  obtain ⟨n, ns, ⟨ho, hw, hbk, hC, h32, h29⟩, hT, hP, hrest⟩ := hi'
  refine iv_told (n := n) (ns := ns) hi ⟨?_, ?_, ?_, ?_, h32, h29⟩ rfl rfl rfl rfl ?_ ?_ ?_ rfl
  · exact ok_open ho ht hb
  · exact w9_fr (W := I 127) (W' := upd (I 127) (24 + t) (nI b)) hw (upd_ne (by omega))
  · exact bkw_fr (W := I 127) (W' := upd (I 127) (24 + t) (nI b)) ho.2.1 hbk (upd_ne (by omega)) (fun p p1 p2 => upd_ne (by omega))
  · refine CR_at (W := upd (I 127) (24 + t) (nI b)) (CR_open (j := t) (v := nI b) ho hC ht) (fun a ha => ?_) (fun i hi => ?_) rfl
    · rw [xw_i (by omega), xw_i (by omega), xw_i (by omega), xw_i (by omega), xw_i (by omega)]
    · rcases i14 hi with e | e | e | e | e | e | e | e | e | e | e | e | e | e <;> (subst e; rfl)
  · exact plR_fr (W := I 127) (W' := upd (I 127) (24 + t) (nI b)) hP (fun p hp => upd_ne (by omega))
  · intro a ha
    rw [xw_i (by omega), xw_i (by omega), xw_i (by omega), xw_i (by omega), xw_i (by omega)]
  · intro j hj
    show upd (I 126) 4 (nI 0) j = I 126 j
    rw [upd_ne (by omega)]
theorem P2 : xq_P2 126 Inv := by
  intro k w
  refine pair_of (fun g J I hi => ?_)
  by_cases hk : ¬ k < nI 0 ∧ k < nI 4
  · obtain ⟨t, ht, et⟩ := i_nat hk.1 hk.2 (by omega)
    subst et
    refine zc_17 (d := 88) ⟨by omega, fun z => by omega, fun _ => ⟨fun _ => ⟨fun z => ⟨_, g, J, _, rfl, rfl, ⟨_, rfl⟩, ?_⟩, fun z => ⟨_, g, J, _, rfl, rfl, ⟨_, rfl⟩, ?_⟩⟩, fun z => by omega⟩⟩
    · exact zm_163 (d := 89) ⟨by omega, fun z => by omega, fun _ => ⟨fun z => by omega, fun _ => ⟨fun _ => ⟨by omega, rfl, g, J, _, rfl, P2_v (b := 0) ht (by omega) hi⟩, fun z2 => absurd z z2⟩⟩⟩
    · exact zm_163 (d := 89) ⟨by omega, fun z => by omega, fun _ => ⟨fun z => by omega, fun _ => ⟨fun z2 => absurd z2 z, fun _ => ⟨by omega, rfl, g, J, _, rfl, P2_v (b := 1) ht (by omega) hi⟩⟩⟩⟩
  · refine zc_17_x (d := 90) ⟨fun z => ⟨_, g, J, I, rfl, rfl, ⟨_, rfl⟩, ?_⟩, fun z => ⟨fun z2 => absurd ⟨z, z2⟩ hk, fun z2 => ⟨_, g, J, I, rfl, rfl, ⟨_, rfl⟩, ?_⟩⟩⟩
    all_goals
      exact zm_163_x (d := 89) ⟨fun z => ⟨rfl, g, J, I, rfl, hi⟩, fun z => ⟨fun z2 => ⟨rfl, g, J, I, rfl, hi⟩, fun z2 => absurd (i_out (n := 4) (fun y => hk ⟨z, y⟩) (by omega)) z2⟩⟩
/-- only the reader's rows change -/
theorem iv_rd (h : iv g I) (e : ∀ a, ¬ (104 ≤ a ∧ a < 110) → ¬ a = 126 → ¬ a = 135 → I' a = I a) (eA : ∀ j, ¬ j = 18 → ¬ j = 25 → ¬ j = 27 → I' 126 j = I 126 j) (hR : ivR I') : iv g I' := by
  obtain ⟨n, ns, hA, hT, hP, -, hS, hH, hK, hJ⟩ := h
  have e127 : I' 127 = I 127 := e 127 (by omega) (by omega) (by omega)
  refine ⟨n, ns, ?_, ivT_fr hT (fun j _ => by rw [e 46 (by omega) (by omega) (by omega)]) (fun j _ => by rw [e 47 (by omega) (by omega) (by omega)]), ?_, hR, ?_, ivH_fr hA.1.1.2.1 hH (fun a ha => e a (by omega) (by omega) (by omega)) (eA 4 (by omega) (by omega) (by omega)) (by rw [e127]; exact Nat.le_refl _), ivK_fr2 hK (e 128 (by omega) (by omega) (by omega)) (fun a ha => e a (by omega) (by omega) (by omega)) (eA 5 (by omega) (by omega) (by omega)) (by rw [e 32 (by omega) (by omega) (by omega)]), hJ⟩
  · obtain ⟨a1, a2, a2b, a3, a4, a5⟩ := hA
    unfold ivA
    rw [e127]
    exact ⟨a1, a2, a2b, CR_cells a3 (fun a ha => e a (by omega) (by omega) (by omega)) (by rw [e 32 (by omega) (by omega) (by omega)]), by rw [e 32 (by omega) (by omega) (by omega)]; exact a4, (eA 29 (by omega) (by omega) (by omega)).trans a5⟩
  · unfold ivP at hP ⊢
    rw [e127, e 14 (by omega) (by omega) (by omega), e 15 (by omega) (by omega) (by omega), e 16 (by omega) (by omega) (by omega), e 17 (by omega) (by omega) (by omega)]
    exact hP
  · unfold ivS at hS ⊢
    rw [e127, e 34 (by omega) (by omega) (by omega), e 45 (by omega) (by omega) (by omega)]
    exact hS
theorem P5 : xq_P5 126 Inv := by
  intro w
  refine pair_of (fun g J I hi => ?_)
  have hi' := hi
  obtain ⟨n, ns, -, -, -, ⟨⟨l, hl, el, em, hb⟩, hf1, hf2⟩, -⟩ := hi'
  by_cases hv : ¬ w < nI 0 ∧ ¬ nI l < w
  · obtain ⟨t, t1, t2, t3⟩ := i_rng hv.1 hv.2 (by omega) (by omega)
    subst t3
    refine zc_24 (d := 89) ⟨fun z => absurd z hv.1, fun _ => ⟨fun z => absurd (by rw [el] at z; exact z) hv.2, fun _ => ⟨_, g, J, _, rfl, rfl, ⟨_, rfl⟩, ?_⟩⟩⟩
    refine zm_168 (d := 89) ⟨fun z => absurd z hv.1, fun _ => ⟨fun z => ?_, fun _ => ⟨rfl, g, J, _, rfl, ?_⟩⟩⟩
    · have z : I 126 18 < nI t := z
      rw [em] at z; exact absurd z hv.2
    · refine iv_rd hi (fun a a1 a2 a3 => by rw [xw_i a2, xw_i (by omega)]) (fun j j1 j2 j3 => ?_) ⟨⟨t, by omega, ?_, ?_, fun i hi => hb i (by omega)⟩, ?_, ?_⟩
      · show upd (I 126) 18 (nI t) j = I 126 j
        rw [upd_ne j1]
      · show upd (I 104) 1 (nI t) 1 = nI t
        rw [upd_eq]
      · show upd (I 126) 18 (nI t) 18 = nI t
        rw [upd_eq]
      · show upd (I 104) 1 (nI t) 8 = upd (I 126) 18 (nI t) 25
        rw [upd_ne (by omega), upd_ne (by omega)]; exact hf1
      · show upd (I 104) 1 (nI t) 9 = upd (I 126) 18 (nI t) 27
        rw [upd_ne (by omega), upd_ne (by omega)]; exact hf2
  · refine zc_24 (d := 89) ⟨fun z => ⟨_, g, J, I, rfl, rfl, ⟨_, rfl⟩, ?_⟩, fun z => ⟨fun z2 => ⟨_, g, J, I, rfl, rfl, ⟨_, rfl⟩, ?_⟩, fun z2 => absurd ⟨z, by rw [el] at z2; exact z2⟩ hv⟩⟩
    all_goals
      exact zm_168 (d := 89) ⟨fun z => ⟨rfl, g, J, I, rfl, hi⟩, fun z => ⟨fun z2 => ⟨rfl, g, J, I, rfl, hi⟩, fun z2 => absurd ⟨z, by rw [em] at z2; exact z2⟩ hv⟩⟩
end xk_pw
