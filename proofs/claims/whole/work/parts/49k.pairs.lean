/-! the pairs: look -/
section xk_pr6
variable {g : xq_V} {J : Nat → Nat → Int64} {I I' : Nat → xw} {n ns : Nat} {Q : Option Value → xq_S → Prop} {d : Nat} {W : xw}
def lkd (w : Nat) : Prop := w < 13 ∨ (20 ≤ w ∧ w < 32) ∨ (40 ≤ w ∧ w < 44)
theorem P30_v {w : Nat} (ho : ok n ns (I 127)) (hC : CR true n ns I (xcR true I) (I 127)) (h10 : I 56 3 = I 126 4) (h12 : I 14 0 = I 127 1960) (hw : lkd w) : ∃ v : Int32, (∀ Q : Option Value → xq_S → Prop, Q (some (.int v)) (xq_s g J I) → xq_wp 90 156 (xq_s g J I) 0 [.ref 0, .int (nI w), xq_un] [] Q) ∧ (∀ Q : Option Value → xq_S → Prop, Q (some (.int v)) (xq_s g J I) → xq_wp 90 272 (xq_s g J I) 0 [.ref 126, .int (nI w)] [] Q) := by
  have n14 := ho.1.2.1
  have em : xq_s g J I = xq_s g J (xm I (I 126) (I 127) (I 136) (I 137) (I 138)) := by rw [xm_self]
  have : w = 0 ∨ w = 1 ∨ w = 2 ∨ w = 3 ∨ w = 4 ∨ w = 5 ∨ w = 6 ∨ w = 7 ∨ w = 8 ∨ w = 9 ∨ w = 10 ∨ w = 11 ∨ w = 12 ∨ w = 20 ∨ w = 21 ∨ w = 22 ∨ w = 23 ∨ w = 24 ∨ w = 25 ∨ w = 26 ∨ w = 27 ∨ w = 28 ∨ w = 29 ∨ w = 30 ∨ w = 31 ∨ w = 40 ∨ w = 41 ∨ w = 42 ∨ w = 43 := by unfold lkd at hw; omega
  rcases this with e | e | e | e | e | e | e | e | e | e | e | e | e | e | e | e | e | e | e | e | e | e | e | e | e | e | e | e | e
  · subst e
    exact ⟨I 127 0, fun Q hp => zc_156_0 (d := 90) (by rw [show I 2 0 = I 127 0 from (CR_G hC).1]; exact hp), fun Q hp => zm_272_0 (d := 90) hp⟩
  · subst e
    exact ⟨I 127 1, fun Q hp => zc_156_1 (d := 90) (by rw [show I 2 5 = I 127 1 from (CR_G hC).2.1]; exact hp), fun Q hp => zm_272_1 (d := 90) hp⟩
  · subst e
    exact ⟨I 127 2, fun Q hp => zc_156_2 (d := 90) (by rw [show I 18 10 = I 127 2 from (CR_0 hC).1]; exact hp), fun Q hp => zm_272_2 (d := 90) hp⟩
  · subst e
    exact ⟨I 127 3, fun Q hp => zc_156_3 (d := 90) (by rw [show I 18 9 = I 127 3 from (CR_0 hC).2.1]; exact hp), fun Q hp => zm_272_3 (d := 90) hp⟩
  · subst e
    refine ⟨nI (lmN (I 127) n), fun Q hp => zc_156_4 (d := 89) ?_, fun Q hp => zm_272_4 (d := 89) ?_⟩
    · have : I 18 13 = nI (lsN (I 127) n) := (CR_L hC).1.trans (lset_N n14)
      rw [this, bc_ls n n14]; exact hp
    · rw [em] at hp ⊢
      refine xl_239 (d := 88) ho.1.1 n14 ?_
      rw [lmany_N]
      exact xq_wp.ret (k := 1) (fun F => rfl) hp
  · subst e
    exact ⟨I 127 4, fun Q hp => zc_156_5 (d := 90) (by rw [show I 18 11 = I 127 4 from (CR_0 hC).2.2.1]; exact hp), fun Q hp => zm_272_5 (d := 90) hp⟩
  · subst e
    exact ⟨I 127 5, fun Q hp => zc_156_6 (d := 90) (by rw [show I 18 12 = I 127 5 from (CR_0 hC).2.2.2.1]; exact hp), fun Q hp => zm_272_6 (d := 90) hp⟩
  · subst e
    exact ⟨I 127 6, fun Q hp => zc_156_7 (d := 90) (by rw [show I 27 1 = I 127 6 from ((CR_B hC).1 rfl).2.1]; exact hp), fun Q hp => zm_272_7 (d := 90) hp⟩
  · subst e
    exact ⟨I 127 7, fun Q hp => zc_156_8 (d := 90) (by rw [show I 18 8 = I 127 7 from (CR_0 hC).2.2.2.2]; exact hp), fun Q hp => zm_272_8 (d := 90) hp⟩
  · subst e
    exact ⟨I 127 1075, fun Q hp => zc_156_9 (d := 90) (by rw [show I 9 0 = I 127 1075 from (CR_law hC).1]; exact hp), fun Q hp => zm_272_9 (d := 90) hp⟩
  · subst e
    exact ⟨I 126 4, fun Q hp => zc_156_10 (d := 90) (by rw [show I 56 3 = I 126 4 from h10]; exact hp), fun Q hp => zm_272_10 (d := 90) hp⟩
  · subst e
    refine ⟨sp_lean (I 127) n 0 (nI 0), fun Q hp => zc_156_11 (d := 90) ?_, fun Q hp => zm_272_11 (d := 89) ?_⟩
    · rw [show I 18 14 = sp_lean (I 127) n 0 (nI 0) from (CR_L hC).2]; exact hp
    · rw [em] at hp ⊢
      exact xl_238 (d := 88) ho.1.1 n14 (xq_wp.ret (k := 1) (fun F => rfl) hp)
  · subst e
    exact ⟨I 127 1960, fun Q hp => zc_156_12 (d := 90) (by rw [show I 14 0 = I 127 1960 from h12]; exact hp), fun Q hp => zm_272_12 (d := 90) hp⟩
  · subst e
    exact ⟨I 127 10, fun Q hp => zc_156_20 (d := 90) (by rw [show I 19 0 = I 127 10 from CR_1 hC 0 (by omega)]; exact hp), fun Q hp => zm_272_20 (d := 89) hp⟩
  · subst e
    exact ⟨I 127 11, fun Q hp => zc_156_21 (d := 90) (by rw [show I 19 1 = I 127 11 from CR_1 hC 1 (by omega)]; exact hp), fun Q hp => zm_272_21 (d := 89) hp⟩
  · subst e
    exact ⟨I 127 12, fun Q hp => zc_156_22 (d := 90) (by rw [show I 19 2 = I 127 12 from CR_1 hC 2 (by omega)]; exact hp), fun Q hp => zm_272_22 (d := 89) hp⟩
  · subst e
    exact ⟨I 127 13, fun Q hp => zc_156_23 (d := 90) (by rw [show I 19 3 = I 127 13 from CR_1 hC 3 (by omega)]; exact hp), fun Q hp => zm_272_23 (d := 89) hp⟩
  · subst e
    exact ⟨I 127 14, fun Q hp => zc_156_24 (d := 90) (by rw [show I 19 4 = I 127 14 from CR_1 hC 4 (by omega)]; exact hp), fun Q hp => zm_272_24 (d := 89) hp⟩
  · subst e
    exact ⟨I 127 15, fun Q hp => zc_156_25 (d := 90) (by rw [show I 19 5 = I 127 15 from CR_1 hC 5 (by omega)]; exact hp), fun Q hp => zm_272_25 (d := 89) hp⟩
  · subst e
    exact ⟨I 127 16, fun Q hp => zc_156_26 (d := 90) (by rw [show I 19 6 = I 127 16 from CR_1 hC 6 (by omega)]; exact hp), fun Q hp => zm_272_26 (d := 89) hp⟩
  · subst e
    exact ⟨I 127 17, fun Q hp => zc_156_27 (d := 90) (by rw [show I 19 7 = I 127 17 from CR_1 hC 7 (by omega)]; exact hp), fun Q hp => zm_272_27 (d := 89) hp⟩
  · subst e
    exact ⟨I 127 18, fun Q hp => zc_156_28 (d := 90) (by rw [show I 19 8 = I 127 18 from CR_1 hC 8 (by omega)]; exact hp), fun Q hp => zm_272_28 (d := 89) hp⟩
  · subst e
    exact ⟨I 127 19, fun Q hp => zc_156_29 (d := 90) (by rw [show I 19 9 = I 127 19 from CR_1 hC 9 (by omega)]; exact hp), fun Q hp => zm_272_29 (d := 89) hp⟩
  · subst e
    exact ⟨I 127 20, fun Q hp => zc_156_30 (d := 90) (by rw [show I 19 10 = I 127 20 from CR_1 hC 10 (by omega)]; exact hp), fun Q hp => zm_272_30 (d := 89) hp⟩
  · subst e
    exact ⟨I 127 21, fun Q hp => zc_156_31 (d := 90) (by rw [show I 19 11 = I 127 21 from CR_1 hC 11 (by omega)]; exact hp), fun Q hp => zm_272_31 (d := 89) hp⟩
  · subst e
    exact ⟨I 127 24, fun Q hp => zc_156_40 (d := 90) (by rw [show I 20 0 = I 127 24 from CR_2 hC 0 (by omega)]; exact hp), fun Q hp => zm_272_40 (d := 89) hp⟩
  · subst e
    exact ⟨I 127 25, fun Q hp => zc_156_41 (d := 90) (by rw [show I 20 1 = I 127 25 from CR_2 hC 1 (by omega)]; exact hp), fun Q hp => zm_272_41 (d := 89) hp⟩
  · subst e
    exact ⟨I 127 26, fun Q hp => zc_156_42 (d := 90) (by rw [show I 20 2 = I 127 26 from CR_2 hC 2 (by omega)]; exact hp), fun Q hp => zm_272_42 (d := 89) hp⟩
  · subst e
    exact ⟨I 127 27, fun Q hp => zc_156_43 (d := 90) (by rw [show I 20 3 = I 127 27 from CR_2 hC 3 (by omega)]; exact hp), fun Q hp => zm_272_43 (d := 89) hp⟩
theorem P30 : xq_P30 126 Inv := by
  intro w
  refine rd_pair (fun g J I n ns hi ho hC => ?_)
  obtain ⟨n', ns', -, -, ⟨s, hs, es1, es2, -⟩, -, -, ⟨c, r, hc, hr, ec1, ec2, -⟩, -⟩ := hi
  by_cases hw : ∃ t, lkd t ∧ w = nI t
  · obtain ⟨t, ht, et⟩ := hw
    subst et
    exact P30_v ho hC (ec2.trans ec1.symm) (es1.trans es2.symm) ht
  · have nw : ∀ t, lkd t → ¬ w = nI t := fun t ht e => hw ⟨t, ht, e⟩
    have nw0 : ∀ j : Nat, j < 13 → ¬ w = nI 0 + nI j := fun j hj e => nw j (Or.inl hj) (by rw [e, nI_add, Nat.zero_add])
    have r1 : ¬ w < nI 20 → nI 31 < w := fun y => Classical.byContradiction fun y2 => by
      obtain ⟨t, t1, t2, t3⟩ := i_rng y y2 (by omega) (by omega)
      exact nw t (Or.inr (Or.inl (by omega))) t3
    have r2 : ¬ w < nI 40 → nI 43 < w := fun y => Classical.byContradiction fun y2 => by
      obtain ⟨t, t1, t2, t3⟩ := i_rng y y2 (by omega) (by omega)
      exact nw t (Or.inr (Or.inr (by omega))) t3
    have r3 : ¬ w < nI 20 → ¬ w < nI 32 := fun y y2 => by
      have a := Int32.lt_iff_toInt_lt.mp (r1 y)
      have b := Int32.lt_iff_toInt_lt.mp y2
      rw [nI_toInt (by omega)] at a b
      omega
    have r4 : ¬ w < nI 40 → ¬ w < nI 44 := fun y y2 => by
      have a := Int32.lt_iff_toInt_lt.mp (r2 y)
      have b := Int32.lt_iff_toInt_lt.mp y2
      rw [nI_toInt (by omega)] at a b
      omega
    refine ⟨(Int16.ofInt (-1000)).toInt32, fun Q hp => ?_, fun Q hp => ?_⟩
    · have all : (w = nI 0 → Q (some (.int (I 2 0))) (xq_s g J I)) ∧ (w = nI 1 → Q (some (.int (I 2 5))) (xq_s g J I)) ∧ (w = nI 2 → Q (some (.int (I 18 10))) (xq_s g J I)) ∧ (w = nI 3 → Q (some (.int (I 18 9))) (xq_s g J I)) ∧ (w = nI 4 → Q (some (.int (xq_bc (I 18 13)))) (xq_s g J I)) ∧ (w = nI 5 → Q (some (.int (I 18 11))) (xq_s g J I)) ∧ (w = nI 6 → Q (some (.int (I 18 12))) (xq_s g J I)) ∧ (w = nI 7 → Q (some (.int (I 27 1))) (xq_s g J I)) ∧ (w = nI 8 → Q (some (.int (I 18 8))) (xq_s g J I)) ∧ (w = nI 9 → Q (some (.int (I 9 0))) (xq_s g J I)) ∧ (w = nI 10 → Q (some (.int (I 56 3))) (xq_s g J I)) ∧ (w = nI 11 → Q (some (.int (I 18 14))) (xq_s g J I)) ∧ (w = nI 12 → Q (some (.int (I 14 0))) (xq_s g J I)) ∧ ((∀ j : Nat, j < 13 → ¬ w = nI 0 + nI j) → Q (some (.int ((Int16.ofInt (-1000)).toInt32))) (xq_s g J I)) := ⟨fun y => absurd y (nw 0 (Or.inl (by omega))), fun y => absurd y (nw 1 (Or.inl (by omega))), fun y => absurd y (nw 2 (Or.inl (by omega))), fun y => absurd y (nw 3 (Or.inl (by omega))), fun y => absurd y (nw 4 (Or.inl (by omega))), fun y => absurd y (nw 5 (Or.inl (by omega))), fun y => absurd y (nw 6 (Or.inl (by omega))), fun y => absurd y (nw 7 (Or.inl (by omega))), fun y => absurd y (nw 8 (Or.inl (by omega))), fun y => absurd y (nw 9 (Or.inl (by omega))), fun y => absurd y (nw 10 (Or.inl (by omega))), fun y => absurd y (nw 11 (Or.inl (by omega))), fun y => absurd y (nw 12 (Or.inl (by omega))), fun _ => hp⟩
      exact zc_156_x (d := 89) ⟨fun _ => ⟨fun _ => all, fun z => ⟨fun z2 => absurd z2 (r4 z), fun _ => all⟩⟩, fun z => ⟨fun z2 => absurd z2 (r3 z), fun _ => ⟨fun _ => all, fun z => ⟨fun z2 => absurd z2 (r4 z), fun _ => all⟩⟩⟩⟩
    · exact zm_272_x (d := 89) ⟨fun y => absurd y (nw 0 (Or.inl (by omega))), fun y => absurd y (nw 1 (Or.inl (by omega))), fun y => absurd y (nw 2 (Or.inl (by omega))), fun y => absurd y (nw 3 (Or.inl (by omega))), fun y => absurd y (nw 4 (Or.inl (by omega))), fun y => absurd y (nw 5 (Or.inl (by omega))), fun y => absurd y (nw 6 (Or.inl (by omega))), fun y => absurd y (nw 7 (Or.inl (by omega))), fun y => absurd y (nw 8 (Or.inl (by omega))), fun y => absurd y (nw 9 (Or.inl (by omega))), fun y => absurd y (nw 10 (Or.inl (by omega))), fun y => absurd y (nw 11 (Or.inl (by omega))), fun y => absurd y (nw 12 (Or.inl (by omega))), fun _ => ⟨fun _ => ⟨fun _ => hp, fun z => ⟨fun _ => hp, fun z2 => absurd (r2 z) z2⟩⟩, fun z => ⟨fun _ => ⟨fun _ => hp, fun z => ⟨fun _ => hp, fun z2 => absurd (r2 z) z2⟩⟩, fun z2 => absurd (r1 z) z2⟩⟩⟩
end xk_pr6
