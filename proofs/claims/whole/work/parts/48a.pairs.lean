/-! the pairs: thoughts -/
section xk_pr
variable {g : xq_V} {J : Nat → Nat → Int64} {I I' : Nat → xw} {R' : Nat → xw} {n ns : Nat} {Q : Option Value → xq_S → Prop}
theorem i_nat {b : Int32} {n : Nat} (h0 : ¬ b < nI 0) (h1 : b < nI n) (hn : n < 2147483648) : ∃ k, k < n ∧ b = nI k := by
  have a := mt Int32.lt_iff_toInt_lt.mpr h0
  have c := Int32.lt_iff_toInt_lt.mp h1
  rw [nI_toInt (by omega)] at a c
  refine ⟨b.toInt.toNat, by omega, Int32.toInt_inj.mp ?_⟩
  rw [nI_toInt (by omega)]
  omega
theorem i_out {b : Int32} {n : Nat} (h : ¬ b < nI n) (hn : n < 1000000) : nI n - nI 1 < b := by
  have a := mt Int32.lt_iff_toInt_lt.mpr h
  rw [nI_toInt (by omega)] at a
  rw [Int32.lt_iff_toInt_lt, pk_sub_toInt (by omega) (by omega)]
  omega
theorem i_in {n k : Nat} (h : k < n) (hn : n < 1000000) : ¬ nI k < nI 0 ∧ ¬ nI n - nI 1 < nI k ∧ nI k < nI n := by
  refine ⟨by rw [xn_lt (by omega) (by omega)]; omega, ?_, by rw [xn_lt (by omega) (by omega)]; exact h⟩
  rw [Int32.lt_iff_toInt_lt, pk_sub_toInt (by omega) (by omega), nI_toInt (by omega)]
  omega
theorem xt_o {A W P F N Y X B : xw} {a : Nat} (h : ¬ (a = 126 ∨ a = 127 ∨ a = 130 ∨ a = 136 ∨ a = 137 ∨ a = 138 ∨ a = 139 ∨ a = 140)) : xt I A W P F N Y X B a = I a := by
  unfold xt xm
  rw [xv_ne (by omega), xv_ne (by omega), xv_ne (by omega), xv_ne (by omega), xv_ne (by omega), xv_ne (by omega), xv_ne (by omega), xv_ne (by omega)]
theorem xcf_o {R : Nat → xw} {a : Nat} (h : ¬ ((12 ≤ a ∧ a < 14) ∨ (35 ≤ a ∧ a < 44) ∨ (46 ≤ a ∧ a < 53))) : xc false I R a = I a :=
  xc_out (fun i hi e => by have := xid_f hi; omega)
theorem md_eq {R : Nat → xw} : xc false I R = xt (xc false I R) (I 126) (I 127) (I 136) (I 137) (I 138) (I 130) (I 139) (I 140) := by
  have := xt_self (xc false I R)
  rw [xcf_o (a := 126) (by omega), xcf_o (a := 127) (by omega), xcf_o (a := 136) (by omega), xcf_o (a := 137) (by omega), xcf_o (a := 138) (by omega), xcf_o (a := 130) (by omega), xcf_o (a := 139) (by omega), xcf_o (a := 140) (by omega)] at this
  exact this.symm
theorem iv_th (h : iv g I) (ht : tk R') (h10 : R' 9 10 = Int32.ofInt (-1)) {A' P' F' N' Y' X' B' : xw} (eA : ∀ j, j = 4 ∨ j = 5 ∨ j = 18 ∨ j = 25 ∨ j = 27 ∨ j = 29 → A' j = I 126 j) : iv g (xt (xc false I R') A' (I 127) P' F' N' Y' X' B') := by
  have m : ∀ i, i < 18 → xt (xc false I R') A' (I 127) P' F' N' Y' X' B' (xid false i) = R' i := by
    intro i hi
    have := xid_f hi
    rw [xt_o (by omega), xc_in i hi]
  refine iv_scr h (fun a ha => ?_) (fun j hj => ?_) ⟨?_, ?_⟩ ⟨?_, ?_⟩ ?_
  · by_cases e : a = 127
    · subst e; unfold xt xm; rw [xv_eq]
    · unfold relc at ha
      rw [xt_o (by omega), xcf_o (by omega)]
  · rw [show xt (xc false I R') A' (I 127) P' F' N' Y' X' B' 126 = A' by unfold xt xm; rw [xv_ne (by omega), xv_eq]]
    exact eA j hj
  · rw [xt_o (by omega), xcf_o (by omega)]
  · rw [xt_o (by omega), xcf_o (by omega)]
  · refine ⟨?_, ?_, ?_⟩
    · show xt _ _ _ _ _ _ _ _ _ (xid false 9) 4 = _
      rw [m 9 (by omega)]; exact ht.1
    · show xt _ _ _ _ _ _ _ _ _ (xid false 11) 0 = _
      rw [m 11 (by omega)]; exact ht.2.1
    · show xt _ _ _ _ _ _ _ _ _ (xid false 11) 1 = _
      rw [m 11 (by omega)]; exact ht.2.2
  · show xt _ _ _ _ _ _ _ _ _ (xid false 9) 10 = _
    rw [m 9 (by omega)]; exact h10
  · rw [xt_o (by omega), xcf_o (by omega)]
theorem A30 {A : xw} {v : Int32} : ∀ j, j = 4 ∨ j = 5 ∨ j = 18 ∨ j = 25 ∨ j = 27 ∨ j = 29 → upd A 30 v j = A j := fun j hj => upd_ne (by omega)
theorem w9_th {W : xw} (h : w9 W) : thw W := by
  obtain ⟨k, hk, ek⟩ := h
  exact ⟨k, by omega, ek⟩
/-- what a thought's pair needs: the class answers v and leaves the thought's rows; the model answers the same -/
theorem th_pair {mc mm : Nat} {As : List Value} (h : ∀ (g : xq_V) (J : Nat → Nat → Int64) (I : Nat → xw) (n ns : Nat), iv g I → ok n ns (I 127) → thw (I 127) → CR true n ns I (xcR true I) (I 127) → I 126 29 = Int32.ofInt (-1) → tk (xcR false I) → xcR false I 9 10 = Int32.ofInt (-1) → ∃ v : Int32, (∀ Q : Option Value → xq_S → Prop, (∀ R', tk R' → R' 9 10 = Int32.ofInt (-1) → Q (some (.int v)) (xq_s g J (xc false I R'))) → xq_wp 90 mc (xq_s g J (xc false I (xcR false I))) 0 ((.ref 0 :: As) ++ List.replicate ((xq_mn mc).2.2.1 - (As.length + 1)) xq_un) [] Q) ∧ (∀ (I1 : Nat → xw) (Q : Option Value → xq_S → Prop), (∀ (A' P' F' N' Y' X' B' : xw), (∀ j, j = 4 ∨ j = 5 ∨ j = 18 ∨ j = 25 ∨ j = 27 ∨ j = 29 → A' j = I 126 j) → Q (some (.int v)) (xq_s g J (xt I1 A' (I 127) P' F' N' Y' X' B'))) → xq_wp 90 mm (xq_s g J (xt I1 (I 126) (I 127) (I 136) (I 137) (I 138) (I 130) (I 139) (I 140))) 0 ((.ref 126 :: As) ++ List.replicate ((xq_mn mm).2.2.1 - (As.length + 1)) xq_un) [] Q)) : xq_pair 126 Inv mc mm As xq_isI := by
  refine pair_of (fun g J I hi => ?_)
  obtain ⟨n, ns, ⟨ho, hw, hbk, hC, h32, h29⟩, ⟨htk, h10⟩, hrest⟩ := hi
  have hi : iv g I := ⟨n, ns, ⟨ho, hw, hbk, hC, h32, h29⟩, ⟨htk, h10⟩, hrest⟩
  obtain ⟨v, h1, h2⟩ := h g J I n ns hi ho (w9_th hw) hC h29 htk h10
  have e0 : xq_s g J I = xq_s g J (xc false I (xcR false I)) := by rw [← xc_self]
  rw [e0]
  refine h1 _ (fun R' t' q' => ⟨_, g, J, xc false I R', rfl, rfl, ⟨_, rfl⟩, ?_⟩)
  have e1 : xq_s g J (xc false I R') = xq_s g J (xt (xc false I R') (I 126) (I 127) (I 136) (I 137) (I 138) (I 130) (I 139) (I 140)) := congrArg (xq_s g J) md_eq
  rw [e1]
  exact h2 _ _ (fun A' P' F' N' Y' X' B' eA => ⟨rfl, g, J, _, rfl, iv_th hi t' q' eA⟩)
theorem P15 : xq_P15 126 Inv := th_pair (fun g J I n ns hi ho hw hC h29 htk h10 => ⟨_, fun Q hp => yt_120 (d := 89) (yl_121 (d := 83) ho hC hw htk h10 (fun R' t' q' => xq_wp.ret (k := 1) (fun F => rfl) (hp R' t' q'))), fun I1 Q hp => xl_250 (d := 81) ho h29 hw (fun v' P' F' N' Y' => hp _ _ _ _ _ _ _ A30)⟩)
theorem P18 : xq_P18 126 Inv := th_pair (fun g J I n ns hi ho hw hC h29 htk h10 => ⟨_, fun Q hp => yt_130 (d := 89) (yl_131 (d := 83) ho hC hw htk h10 (fun R' t' q' => xq_wp.ret (k := 1) (fun F => rfl) (hp R' t' q'))), fun I1 Q hp => xl_258 (d := 80) ho h29 hw (fun v' P' F' N' Y' => hp _ _ _ _ _ _ _ A30)⟩)
theorem P17 : xq_P17 126 Inv := by
  intro b
  refine th_pair (fun g J I n ns hi ho hw hC h29 htk h10 => ?_)
  have n14 := ho.1.2.1
  have e0 : I 2 0 = nI n := (CR_G hC).1.trans ho.1.1
  by_cases hb : ¬ b < nI 0 ∧ b < nI n
  · obtain ⟨k, hk, ek⟩ := i_nat hb.1 hb.2 (by omega)
    subst ek
    have e4 : I 22 k = I 127 (50 + 14 * k + 4) := CR_4 hC k hk
    obtain ⟨q1, q2, q3⟩ := i_in hk (by omega)
    refine ⟨th_slack n k (I 127), fun Q hp => yt_128 (d := 89) ⟨fun z => absurd z q1, fun _ => ⟨fun _ => ⟨xn_in (by omega) (by omega), fun z => ?_, fun z => ?_⟩, fun z => absurd (by rw [e0]; exact q3) z⟩⟩, fun I1 Q hp => xu_257_0 (d := 88) ⟨fun z => absurd z q1, fun _ => ⟨fun z => ?_, fun _ => xl_257 (d := 80) ho h29 hw hk (fun v' P' F' N' Y' => hp _ _ _ _ _ _ _ A30)⟩⟩⟩
    · rw [nI_clamp (by omega), e4] at z
      exact yl_129 (d := 83) ho hC hw hk z htk h10 (fun R' t' q' => xq_wp.ret (k := 1) (fun F => rfl) (hp R' t' q'))
    · rw [nI_clamp (by omega), e4] at z
      rw [th_slack, if_neg (fun y => z y.1)] at hp
      exact hp _ htk h10
    · rw [ho.1.1] at z; exact absurd z q2
  · refine ⟨Int32.ofInt (-1), fun Q hp => yt_128 (d := 89) ⟨fun z => hp _ htk h10, fun z => ⟨fun z2 => absurd ⟨z, by rw [← e0]; exact z2⟩ hb, fun z2 => hp _ htk h10⟩⟩, fun I1 Q hp => xu_257_0 (d := 88) ⟨fun z => hp _ _ _ _ _ _ _ (fun _ _ => rfl), fun z => ⟨fun z2 => hp _ _ _ _ _ _ _ (fun _ _ => rfl), fun z2 => ?_⟩⟩⟩
    rw [ho.1.1] at z2
    exact absurd (i_out (fun y => hb ⟨z, y⟩) (by omega)) z2
theorem P19 : xq_P19 126 Inv := by
  intro wk
  refine th_pair (fun g J I n ns hi ho hw hC h29 htk h10 => ?_)
  have e10 : I 18 10 = I 127 2 := (CR_0 hC).1
  refine ⟨if wk < I 127 2 then Int32.ofInt (-1) else th_fw n wk (I 127) 100 0, fun Q hp => yt_132 (d := 89) ⟨fun z => ?_, fun z => ?_⟩, fun I1 Q hp => xl_259 (d := 82) ho h29 hw (fun v' P' F' N' Y' => hp _ _ _ _ _ _ _ A30)⟩
  · rw [e10] at z
    rw [if_pos z] at hp
    exact hp _ htk h10
  · rw [e10] at z
    rw [if_neg z] at hp
    refine xq_wp.go (k := 2) (fun F => rfl) ?_
    exact yl_133_2 (d := 83) ho hC hw 100 0 _ (by omega) htk h10 (fun R' t' q' => xq_wp.ret (k := 1) (fun F => rfl) (hp R' t' q'))
theorem P25 : xq_P25 126 Inv := by
  intro m ve
  refine th_pair (fun g J I n ns hi ho hw hC h29 htk h10 => ?_)
  by_cases hm : (¬ m < nI 0 ∧ ¬ nI 100 < m) ∧ (¬ ve < nI 0 ∧ ¬ nI 2 < ve)
  · obtain ⟨k, hk, ek⟩ := i_nat (n := 101) hm.1.1 (by
      have := mt Int32.lt_iff_toInt_lt.mpr hm.1.2
      rw [nI_toInt (by omega)] at this
      rw [Int32.lt_iff_toInt_lt, nI_toInt (by omega)]; omega) (by omega)
    obtain ⟨t, ht, et⟩ := i_nat (n := 3) hm.2.1 (by
      have := mt Int32.lt_iff_toInt_lt.mpr hm.2.2
      rw [nI_toInt (by omega)] at this
      rw [Int32.lt_iff_toInt_lt, nI_toInt (by omega)]; omega) (by omega)
    subst ek et
    exact ⟨th_herd n k t (I 127), fun Q hp => yt_145 (d := 89) ⟨fun z => absurd z hm.1.1, fun _ => ⟨fun z => absurd z hm.1.2, fun _ => ⟨fun z => absurd z hm.2.1, fun _ => ⟨fun z => absurd z hm.2.2, fun _ => yl_146 (d := 86) ho hC hw (by omega) ht htk h10 (fun R' t' q' => xq_wp.ret (k := 1) (fun F => rfl) (hp R' t' q'))⟩⟩⟩⟩, fun I1 Q hp => xu_262_0 (d := 89) ⟨fun z => absurd z hm.1.1, fun _ => ⟨fun z => absurd z hm.1.2, fun _ => ⟨fun z => absurd z hm.2.1, fun _ => ⟨fun z => absurd z hm.2.2, fun _ => xl_262 (d := 83) ho h29 hw (by omega) ht (fun v' P' F' N' Y' => hp _ _ _ _ _ _ _ A30)⟩⟩⟩⟩⟩
  · exact ⟨Int32.ofInt (-1), fun Q hp => yt_145 (d := 89) ⟨fun z => hp _ htk h10, fun z1 => ⟨fun z => hp _ htk h10, fun z2 => ⟨fun z => hp _ htk h10, fun z3 => ⟨fun z => hp _ htk h10, fun z4 => absurd ⟨⟨z1, z2⟩, z3, z4⟩ hm⟩⟩⟩⟩, fun I1 Q hp => xu_262_0 (d := 89) ⟨fun z => hp _ _ _ _ _ _ _ (fun _ _ => rfl), fun z1 => ⟨fun z => hp _ _ _ _ _ _ _ (fun _ _ => rfl), fun z2 => ⟨fun z => hp _ _ _ _ _ _ _ (fun _ _ => rfl), fun z3 => ⟨fun z => hp _ _ _ _ _ _ _ (fun _ _ => rfl), fun z4 => absurd ⟨⟨z1, z2⟩, z3, z4⟩ hm⟩⟩⟩⟩⟩
theorem P26 : xq_P26 126 Inv := by
  intro ve
  refine th_pair (fun g J I n ns hi ho hw hC h29 htk h10 => ?_)
  by_cases hv : ¬ ve < nI 0 ∧ ve < nI 4
  · obtain ⟨t, ht, et⟩ := i_nat hv.1 hv.2 (by omega)
    subst et
    have q := i_in (n := 4) ht (by omega)
    refine ⟨_, fun Q hp => yt_147 (d := 89) ⟨fun z => absurd z q.1, fun _ => ⟨fun _ => yl_148 (d := 83) ho hC hw ht htk h10 (fun R' t' q' => xq_wp.ret (k := 1) (fun F => rfl) (hp R' t' q')), fun z => absurd q.2.2 z⟩⟩, fun I1 Q hp => xu_261_0 (d := 89) ⟨fun z => absurd z q.1, fun _ => ⟨fun z => ?_, fun _ => xl_261 (d := 82) ho h29 hw ht (fun v' P' F' N' Y' => hp _ _ _ _ _ _ _ A30)⟩⟩⟩
    rw [xn_lt (by omega) (by omega)] at z; omega
  · refine ⟨Int32.ofInt (-1), fun Q hp => yt_147 (d := 89) ⟨fun z => hp _ htk h10, fun z => ⟨fun z2 => absurd ⟨z, z2⟩ hv, fun z2 => hp _ htk h10⟩⟩, fun I1 Q hp => xu_261_0 (d := 89) ⟨fun z => hp _ _ _ _ _ _ _ (fun _ _ => rfl), fun z => ⟨fun z2 => hp _ _ _ _ _ _ _ (fun _ _ => rfl), fun z2 => ?_⟩⟩⟩
    exact absurd (i_out (n := 4) (fun y => hv ⟨z, y⟩) (by omega)) z2
theorem P27 : xq_P27 126 Inv := by
  intro w
  refine th_pair (fun g J I n ns hi ho hw hC h29 htk h10 => ?_)
  by_cases w0 : w = nI 0
  · subst w0
    exact ⟨th_help n (nI 0) (I 127), fun Q hp => yt_149 (d := 89) ⟨fun _ => ⟨fun z => absurd z (by decide), fun _ => yl_150 (d := 83) ho hC hw htk h10 (fun R' t' q' => xq_wp.ret (k := 2) (fun F => rfl) (hp R' t' q'))⟩, fun z => absurd rfl z⟩, fun I1 Q hp => xu_263_0 (d := 89) ⟨fun z => absurd z (by decide), fun _ => ⟨fun z => absurd z (by decide), fun _ => xl_263 (d := 80) (w := 0) (by omega) ho h29 hw (fun v' P' F' N' Y' => hp _ _ _ _ _ _ _ A30)⟩⟩⟩
  · by_cases w1 : w = nI 1
    · subst w1
      exact ⟨th_help n (nI 1) (I 127), fun Q hp => yt_149 (d := 89) ⟨fun z => absurd z w0, fun _ => ⟨fun _ => yl_150 (d := 83) ho hC hw htk h10 (fun R' t' q' => xq_wp.ret (k := 2) (fun F => rfl) (hp R' t' q')), fun z => absurd rfl z⟩⟩, fun I1 Q hp => xu_263_0 (d := 89) ⟨fun z => absurd z (by decide), fun _ => ⟨fun z => absurd z (by decide), fun _ => xl_263 (d := 80) (w := 1) (by omega) ho h29 hw (fun v' P' F' N' Y' => hp _ _ _ _ _ _ _ A30)⟩⟩⟩
    · refine ⟨Int32.ofInt (-1), fun Q hp => yt_149 (d := 89) ⟨fun z => absurd z w0, fun _ => ⟨fun z => absurd z w1, fun _ => hp _ htk h10⟩⟩, fun I1 Q hp => xu_263_0 (d := 89) ⟨fun z => hp _ _ _ _ _ _ _ (fun _ _ => rfl), fun z => ⟨fun z2 => hp _ _ _ _ _ _ _ (fun _ _ => rfl), fun z2 => ?_⟩⟩⟩
      exfalso
      obtain ⟨k, hk, ek⟩ := i_nat (n := 2) z (by
        have := mt Int32.lt_iff_toInt_lt.mpr z2
        rw [nI_toInt (by omega)] at this
        rw [Int32.lt_iff_toInt_lt, nI_toInt (by omega)]; omega) (by omega)
      have : k = 0 ∨ k = 1 := by omega
      rcases this with q | q
      · exact w0 (by rw [ek, q])
      · exact w1 (by rw [ek, q])
end xk_pr
