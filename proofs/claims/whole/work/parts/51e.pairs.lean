/-! the pair: rank -/
section xk_p3
variable {g : xq_V} {J : Nat → Nat → Int64} {I I' R' : Nat → xw} {n ns : Nat} {W' : xw}
theorem xm_up : xm I (I 126) W' (I 136) (I 137) (I 138) = va_up I 127 W' := by
  funext a
  by_cases e : a = 127
  · subst e; unfold xm; rw [xv_eq, xv_eq]
  · rw [xv_ne e]
    have := congrFun (xm_self I) a
    unfold xm at this ⊢
    rw [xv_ne e] at this ⊢
    exact this
theorem xc_row {q : Bool} {i0 : Nat} (h : ∀ i, ¬ i = i0 → R' i = xcR q I i) {a : Nat} (ha : ¬ a = xid q i0) : xc q I R' a = I a := by
  by_cases e : ∃ i, i < 18 ∧ a = xid q i
  · obtain ⟨i, hi, e⟩ := e
    subst e
    rw [xc_in i hi, h i (fun z => ha (by rw [z]))]
    rfl
  · exact xc_out (fun i hi z => e ⟨i, hi, z⟩)
/-- the order, and that the soonest is not known -/
theorem iv_ord (h : iv g I) (hA : ivA n ns I') (h1 : I' 34 4 = nI 0) (hn : ∀ n' ns', ivA n' ns' I → n' = n ∧ ns' = ns) (e : ∀ a, ¬ a = 34 → ¬ a = 21 → ¬ a = 127 → I' a = I a) (eW : ∀ p, ¬ (30 ≤ p ∧ p < 44) → I' 127 p = I 127 p) : iv g I' := by
  obtain ⟨n0, ns0, hA0, hT, hP, hR, -, hH, hK, hJ⟩ := h
  obtain ⟨rfl, rfl⟩ := hn n0 ns0 hA0
  refine ⟨n0, ns0, hA, ivT_fr hT (fun j _ => by rw [e 46 (by omega) (by omega) (by omega)]) (fun j _ => by rw [e 47 (by omega) (by omega) (by omega)]), ?_, ivR_fr hR (e 104 (by omega) (by omega) (by omega)) (e 105 (by omega) (by omega) (by omega)) (e 135 (by omega) (by omega) (by omega)) (fun j _ => by rw [e 126 (by omega) (by omega) (by omega)]), Or.inl h1, ivH_fr hA.1.1.2.1 hH (fun a ha => e a (by omega) (by omega) (by omega)) (by rw [e 126 (by omega) (by omega) (by omega)]) (by unfold sp_ix; rw [eW 6 (by omega)]; exact Nat.le_refl _), ivK_fr2 hK (e 128 (by omega) (by omega) (by omega)) (fun a ha => e a (by omega) (by omega) (by omega)) (by rw [e 126 (by omega) (by omega) (by omega)]) (by rw [e 32 (by omega) (by omega) (by omega)]), hJ⟩
  unfold ivP at hP ⊢
  rw [e 14 (by omega) (by omega) (by omega), e 15 (by omega) (by omega) (by omega), e 16 (by omega) (by omega) (by omega), e 17 (by omega) (by omega) (by omega)]
  exact plR_fr hP (fun p hp => eW p (by omega))
theorem ivA_un {n n' ns ns' : Nat} (h : ivA n ns I) (h' : ivA n' ns' I) : n' = n ∧ ns' = ns := by
  have a := h.1.1
  have b := h'.1.1
  have a2 := a.2.1
  have a4 := a.2.2.2
  have b2 := b.2.1
  have b4 := b.2.2.2
  exact ⟨(xn_eq (by omega) (by omega)).mp (b.1.symm.trans a.1), (xn_eq (by omega) (by omega)).mp (b.2.2.1.symm.trans a.2.2.1)⟩
theorem P3 : xq_P3 126 Inv := by
  intro b k
  refine pair_of (fun g J I hi => ?_)
  have hi' := hi
  obtain ⟨n, ns, hA, hT, hP, hrest⟩ := hi'
  have hA' := hA
  obtain ⟨ho, hw, hbk, hC, h32, h29⟩ := hA'
  have n14 := ho.1.2.1
  have e0 : I 2 0 = nI n := (CR_G hC).1.trans ho.1.1
  refine zc_18 (d := 89) ?_
  have o34 : ∀ a, ¬ a = 34 → xq_w I 34 4 (nI 0) a = I a := fun a ha => xw_i ha
  have hC1 : CR true n ns (xq_w I 34 4 (nI 0)) (xcR true (xq_w I 34 4 (nI 0))) (I 127) := CR_cells hC (fun a ha => o34 a (by omega)) (by rw [o34 32 (by omega)])
  have es : xq_s g J (xq_w I 34 4 (nI 0)) = xq_s g J (xc true (xq_w I 34 4 (nI 0)) (xcR true (xq_w I 34 4 (nI 0)))) := by rw [← xc_self]
  have iv0 : iv g (xq_w I 34 4 (nI 0)) := by
    refine iv_ord (n := n) (ns := ns) hi ⟨?_, ?_, ?_, ?_, ?_, ?_⟩ rfl (fun n' ns' h' => ivA_un hA h') (fun a a1 a2 a3 => o34 a a1) (fun p hp => by rw [o34 127 (by omega)])
    · rw [o34 127 (by omega)]; exact ho
    · rw [o34 127 (by omega)]; exact hw
    · rw [o34 127 (by omega)]; exact hbk
    · rw [o34 127 (by omega)]; exact hC1
    · rw [o34 32 (by omega)]; exact h32
    · rw [o34 126 (by omega)]; exact h29
  have em : xq_s g J (xq_w I 34 4 (nI 0)) = xq_s g J (xm (xq_w I 34 4 (nI 0)) (I 126) (I 127) (I 136) (I 137) (I 138)) := congrArg (xq_s g J) (xm_self (xq_w I 34 4 (nI 0))).symm
  by_cases hv : (¬ b < nI 0 ∧ b < nI n) ∧ (¬ k < nI 0 ∧ k < nI n)
  · obtain ⟨x, hx, ex⟩ := i_nat hv.1.1 hv.1.2 (by omega)
    obtain ⟨t, ht, et⟩ := i_nat hv.2.1 hv.2.2 (by omega)
    subst ex et
    rw [e0, es]
    refine yl_19 (q := true) (d := 88) ho hC1 hx ht (fun fr R' hf ef C' r' => xq_wp.ret (k := 1) (fun F => rfl) ⟨_, g, J, _, rfl, rfl, ⟨_, rfl⟩, ?_⟩)
    have o1 : ∀ a, ¬ a = 21 → xc true (xq_w I 34 4 (nI 0)) R' a = xq_w I 34 4 (nI 0) a := fun a ha => xc_row (q := true) (i0 := 3) r' ha
    have em1 : xq_s g J (xc true (xq_w I 34 4 (nI 0)) R') = xq_s g J (xm (xc true (xq_w I 34 4 (nI 0)) R') (xc true (xq_w I 34 4 (nI 0)) R' 126) (I 127) (xc true (xq_w I 34 4 (nI 0)) R' 136) (xc true (xq_w I 34 4 (nI 0)) R' 137) (xc true (xq_w I 34 4 (nI 0)) R' 138)) := congrArg (xq_s g J) (xm_self (xc true (xq_w I 34 4 (nI 0)) R')).symm
    rw [em1]
    refine xl_164 (d := 88) ho hx ht (fun fr2 hf2 ef2 => ⟨rfl, g, J, _, rfl, ?_⟩)
    have : fr2 = fr := ho.2.2.2.1.2 fr2 fr hf2 hf (by rw [ef2, ef])
    subst this
    rw [xm_up]
    have o2 : ∀ a, ¬ a = 34 → ¬ a = 21 → ¬ a = 127 → va_up (xc true (xq_w I 34 4 (nI 0)) R') 127 (rkW n fr2 t (I 127)) a = I a := fun a a1 a2 a3 => by rw [xv_ne a3, o1 a a2, o34 a a1]
    have e127 : va_up (xc true (xq_w I 34 4 (nI 0)) R') 127 (rkW n fr2 t (I 127)) 127 = rkW n fr2 t (I 127) := xv_eq
    have rk : ∀ p, ¬ (30 ≤ p ∧ p < 30 + n) → rkW n fr2 t (I 127) p = I 127 p := fun p hp => by rw [rkW, if_neg hp]
    refine iv_ord (n := n) (ns := ns) hi ⟨?_, ?_, ?_, ?_, ?_, ?_⟩ ?_ (fun n' ns' h' => ivA_un hA h') o2 (fun p hp => by rw [e127, rk p (by omega)])
    · rw [e127]; exact ok_rk ho hf ht
    · rw [e127]; exact w9_fr hw (rk 2 (by omega))
    · rw [e127]; exact bkw_fr ho.2.1 hbk (rk 6 (by omega)) (fun p p1 p2 => rk p (by omega))
    · rw [e127]
      refine CR_at C' (fun a ha => ?_) (fun i hi => ?_) ?_
      · rw [xv_ne (by omega), o1 a (by omega)]
      · have hx2 : ¬ xid true i = 127 := by
          rcases i14 hi with e | e | e | e | e | e | e | e | e | e | e | e | e | e <;> (subst e; decide)
        rw [xv_ne hx2, xc_in i (by omega)]
      · rw [xv_ne (by omega)]
        exact congrFun (xc_in (q := true) (I := xq_w I 34 4 (nI 0)) (R := R') 9 (by omega)) 4
    · rw [o2 32 (by omega) (by omega) (by omega)]; exact h32
    · rw [o2 126 (by omega) (by omega) (by omega)]; exact h29
    · rw [xv_ne (by omega), o1 34 (by omega)]; rfl
  · rw [e0, es]
    refine yu_19x (q := true) (d := 89) ⟨fun z => ?_, fun z => ⟨fun z2 => ⟨fun z3 => ?_, fun z3 => ⟨fun z4 => absurd ⟨⟨z, z2⟩, z3, z4⟩ hv, fun z4 => ?_⟩⟩, fun z2 => ?_⟩⟩
    all_goals
      refine xq_wp.ret (k := 1) (fun F => rfl) ⟨_, g, J, xq_w I 34 4 (nI 0), rfl, es.symm, ⟨_, rfl⟩, ?_⟩
      rw [em]
      refine xu_164x (d := 88) ⟨fun z => ⟨rfl, g, J, _, rfl, ?_⟩, fun z => ⟨fun z2 => ⟨rfl, g, J, _, rfl, ?_⟩, fun z2 => ⟨fun z3 => ⟨rfl, g, J, _, rfl, ?_⟩, fun z3 => ⟨fun z4 => ⟨rfl, g, J, _, rfl, ?_⟩, fun z4 => ?_⟩⟩⟩⟩
      · rw [show xm (xq_w I 34 4 (nI 0)) (I 126) (I 127) (I 136) (I 137) (I 138) = xq_w I 34 4 (nI 0) from xm_self _]; exact iv0
      · rw [show xm (xq_w I 34 4 (nI 0)) (I 126) (I 127) (I 136) (I 137) (I 138) = xq_w I 34 4 (nI 0) from xm_self _]; exact iv0
      · rw [show xm (xq_w I 34 4 (nI 0)) (I 126) (I 127) (I 136) (I 137) (I 138) = xq_w I 34 4 (nI 0) from xm_self _]; exact iv0
      · rw [show xm (xq_w I 34 4 (nI 0)) (I 126) (I 127) (I 136) (I 137) (I 138) = xq_w I 34 4 (nI 0) from xm_self _]; exact iv0
      · exfalso
        rw [ho.1.1] at z2 z4
        exact hv ⟨⟨z, Classical.byContradiction fun y => z2 (i_out y (by omega))⟩, z3, Classical.byContradiction fun y => z4 (i_out y (by omega))⟩
end xk_p3
