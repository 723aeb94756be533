/-! ways: rules for rows of longs -/
section xk_ru
variable {d m : Nat} {x : xq_S} {pc : Nat} {L r : List Value} {Q : Option Value → xq_S → Prop}
theorem xq_wp.ldJ {len b c a0 a n i : Nat} (hc : xq_code m pc = some (.laload, len, a0, b, c)) (h1 : a < xq_tB) (h2 : a < xq_N x) (h3 : xq_K x a = (101, n)) (hi : i < n) (hn : n ≤ 2147483648) (q : xq_wp d m x (pc + 1) L (.long (xq_J x a i) :: r) Q) : xq_wp d m x pc L (.int (nI i) :: .ref a :: r) Q := by
  refine xq_wp.step hc rfl (by simp only [xq_ret]) ?_ q
  have e4 := xn_in hi hn
  simp only [xq_step, xq_aload, if_pos h1, h2, h3, e4, decide_true, Bool.and_self, if_true, nI_clamp (show i < 2 ^ 31 by omega)]
  rfl
theorem xq_wp.stJ {len b c a0 a n i : Nat} {v : Int64} (hc : xq_code m pc = some (.lastore, len, a0, b, c)) (h2 : a < xq_N x) (h3 : xq_K x a = (101, n)) (hi : i < n) (hn : n ≤ 2147483648) (q : xq_wp d m (xq_setJ x a i v) (pc + 1) L r Q) : xq_wp d m x pc L (.long v :: .int (nI i) :: .ref a :: r) Q := by
  refine xq_wp.step hc rfl (by simp only [xq_ret]) ?_ q
  have e4 := xn_in hi hn
  simp only [xq_step, xq_astore, h2, h3, e4, decide_true, Bool.and_self, if_true, nI_clamp (show i < 2 ^ 31 by omega)]
theorem xq_wp.lnJ {len b c a0 a n : Nat} (hc : xq_code m pc = some (.arraylength, len, a0, b, c)) (h1 : a < xq_tB) (h2 : a < xq_N x) (h3 : xq_K x a = (101, n)) (q : xq_wp d m x (pc + 1) L (.int (nI n) :: r) Q) : xq_wp d m x pc L (.ref a :: r) Q := by
  refine xq_wp.step hc rfl (by simp only [xq_ret]) ?_ q
  simp only [xq_step, xq_alen, if_pos h1, h2, h3, decide_true, Bool.and_self, if_true]
  rfl
theorem xq_wp.flJ {i0 len b c a n : Nat} {v : Int64} (hc : xq_code m pc = some (.invokestatic i0, len, 1005, b, c)) (hr : xq_room r = true) (h2 : a < xq_N x) (h3 : xq_K x a = (101, n)) (hn : n < 1000000) (q : xq_wp d m (x.1, va_up x.2.1 a (fun j => if j < n then v else x.2.1 a j), x.2.2) (pc + 3) L r Q) : xq_wp d m x pc L (.long v :: .ref a :: r) Q := by
  refine xq_wp.step hc rfl (by simp only [xq_ret]) ?_ q
  simp only [xq_step, xq_self, hr, h2, h3, hn, decide_true, Bool.and_self, if_true]
theorem xq_wp.mkJ {len a b z n : Nat} (hc : xq_code m pc = some (.newarray .long, len, a, b, z)) (hn : n ≤ 1000000) (hN : xq_N x < 100000) (q : xq_wp d m (xq_new x 101 n) (pc + 2) L (.ref (xq_N x) :: r) Q) : xq_wp d m x pc L (.int (nI n) :: r) Q := by
  refine xq_wp.step (x' := xq_new x 101 n) hc rfl (by simp only [xq_ret]) ?_ q
  have h1 : (nI n).toNatClampNeg = n := nI_clamp (by omega)
  have h2 : decide (nI n < 0) = false := nI_nn (by omega)
  simp only [xq_step, xq_newa, h1, h2, hn, hN, decide_true, Bool.not_false, Bool.and_self, if_true]
theorem xq_wp.pfR0 {i0 len c k z o sz w : Nat} (hc : xq_code m pc = some (.putfield i0, len, c, k, z)) (hN : o < xq_N x) (hr : w < xq_sB) (hK : xq_K x o = (c, sz)) (hs : k < sz) (hf : xq_ft c k = 2) (q : xq_wp d m (xq_setR x o k (some w)) (pc + 3) L r Q) : xq_wp d m x pc L (.ref w :: .ref o :: r) Q := by
  refine xq_wp.step (x' := xq_setR x o k (some w)) hc rfl (by simp only [xq_ret]) ?_ q
  simp only [xq_step, xq_putf, hN, hr, hK, hs, decide_true, Bool.and_self, if_true, hf]
end xk_ru
/-- a row of longs -/
def lok (g : xq_V) (o n : Nat) : Prop := o < 100000 ∧ o < g.1 + 143 ∧ (xq_sp g).2.2.1 o = (101, n) ∧ n < 1000000
theorem lok_m {g : xq_V} : lok g 141 16384 := ⟨by omega, by omega, rfl, by omega⟩
section xk_rl
variable {d m : Nat} {g : xq_V} {J : Nat → Nat → Int64} {I : Nat → xw} {T : Nat → Int64} {pc o n : Nat} {L r : List Value} {Q : Option Value → xq_S → Prop}
theorem lok_t (h : lok g o n) : o < xq_tB := Nat.lt_trans h.1 (by decide)
theorem xq_wp.lld {len b c a0 i : Nat} {z : Int32} (h : lok g o n) (e : z = nI i) (hc : xq_code m pc = some (.laload, len, a0, b, c)) (q : i < n ∧ xq_wp d m (xq_s g (va_up J o T) I) (pc + 1) L (.long (T i) :: r) Q) : xq_wp d m (xq_s g (va_up J o T) I) pc L (.int z :: .ref o :: r) Q := by
  subst e
  have hn := h.2.2.2
  refine xq_wp.ldJ hc (lok_t h) h.2.1 h.2.2.1 q.1 (by omega) ?_
  have : xq_J (xq_s g (va_up J o T) I) o = T := xv_eq
  rw [this]
  exact q.2
theorem xq_wp.lst {len b c a0 i : Nat} {z : Int32} {v : Int64} (h : lok g o n) (e : z = nI i) (hc : xq_code m pc = some (.lastore, len, a0, b, c)) (q : i < n ∧ xq_wp d m (xq_s g (va_up J o (vp_updL T i v)) I) (pc + 1) L r Q) : xq_wp d m (xq_s g (va_up J o T) I) pc L (.long v :: .int z :: .ref o :: r) Q := by
  subst e
  have hn := h.2.2.2
  refine xq_wp.stJ hc h.2.1 h.2.2.1 q.1 (by omega) ?_
  have : xq_setJ (xq_s g (va_up J o T) I) o i v = xq_s g (va_up J o (vp_updL T i v)) I := by
    unfold xq_setJ
    have e1 : va_up (va_up J o T) o (vp_updL (va_up J o T o) i v) = va_up J o (vp_updL T i v) := by
      funext a
      by_cases q : a = o
      · subst q; rw [xv_eq, xv_eq, xv_eq]
      · rw [xv_ne q, xv_ne q, xv_ne q]
    show ((xq_s g (va_up J o T) I).1, va_up (va_up J o T) o (vp_updL (va_up J o T o) i v), I) = _
    rw [e1]
  rw [this]
  exact q.2
theorem xq_wp.lln {len b c a0 : Nat} (h : lok g o n) (hc : xq_code m pc = some (.arraylength, len, a0, b, c)) (q : xq_wp d m (xq_s g (va_up J o T) I) (pc + 1) L (.int (nI n) :: r) Q) : xq_wp d m (xq_s g (va_up J o T) I) pc L (.ref o :: r) Q := xq_wp.lnJ hc (lok_t h) h.2.1 h.2.2.1 q
theorem xq_wp.lfl {i0 len b c : Nat} {v : Int64} (h : lok g o n) (hc : xq_code m pc = some (.invokestatic i0, len, 1005, b, c)) (hr : xq_room r = true) (q : xq_wp d m (xq_s g (va_up J o (fun j => if j < n then v else T j)) I) (pc + 3) L r Q) : xq_wp d m (xq_s g (va_up J o T) I) pc L (.long v :: .ref o :: r) Q := by
  refine xq_wp.flJ hc hr h.2.1 h.2.2.1 h.2.2.2 ?_
  have e1 : va_up (va_up J o T) o (fun j => if j < n then v else va_up J o T o j) = va_up J o (fun j => if j < n then v else T j) := by
    funext a
    by_cases q : a = o
    · subst q; rw [xv_eq, xv_eq, xv_eq]
    · rw [xv_ne q, xv_ne q, xv_ne q]
  show xq_wp d m ((xq_s g (va_up J o T) I).1, va_up (va_up J o T) o (fun j => if j < n then v else va_up J o T o j), I) (pc + 3) L r Q
  rw [e1]
  exact q
theorem jv_self : va_up J o (J o) = J := by
  funext a
  by_cases q : a = o
  · subst q; rw [xv_eq]
  · rw [xv_ne q]
theorem updL_eq {i : Nat} {v : Int64} : vp_updL T i v i = v := by simp only [vp_updL, if_true]
theorem updL_ne {i j : Nat} {v : Int64} (h : ¬ j = i) : vp_updL T i v j = T j := by simp only [vp_updL, if_neg h]
end xk_rl
