/-! THE IMAGE: rules for what is made, over any state -/
section xk_mk
variable {d m pc : Nat} {x : xq_S} {L st : List Value} {Q : Option Value → xq_S → Prop}
/-- all but one cell is as it was -/
def frC (x x' : xq_S) (o : Nat) : Prop := ∀ a, ¬ a = o → xq_K x' a = xq_K x a ∧ xq_R x' a = xq_R x a ∧ xq_J x' a = xq_J x a ∧ xq_I x' a = xq_I x a
theorem frC_new {c n : Nat} : frC x (xq_new x c n) (xq_N x) := fun a ha => ⟨xv_ne ha, xv_ne ha, xv_ne ha, xv_ne ha⟩
theorem xq_wp.mkO {i0 len c b z n : Nat} (hc : xq_code m pc = some (.new i0, len, c, b, z)) (h13 : c < 13) (hn : (xq_ftl.getD c []).length = n) (hN : xq_N x < 100000) (g : ∀ x' : xq_S, xq_N x' = xq_N x + 1 → xq_Z x' = xq_Z x + n → frC x x' (xq_N x) → xq_K x' (xq_N x) = (c, n) → (∀ j, xq_I x' (xq_N x) j = 0) → xq_wp d m x' (pc + 3) L (.ref (xq_N x) :: st) Q) : xq_wp d m x pc L st Q := by
  subst hn
  refine xq_wp.step (x' := xq_new x c (xq_ftl.getD c []).length) hc rfl (by simp only [xq_ret]) ?_ (g _ rfl rfl frC_new xv_eq (fun j => congrFun (xv_eq (f := x.2.2)) j))
  simp only [xq_step, xq_obj, h13, hN, decide_true, Bool.and_self, if_true]
theorem xq_wp.mkI {len a b z n : Nat} (hc : xq_code m pc = some (.newarray .int, len, a, b, z)) (hn : n ≤ 1000000) (hN : xq_N x < 100000) (g : ∀ x' : xq_S, xq_N x' = xq_N x + 1 → xq_Z x' = xq_Z x + n → frC x x' (xq_N x) → xq_K x' (xq_N x) = (100, n) → (∀ j, xq_I x' (xq_N x) j = 0) → xq_wp d m x' (pc + 2) L (.ref (xq_N x) :: st) Q) : xq_wp d m x pc L (.int (nI n) :: st) Q := by
  refine xq_wp.step (x' := xq_new x 100 n) hc rfl (by simp only [xq_ret]) ?_ (g _ rfl rfl frC_new xv_eq (fun j => congrFun (xv_eq (f := x.2.2)) j))
  have h1 : (nI n).toNatClampNeg = n := nI_clamp (by omega)
  have h2 : decide (nI n < 0) = false := nI_nn (by omega)
  simp only [xq_step, xq_newa, h1, h2, hn, hN, decide_true, Bool.not_false, Bool.and_self, if_true]
theorem xq_wp.pfR {i0 len c k z o sz r : Nat} (hc : xq_code m pc = some (.putfield i0, len, c, k, z)) (hN : o < xq_N x) (hr : r < xq_sB) (hK : xq_K x o = (c, sz)) (hs : k < sz) (hf : xq_ft c k = 2) (g : ∀ x' : xq_S, xq_N x' = xq_N x → xq_Z x' = xq_Z x → frC x x' o → xq_K x' o = xq_K x o → xq_J x' o = xq_J x o → xq_I x' o = xq_I x o → (∀ j, ¬ j = k → xq_R x' o j = xq_R x o j) → xq_R x' o k = some r → xq_wp d m x' (pc + 3) L st Q) : xq_wp d m x pc L (.ref r :: .ref o :: st) Q := by
  refine xq_wp.step (x' := xq_setR x o k (some r)) hc rfl (by simp only [xq_ret]) ?_ (g _ rfl rfl (fun a ha => ⟨rfl, xv_ne ha, rfl, rfl⟩) rfl rfl rfl (fun j hj => ?_) ?_)
  · simp only [xq_step, xq_putf, hN, hr, hK, hs, decide_true, Bool.and_self, if_true, hf]
  · show va_up (xq_R x) o (va_up (xq_R x o) k (some r)) o j = xq_R x o j
    rw [xv_eq, xv_ne hj]
  · show va_up (xq_R x) o (va_up (xq_R x o) k (some r)) o k = some r
    rw [xv_eq, xv_eq]
end xk_mk
/-- what is left, gathered -/
theorem pairs_of (p6 : xq_P6 126 Inv) (p16 : xq_P16 126 Inv) (p21 : xq_P21 126 Inv) (al : imNew) : xq_Pairs 126 Inv := ⟨P0, P1, P2, P3, P4, P5, p6, P7, P8, P9, P10, P11, P12, P13, P14, P15, p16, P17, P18, P19, P20, p21, P22, P23, P24, P25, P26, P27, P28, P29_of al, P30⟩
theorem start_of {p : Program} {e : Env} {s : State} {m : MethodId} {below : List Frame} {meth : Method} {c : Code} (l : Launch) {b L : Nat} {xs : Nat → Int32} (p6 : xq_P6 126 Inv) (p16 : xq_P16 126 Inv) (p21 : xq_P21 126 Inv) (al : imNew) (hL : L ≤ 3072) (C0 : lw_At p s m meth c b L xs) : W p l e room_1 s m #[Value.ref b] below meth c s.heap [] 0 0 (lw_Z below #[Value.ref b] s) (entryFrame m ([Value.ref b] : List Value).toArray 4) := xq_whole l hL C0 Init Inv_fit (pairs_of p6 p16 p21 al)
