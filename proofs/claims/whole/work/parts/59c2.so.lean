/-! a cell that is not of the thought's is written -/
theorem xc_ow {I R : Nat → xw} {a j : Nat} {v : Int32} (h : ¬ ((12 ≤ a ∧ a < 14) ∨ (35 ≤ a ∧ a < 44) ∨ (46 ≤ a ∧ a < 53))) : xq_w (xc false I R) a j v = xc false (xq_w I a j v) R := by
  have ha : ∀ i, i < 18 → ¬ a = xid false i := fun i hi e => by have := xid_f hi; omega
  refine xc_ext (fun i hi => ?_) (fun b hb => ?_)
  · rw [xw_i (fun e => ha i hi e.symm), xc_in i hi]
  · by_cases e : b = a
    · subst e; rw [xq_w, xv_eq, xq_w, xv_eq, xc_out hb]
    · rw [xw_i e, xw_i e, xc_out hb]
