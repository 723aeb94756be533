/-! THE IMAGE: the model's rows -/
def xiv (I : Nat → xw) (A W V : xw) : Nat → xw := va_up (va_up (va_up I 126 A) 127 W) 128 V
theorem xiv_self (I : Nat → xw) : xiv I (I 126) (I 127) (I 128) = I := by
  funext a
  simp only [xiv, va_up]
  repeat' split
  all_goals simp_all
section xq_xiv
variable {I : Nat → xw} {A W V : xw} {j : Nat} {v : Int32}
theorem xiv_126 : xq_w (xiv I A W V) 126 j v = xiv I (upd A j v) W V := by
  funext a; simp only [xq_w, xiv, va_up]; repeat' split
  all_goals simp_all
theorem xiv_127 : xq_w (xiv I A W V) 127 j v = xiv I A (upd W j v) V := by
  funext a; simp only [xq_w, xiv, va_up]; repeat' split
  all_goals simp_all
theorem xiv_128 : xq_w (xiv I A W V) 128 j v = xiv I A W (upd V j v) := by
  funext a; simp only [xq_w, xiv, va_up]; repeat' split
  all_goals simp_all
theorem xiv_o {a : Nat} (h : ¬ a = 126 ∧ ¬ a = 127 ∧ ¬ a = 128) : xiv I A W V a = I a := by
  unfold xiv
  rw [xv_ne h.2.2, xv_ne h.2.1, xv_ne h.1]
end xq_xiv
