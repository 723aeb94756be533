/-! weeks: the model's rows and what can be undone -/
def xkp (I : Nat → xw) (A W P F N K : xw) : Nat → xw := xm (va_up I 129 K) A W P F N
theorem xkp_self (I : Nat → xw) : xkp I (I 126) (I 127) (I 136) (I 137) (I 138) (I 129) = I := by
  funext a
  simp only [xkp, xm, va_up]
  repeat' split
  all_goals simp_all
section xq_xkp
variable {I : Nat → xw} {A W P F N K : xw} {j : Nat} {v : Int32}
theorem xkp_127 : xq_w (xkp I A W P F N K) 127 j v = xkp I A (upd W j v) P F N K := xm_127
theorem xkp_126 : xq_w (xkp I A W P F N K) 126 j v = xkp I (upd A j v) W P F N K := xm_126
theorem xkp_129 : xq_w (xkp I A W P F N K) 129 j v = xkp I A W P F N (upd K j v) := by
  funext a; simp only [xq_w, xkp, xm, va_up]; repeat' split
  all_goals simp_all
end xq_xkp
theorem xl_213T {d : Nat} {g : xq_V} {J : Nat → Nat → Int64} {I : Nat → Nat → Int32} {Q : Option Value → xq_S → Prop} {A W P F N K : xw} {n ns : Nat} (h : ok n ns W) (hp : ∀ (v' : Int32) (P' F' N' : xw), Q (some (.int (sp_week true (A 29) n W).2)) (xq_s g J (xkp I (upd A 30 v') (sp_week true (A 29) n W).1 P' F' N' K))) : xq_wp (d + 6) 213 (xq_s g J (xkp I A W P F N K)) 0 [.ref 126, .int (nI 1), xq_un, xq_un, xq_un] [] Q := xl_213 (truly := true) h hp
