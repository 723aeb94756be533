/-! the model's rows: fields, w, pile, facts, went -/
abbrev xw : Type := Nat → Int32
def xm (I : Nat → xw) (A W P F N : xw) : Nat → xw := va_up (va_up (va_up (va_up (va_up I 136 P) 137 F) 138 N) 126 A) 127 W
theorem xm_self (I : Nat → xw) : xm I (I 126) (I 127) (I 136) (I 137) (I 138) = I := by
  funext a
  simp only [xm, va_up]
  repeat' split
  all_goals simp_all
section xq_xm
variable {I : Nat → xw} {A W P F N : xw} {j : Nat} {v : Int32}
theorem xm_127 : xq_w (xm I A W P F N) 127 j v = xm I A (upd W j v) P F N := by
  funext a; simp only [xq_w, xm, va_up]; repeat' split
  all_goals simp_all
theorem xm_126 : xq_w (xm I A W P F N) 126 j v = xm I (upd A j v) W P F N := by
  funext a; simp only [xq_w, xm, va_up]; repeat' split
  all_goals simp_all
theorem xm_136 : xq_w (xm I A W P F N) 136 j v = xm I A W (upd P j v) F N := by
  funext a; simp only [xq_w, xm, va_up]; repeat' split
  all_goals simp_all
theorem xm_137 : xq_w (xm I A W P F N) 137 j v = xm I A W P (upd F j v) N := by
  funext a; simp only [xq_w, xm, va_up]; repeat' split
  all_goals simp_all
theorem xm_138 : xq_w (xm I A W P F N) 138 j v = xm I A W P F (upd N j v) := by
  funext a; simp only [xq_w, xm, va_up]; repeat' split
  all_goals simp_all
end xq_xm
theorem xq_wp.hc {d m : Nat} {g : xq_V} {J : Nat → Nat → Int64} {I I' : Nat → xw} {pc : Nat} {L st : List Value} {Q : Option Value → xq_S → Prop} (e : I = I') (h : xq_wp d m (xq_s g J I') pc L st Q) : xq_wp d m (xq_s g J I) pc L st Q := by rw [e]; exact h
theorem xn_dec {t : Nat} (h : 1 ≤ t) : nI t + Int32.ofInt (-1) = nI (t - 1) := by
  obtain ⟨k, rfl⟩ : ∃ k, t = k + 1 := ⟨t - 1, by omega⟩
  exact pk_m1 k
theorem xq_wp.decr {d m : Nat} {x : xq_S} {pc k len a b c : Nat} {L st : List Value} {v : Int32} {Q : Option Value → xq_S → Prop} (hc : xq_code m pc = some (.iinc k (-1), len, a, b, c)) (hL : L[k]? = some (.int v)) (g : xq_wp d m x (pc + 3) (L.set k (.int (v + Int32.ofInt (-1)))) st Q) : xq_wp d m x pc L st Q := by
  refine xq_wp.step hc rfl (by simp only [xq_ret]) ?_ g
  simp only [xq_step, hL]
theorem xq_wp.dec {d m : Nat} {x : xq_S} {pc k len a b c : Nat} {L st : List Value} {t : Nat} {Q : Option Value → xq_S → Prop} (h : 1 ≤ t) (hc : xq_code m pc = some (.iinc k (-1), len, a, b, c)) (hL : L[k]? = some (.int (nI t))) (g : xq_wp d m x (pc + 3) (L.set k (.int (nI (t - 1)))) st Q) : xq_wp d m x pc L st Q := by
  refine xq_wp.decr hc hL ?_
  rw [xn_dec h]
  exact g
