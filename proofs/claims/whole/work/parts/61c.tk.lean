/-! text: the reader at a token; words -/
section xk_str
variable {d m : Nat} {x : xq_S} {pc : Nat} {L r : List Value} {Q : Option Value → xq_S → Prop} {w : Nat}
theorem xq_wp.sln {i0 len b c : Nat} (hw : w < 32) (hc : xq_code m pc = some (.invokevirtual i0, len, 1003, b, c)) (hr : xq_room r = true) (q : xq_wp d m x (pc + 3) L (.int (nI (xq_tx.getD w []).length) :: r) Q) : xq_wp d m x pc L (.ref (w + 1000000) :: r) Q := by
  refine xq_wp.step hc rfl (by simp only [xq_ret]) ?_ q
  have e1 : xq_sB ≤ w + 1000000 := Nat.le_add_left _ _
  have e2 : w + 1000000 - xq_sB = w := Nat.add_sub_cancel w 1000000
  simp only [xq_step, xq_self, hr, e1, e2, hw, decide_true, Bool.and_self, if_true]
theorem xq_wp.sch {i0 len b c k : Nat} (hw : w < 32) (hc : xq_code m pc = some (.invokevirtual i0, len, 1004, b, c)) (hr : xq_room r = true) (q : k < (xq_tx.getD w []).length ∧ xq_wp d m x (pc + 3) L (.int ((xq_tx.getD w []).getD k 0) :: r) Q) : xq_wp d m x pc L (.int (nI k) :: .ref (w + 1000000) :: r) Q := by
  have hl : (xq_tx.getD w []).length ≤ 10 := (by decide +kernel : ∀ w, w < 32 → (xq_tx.getD w []).length ≤ 10) w hw
  refine xq_wp.step hc rfl (by simp only [xq_ret]) ?_ q.2
  have e1 : xq_sB ≤ w + 1000000 := Nat.le_add_left _ _
  have e2 : w + 1000000 - xq_sB = w := Nat.add_sub_cancel w 1000000
  have e3 := xn_in q.1 (by omega)
  have e4 : (nI k).toNatClampNeg = k := nI_clamp (by omega)
  simp only [xq_step, xq_self, hr, e1, e2, hw, e3, e4, decide_true, Bool.and_self, if_true]
end xk_str
/-- the class's reader at token i -/
def rs (I : Nat → xw) (i : Nat) : Nat → xw := xq_w I 104 7 (nI i)
/-- the words of the texts, and their numbers -/
def kw (r : Nat) : List (Nat × Nat) := if r = 0 then [(0, 8), (1, 9), (3, 10), (2, 11), (4, 12), (5, 5)] else if r = 1 then [(6, 20), (7, 21), (8, 22), (9, 23)] else if r = 2 then [(19, 3), (21, 4), (5, 5), (20, 6), (10, 7), (11, 41), (12, 42), (13, 43), (14, 44), (15, 45), (16, 46), (17, 47), (18, 48)] else [(23, 24), (24, 25), (25, 26), (26, 27), (27, 28), (28, 29), (29, 30), (30, 31), (22, 32), (31, 33)]
def cTi (r : Nat) (I : Nat → xw) (c v s i : Nat) : Prop := I 107 i = nI s ∧ (I 106 i = nI 0 ↔ c = 0) ∧ (I 106 i = nI 1 ↔ c = 2) ∧ (c = 2 → I 109 i = nI v ∧ v ≤ 9999) ∧ (∀ k, k < 128 → ((I 106 i = nI 3 ∧ I 109 i = nI k) ↔ c = 100 + k)) ∧ (I 106 i = nI 2 → ∃ z, I 108 i = nI z ∧ z ≤ 400 ∧ s + z ≤ 400 ∧ ∀ w K, (w, K) ∈ kw r → ((z = (xq_tx.getD w []).length ∧ ∀ k, k < z → I 105 (s + k) = (xq_tx.getD w []).getD k 0) ↔ c = K)) ∧ (¬ I 106 i = nI 2 → ∀ w K, (w, K) ∈ kw r → ¬ c = K)
/-- the class's tokens, text r: their numbers, values, places -/
def cT (r : Nat) (I : Nat → xw) (t : Nat) (tc vl ss : Nat → Nat) : Prop := t ≤ 400 ∧ I 104 6 = nI t ∧ (∀ i, i ≤ t → (tc i = 0 ↔ i = t)) ∧ ∀ i, i ≤ t → cTi r I (tc i) (vl i) (ss i) i
section xk_rs
variable {r : Nat} {I I' : Nat → xw} {t i j a : Nat} {v : Int32} {tc vl ss : Nat → Nat}
theorem rs_at : xq_w (rs I i) 104 7 (nI j) = rs I j := by
  funext b k
  by_cases e : b = 104
  · subst e
    by_cases e2 : k = 7
    · subst e2; rw [xw_v, rs, xw_v]
    · rw [xw_x e2, rs, rs, xw_x e2, xw_x e2]
  · rw [xw_i e, rs, rs, xw_i e, xw_i e]
theorem rs_w (h : ¬ (a = 104 ∧ j = 7)) : xq_w (rs I i) a j v = rs (xq_w I a j v) i := by
  unfold rs
  funext b k
  by_cases e : b = a
  · subst e
    by_cases e2 : k = j
    · subst e2
      rw [xw_v]
      by_cases e3 : b = 104
      · subst e3; rw [xw_x (fun z => h ⟨rfl, z⟩), xw_v]
      · rw [xw_i e3, xw_v]
    · rw [xw_x e2]
      by_cases e3 : b = 104
      · subst e3
        by_cases e4 : k = 7
        · subst e4; rw [xw_v, xw_v]
        · rw [xw_x e4, xw_x e4, xw_x e2]
      · rw [xw_i e3, xw_i e3, xw_x e2]
  · rw [xw_i e]
    by_cases e3 : b = 104
    · subst e3
      by_cases e4 : k = 7
      · subst e4; rw [xw_v, xw_v]
      · rw [xw_x e4, xw_x e4, xw_i e]
    · rw [xw_i e3, xw_i e3, xw_i e]
theorem rs_self (h : I 104 7 = nI i) : rs I i = I := by
  unfold rs
  funext b k
  by_cases e : b = 104
  · subst e
    by_cases e4 : k = 7
    · subst e4; rw [xw_v, h]
    · rw [xw_x e4]
  · rw [xw_i e]
theorem rs_o (h : ¬ a = 104) : rs I i a = I a := xw_i h
theorem rs_x (h : ¬ j = 7) : rs I i 104 j = I 104 j := xw_x h
theorem rs_i : rs I i 104 7 = nI i := xw_v
theorem cT_fr (h : cT r I t tc vl ss) (e6 : I' 104 6 = I 104 6) (e : ∀ a, 105 ≤ a → a < 110 → I' a = I a) : cT r I' t tc vl ss := by
  unfold cT cTi at h ⊢
  rw [e6, e 105 (by omega) (by omega), e 106 (by omega) (by omega), e 107 (by omega) (by omega), e 108 (by omega) (by omega), e 109 (by omega) (by omega)]
  exact h
theorem cT_w (ha : ¬ (105 ≤ a ∧ a < 110) ∧ ¬ (a = 104 ∧ j = 6)) (h : cT r I t tc vl ss) : cT r (xq_w I a j v) t tc vl ss := by
  refine cT_fr h ?_ (fun b b1 b2 => xw_i (by omega))
  by_cases e : a = 104
  · subst e; exact xw_x (fun z => ha.2 ⟨rfl, z.symm⟩)
  · rw [xw_i (fun z => e z.symm)]
end xk_rs
