/-! copies: rules for cells whose place is not told -/
section xq_cps
variable {d m : Nat} {x : xq_S} {pc : Nat} {L st : List Value} {Q : Option Value → xq_S → Prop}
theorem xq_wp.gfR {i0 len c k z o sz r : Nat} (hc : xq_code m pc = some (.getfield i0, len, c, k, z)) (hN : o < xq_N x) (hK : xq_K x o = (c, sz)) (hs : k < sz) (hf : xq_ft c k = 2) (hr : xq_R x o k = some r) (g : xq_wp d m x (pc + 3) L (.ref r :: st) Q) : xq_wp d m x pc L (.ref o :: st) Q := by
  refine xq_wp.step hc rfl (by simp only [xq_ret]) ?_ g
  simp only [xq_step, xq_getf, hN, hK, hs, decide_true, Bool.and_self, if_true, hf, hr, xq_rv]
theorem xq_wp.gfI {i0 len c k z o sz : Nat} (hc : xq_code m pc = some (.getfield i0, len, c, k, z)) (hN : o < xq_N x) (hK : xq_K x o = (c, sz)) (hs : k < sz) (hf : xq_ft c k = 0) (g : xq_wp d m x (pc + 3) L (.int (x.2.2 o k) :: st) Q) : xq_wp d m x pc L (.ref o :: st) Q := by
  refine xq_wp.step hc rfl (by simp only [xq_ret]) ?_ g
  simp only [xq_step, xq_getf, hN, hK, hs, decide_true, Bool.and_self, if_true, hf, if_neg (show ¬ (0 : Nat) = 2 by omega)]
theorem xq_wp.pfI {i0 len c k z o sz : Nat} {v : Int32} (hc : xq_code m pc = some (.putfield i0, len, c, k, z)) (hN : o < xq_N x) (hK : xq_K x o = (c, sz)) (hs : k < sz) (hf : xq_ft c k = 0) (g : ∀ I' : Nat → xw, (∀ t, ¬ t = o → I' t = x.2.2 t) → (∀ j, ¬ j = k → I' o j = x.2.2 o j) → I' o k = v → xq_wp d m (x.1, x.2.1, I') (pc + 3) L st Q) : xq_wp d m x pc L (.int v :: .ref o :: st) Q := by
  refine xq_wp.step (x' := (x.1, x.2.1, xq_w x.2.2 o k v)) hc rfl (by simp only [xq_ret]) ?_ (g _ (fun t ht => xv_ne ht) (fun j hj => ?_) ?_)
  · simp only [xq_step, xq_putf, hN, hK, hs, decide_true, Bool.and_self, Bool.true_or, if_true, hf, xq_setI, xq_w]
  · rw [xq_w, xv_eq, upd_ne hj]
  · rw [xq_w, xv_eq, upd_eq]
theorem nI_nn {n : Nat} (h : n < 2147483648) : decide (nI n < 0) = false := by
  rw [decide_eq_false_iff_not, show (0 : Int32) = nI 0 from rfl, xn_lt h (by omega)]; omega
theorem xq_wp.cpy {i0 len b c s dd n zd zs : Nat} (hc : xq_code m pc = some (.invokestatic i0, len, 1001, b, c)) (h1 : dd < xq_N x) (h2 : s < xq_N x) (h3 : xq_K x dd = (100, zd)) (h4 : xq_K x s = (100, zs)) (h5 : n ≤ zs) (h6 : n ≤ zd) (hz : zs < 2147483648) (hr : xq_room st = true) (hds : ¬ dd = s) (g : ∀ I' : Nat → xw, (∀ t, ¬ t = dd → I' t = x.2.2 t) → (∀ j, j < n → I' dd j = x.2.2 s j) → xq_wp d m (x.1, x.2.1, I') (pc + 3) L st Q) : xq_wp d m x pc L (.int (nI n) :: .int (nI 0) :: .ref dd :: .int (nI 0) :: .ref s :: st) Q := by
  refine xq_wp.step (x' := (x.1, x.2.1, va_up x.2.2 dd (va_cpy (x.2.2 s) (x.2.2 dd) 0 0 n))) hc rfl (by simp only [xq_ret]) ?_ (g _ (fun t ht => xv_ne ht) (fun j hj => ?_))
  · have e0 : (nI 0).toNatClampNeg = 0 := rfl
    have en : (nI n).toNatClampNeg = n := nI_clamp (by omega)
    simp only [xq_step, xq_self, hr, h1, h2, h3, h4, decide_true, Bool.and_self, nI_nn (show n < 2147483648 by omega), nI_nn (show 0 < 2147483648 by omega), Bool.not_false, e0, en, Nat.zero_add, h5, h6, if_true]
  · rw [xv_eq]
    unfold va_cpy
    rw [if_pos ⟨by omega, by omega⟩, show 0 + (j - 0) = j by omega]
end xq_cps
/-- the shape of a site, a ground, a law, a plan, a book that begins at a cell -/
def yS : List (Nat × Nat) := [(6, 15), (100, 12), (100, 4), (100, 14), (100, 14), (100, 14), (100, 14), (100, 14), (100, 70)]
def yG : List (Nat × Nat) := [(1, 8), (100, 14), (100, 14), (100, 14), (100, 14), (100, 8), (100, 8)]
def yL : List (Nat × Nat) := [(2, 6), (100, 400), (100, 16), (100, 40), (100, 8)]
def yP : List (Nat × Nat) := [(4, 4), (100, 100), (100, 100), (100, 100)]
def yB : List (Nat × Nat) := [(0, 6), (100, 200), (100, 200), (100, 200), (100, 200)]
def shS (x : xq_S) (a : Nat) : Prop := (∀ j, j < 9 → a + j < xq_N x ∧ xq_K x (a + j) = yS.getD j (0, 0)) ∧ ∀ j, j < 8 → xq_R x a j = some (a + (1 + j))
def shG (x : xq_S) (a : Nat) : Prop := (∀ j, j < 7 → a + j < xq_N x ∧ xq_K x (a + j) = yG.getD j (0, 0)) ∧ xq_R x a 1 = some (a + 1) ∧ xq_R x a 2 = some (a + 2) ∧ xq_R x a 3 = some (a + 3) ∧ xq_R x a 4 = some (a + 4) ∧ xq_R x a 6 = some (a + 5) ∧ xq_R x a 7 = some (a + 6)
def shL (x : xq_S) (a : Nat) : Prop := (∀ j, j < 5 → a + j < xq_N x ∧ xq_K x (a + j) = yL.getD j (0, 0)) ∧ xq_R x a 2 = some (a + 1) ∧ xq_R x a 3 = some (a + 2)
def shP (x : xq_S) (a : Nat) : Prop := (∀ j, j < 4 → a + j < xq_N x ∧ xq_K x (a + j) = yP.getD j (0, 0)) ∧ xq_R x a 1 = some (a + 1) ∧ xq_R x a 2 = some (a + 2) ∧ xq_R x a 3 = some (a + 3)
def shB (x : xq_S) (a : Nat) : Prop := (∀ j, j < 5 → a + j < xq_N x ∧ xq_K x (a + j) = yB.getD j (0, 0)) ∧ xq_R x a 2 = some (a + 1) ∧ xq_R x a 3 = some (a + 2) ∧ xq_R x a 4 = some (a + 3) ∧ xq_R x a 5 = some (a + 4)
