/-! runs that end in what is asked for -/
/-- what the shape lets vary: cells and slots, sorts and references of later cells, THE IMAGE's yard, the row of counts -/
abbrev xq_V : Type := Nat × Nat × (Nat → Nat × Nat) × (Nat → Nat → Option Nat) × Option Nat × Option Nat
def xq_sp (g : xq_V) : xq_G := (g.1 + 143, g.2.1, fun a => if a < 143 then xq_K0.getD a (0, 0) else g.2.2.1 a, fun a j => if a < 143 then (if a = 0 ∧ j = 9 then g.2.2.2.2.1 else if a = 53 ∧ j = 1 then g.2.2.2.2.2 else (xq_R0.getD a []).getD j none) else g.2.2.2.1 a j)
abbrev xq_s (g : xq_V) (J : Nat → Nat → Int64) (I : Nat → Nat → Int32) : xq_S := (xq_sp g, J, I)
def xq_w (I : Nat → Nat → Int32) (a j : Nat) (v : Int32) : Nat → Nat → Int32 := va_up I a (upd (I a) j v)
def xq_wp (d m : Nat) (x : xq_S) (pc : Nat) (L st : List Value) (Q : Option Value → xq_S → Prop) : Prop := ∃ F v x1, xq_x F d m x pc L st = some (v, x1) ∧ Q v x1
section xq_wps
variable {d m : Nat} {x x' : xq_S} {pc pc' : Nat} {L L' st st' : List Value} {Q Q' : Option Value → xq_S → Prop} {k : Nat}
theorem xq_wp.go (h : ∀ F, xq_x (F + k) d m x pc L st = xq_x F d m x' pc' L' st') (g : xq_wp d m x' pc' L' st' Q) : xq_wp d m x pc L st Q := by
  obtain ⟨F, v, x1, hF, hQ⟩ := g
  exact ⟨F + k, v, x1, by rw [h F]; exact hF, hQ⟩
theorem xq_wp.ret {v : Option Value} {x1 : xq_S} (h : ∀ F, xq_x (F + k) d m x pc L st = some (v, x1)) (q : Q v x1) : xq_wp d m x pc L st Q := ⟨0 + k, v, x1, h 0, q⟩
theorem xq_wp.mono (g : xq_wp d m x pc L st Q) (h : ∀ v x1, Q v x1 → Q' v x1) : xq_wp d m x pc L st Q' := by
  obtain ⟨F, v, x1, hF, hQ⟩ := g
  exact ⟨F, v, x1, hF, h v x1 hQ⟩
theorem xq_wp.br {p : Prop} [Decidable p] {t q : Nat} (h : ∀ F, xq_x (F + k) d m x pc L st = xq_x F d m x' (if decide p = true then t else q) L' st') (g : (p → xq_wp d m x' t L' st' Q) ∧ (¬ p → xq_wp d m x' q L' st' Q)) : xq_wp d m x pc L st Q := by
  by_cases hp : p
  · refine xq_wp.go h ?_
    rw [if_pos (decide_eq_true hp)]
    exact g.1 hp
  · refine xq_wp.go h ?_
    rw [if_neg (by rw [decide_eq_false hp]; decide)]
    exact g.2 hp
theorem xq_wp.call {As r : List Value} {i : Instr} {len a b c : Nat} (hc : xq_code m pc = some (i, len, a, b, c)) (hcl : xq_isCall i a = true) (ha : xq_args b st = some (As, r)) (hr : (xq_room r && xq_rc i x (xq_ow a) As) = true) (g : xq_wp d a x 0 (As ++ List.replicate (c - b) xq_un) [] (fun v x1 => xq_wp (d + 1) m x1 (pc + 3) L (v.toList ++ r) Q)) : xq_wp (d + 1) m x pc L st Q := by
  obtain ⟨F1, v, x1, h1, F2, v2, x2, h2, hQ⟩ := g
  refine ⟨F1 + F2 + 1, v2, x2, ?_, hQ⟩
  unfold xq_x
  rw [hc]
  dsimp only
  rw [if_pos hcl, ha]
  dsimp only
  rw [if_pos hr, xq_moreN h1 F2]
  dsimp only
  rw [Nat.add_comm F1 F2]
  exact xq_moreN h2 F1
theorem xq_wp.step {i : Instr} {len a b c : Nat} (hc : xq_code m pc = some (i, len, a, b, c)) (hcl : xq_isCall i a = false) (hr : xq_ret i (xq_rt m) st = none) (hs : xq_step i a b pc x L st = some (pc', x', L', st')) (g : xq_wp d m x' pc' L' st' Q) : xq_wp d m x pc L st Q := by
  refine xq_wp.go (k := 1) (fun F => ?_) g
  show xq_x (F + 1) d m x pc L st = _
  rw [xq_x, hc]
  dsimp only
  rw [if_neg (by rw [hcl]; decide), hr]
  dsimp only
  rw [hs]
theorem xq_wp.ald {len b c a0 a n : Nat} {i : Int32} {r : List Value} (hc : xq_code m pc = some (.iaload, len, a0, b, c)) (hk : (decide (a < xq_tB) && decide (a < xq_N x) && decide ((xq_K x a).1 = 100)) = true) (hn : (xq_K x a).2 = n) (g : xq_in i n = true ∧ xq_wp d m x (pc + 1) L (.int (xq_I x a i.toNatClampNeg) :: r) Q) : xq_wp d m x pc L (.int i :: .ref a :: r) Q := by
  simp only [Bool.and_eq_true, decide_eq_true_eq] at hk
  refine xq_wp.step hc rfl (by simp only [xq_ret]) ?_ g.2

  simp only [xq_step, xq_aload, if_pos hk.1.1, hk.1.2, hk.2, hn, g.1, decide_true, Bool.and_self, if_true]
theorem xq_wp.ast {len b c a0 a n : Nat} {i v : Int32} {r : List Value} (hc : xq_code m pc = some (.iastore, len, a0, b, c)) (hk : (decide (a < xq_N x) && decide ((xq_K x a).1 = 100)) = true) (hn : (xq_K x a).2 = n) (g : xq_in i n = true ∧ xq_wp d m (x.1, x.2.1, xq_w x.2.2 a i.toNatClampNeg v) (pc + 1) L r Q) : xq_wp d m x pc L (.int v :: .int i :: .ref a :: r) Q := by
  simp only [Bool.and_eq_true, decide_eq_true_eq] at hk
  refine xq_wp.step hc rfl (by simp only [xq_ret]) ?_ g.2

  simp only [xq_step, xq_astore, hk.1, hk.2, hn, g.1, decide_true, Bool.and_self, if_true, xq_setI, xq_w]
end xq_wps
