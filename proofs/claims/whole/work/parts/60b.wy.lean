/-! ways: the west first -/
def sub (a b : Nat) : Bool := decide (a &&& b = a)
section xk_wy2
variable {n : Nat} {a b c t w : Nat}
theorem sub_iff : sub a b = true ↔ ∀ x, a.testBit x = true → b.testBit x = true := by
  rw [sub, decide_eq_true_eq]
  refine ⟨fun h x hx => ?_, fun h => Nat.eq_of_testBit_eq (fun x => ?_)⟩
  · rw [← h, Nat.testBit_and, Bool.and_eq_true] at hx
    exact hx.2
  · rw [Nat.testBit_and]
    cases e : a.testBit x
    · rfl
    · rw [h x e]; rfl
theorem sub_not (h : sub a b = false) : ∃ x, a.testBit x = true ∧ b.testBit x = false := by
  refine Classical.byContradiction fun z => ?_
  have : sub a b = true := sub_iff.mpr (fun x hx => by
    cases e : b.testBit x
    · exact absurd ⟨x, hx, e⟩ z
    · rfl)
  rw [this] at h
  exact absurd h (by decide)
/-- who may come next: the class, when the west is first -/
def adC (w : Nat) (N : Nat → Nat) (b s : Nat) : Bool := sub (N b) s && !(!w.testBit b && !sub w s)
theorem wy_1 {N : Nat → Nat} : ∀ t, sub t w = true → wV n (fun _ => false) (adC w N) t = wV n (fun t => !sub t w) (fun b s => sub (N b) s) t := by
  intro t
  induction t using Nat.strongRecOn with
  | _ t ih =>
    intro h
    rw [wV_eq, wV_eq, wv, wv, if_neg (by decide), if_neg (by rw [h]; decide)]
    congr 1
    refine sm_cg n (fun b hb => ?_)
    rw [wf, wf]
    by_cases e : t.testBit b = true
    · have hw : w.testBit b = true := sub_iff.mp h b e
      have ea : adC w N b (t ^^^ 2 ^ b) = sub (N b) (t ^^^ 2 ^ b) := by
        rw [adC, hw]; cases sub (N b) (t ^^^ 2 ^ b) <;> rfl
      rw [ea]
      by_cases q : sub (N b) (t ^^^ 2 ^ b) = true
      · rw [if_pos ⟨e, q⟩, if_pos ⟨e, q⟩]
        refine ih _ (x_lt e) (sub_iff.mpr (fun x hx => ?_))
        rw [x_bit] at hx
        by_cases y : x = b
        · rw [y]; exact hw
        · rw [if_neg y] at hx; exact sub_iff.mp h x hx
      · rw [if_neg (fun z => q z.2), if_neg (fun z => q z.2)]
    · rw [if_neg (fun z => e z.1), if_neg (fun z => e z.1)]
theorem wb_ne (h : ¬ t = 0) : wb t = 0 := by rw [wb, if_neg h]
theorem tb_ne (h : t.testBit b = true) : ¬ t = 0 := fun e => by rw [e, Nat.zero_testBit] at h; exact absurd h (by decide)
theorem wy_2 {N : Nat → Nat} : ∀ t, sub w t = false → sub t w = false → wV n (fun _ => false) (adC w N) t = 0 := by
  intro t
  induction t using Nat.strongRecOn with
  | _ t ih =>
    intro h1 h2
    obtain ⟨x, x1, x2⟩ := sub_not h1
    obtain ⟨y, y1, y2⟩ := sub_not h2
    rw [wV_eq, wv, wb_ne (tb_ne y1), if_neg (by decide), Int64.zero_add]
    refine sm_0 n (fun b hb => ?_)
    rw [wf]
    by_cases e : t.testBit b = true ∧ adC w N b (t ^^^ 2 ^ b) = true
    · rw [if_pos e]
      have bx : ¬ x = b := fun z => by rw [z, e.1] at x2; exact absurd x2 (by decide)
      have sx : (t ^^^ 2 ^ b).testBit x = false := by rw [x_bit, if_neg bx]; exact x2
      have nw : sub w (t ^^^ 2 ^ b) = false := by
        cases q : sub w (t ^^^ 2 ^ b)
        · rfl
        · have := sub_iff.mp q x x1
          rw [sx] at this
          exact absurd this (by decide)
      have wbt : w.testBit b = true := by
        have := e.2
        rw [adC, nw] at this
        cases q : w.testBit b
        · rw [q] at this; simp at this
        · rfl
      have by_ : ¬ y = b := fun z => by rw [z, wbt] at y2; exact absurd y2 (by decide)
      refine ih _ (x_lt e.1) nw ?_
      cases q : sub (t ^^^ 2 ^ b) w
      · rfl
      · have := sub_iff.mp q y (by rw [x_bit, if_neg by_]; exact y1)
        rw [y2] at this
        exact absurd this (by decide)
    · rw [if_neg e]
theorem wy_3 {N : Nat → Nat} {ea : Nat} (he : ∀ x, ea.testBit x = true → w.testBit x = false) : ∀ e, sub e ea = true → wV n (fun _ => false) (adC w N) (w ||| e) = wV n (fun t => !sub t w) (fun b s => sub (N b) s) w * wV n (fun t => !sub t ea) (fun b s => sub (N b) (s ||| w)) e := by
  intro e
  induction e using Nat.strongRecOn with
  | _ e ih =>
    intro h
    by_cases e0 : e = 0
    · subst e0
      rw [Nat.or_zero, wy_1 w (sub_iff.mpr (fun _ h => h))]
      have : wV n (fun t => !sub t ea) (fun b s => sub (N b) (s ||| w)) 0 = 1 := by
        rw [wV_eq, wv, if_neg (by rw [h]; decide), sm_0 n (fun b hb => by rw [wf, if_neg (fun z => by rw [Nat.zero_testBit] at z; exact absurd z.1 (by decide))]), Int64.add_zero]
        rfl
      rw [this, Int64.mul_one]
    · have ⟨y, hy⟩ : ∃ y, e.testBit y = true := Classical.byContradiction fun z => e0 (Nat.eq_of_testBit_eq (fun x => by
        rw [Nat.zero_testBit]
        cases q : e.testBit x
        · rfl
        · exact absurd ⟨x, q⟩ z))
      have ty : (w ||| e).testBit y = true := by rw [Nat.testBit_or, hy, Bool.or_true]
      rw [wV_eq, wv, wb_ne (tb_ne ty), if_neg (by decide), Int64.zero_add]
      rw [wV_eq (t := e), wv, wb_ne e0, if_neg (by rw [h]; decide), Int64.zero_add, ← sm_mul]
      refine sm_cg n (fun b hb => ?_)
      by_cases q : e.testBit b = true
      · have hwb : w.testBit b = false := he b (sub_iff.mp h b q)
        have tb : (w ||| e).testBit b = true := by rw [Nat.testBit_or, q, Bool.or_true]
        have ex : (w ||| e) ^^^ 2 ^ b = w ||| (e ^^^ 2 ^ b) := by
          apply Nat.eq_of_testBit_eq
          intro x
          rw [x_bit, Nat.testBit_or, Nat.testBit_or, x_bit]
          by_cases y : x = b
          · rw [if_pos y, if_pos y, y, hwb]; rfl
          · rw [if_neg y, if_neg y]
        have ea2 : adC w N b (w ||| (e ^^^ 2 ^ b)) = sub (N b) ((e ^^^ 2 ^ b) ||| w) := by
          have : sub w (w ||| (e ^^^ 2 ^ b)) = true := sub_iff.mpr (fun x hx => by rw [Nat.testBit_or, hx, Bool.true_or])
          rw [adC, this, Nat.or_comm]
          cases sub (N b) ((e ^^^ 2 ^ b) ||| w) <;> cases w.testBit b <;> rfl
        rw [wf, wf, ex, ea2]
        by_cases z : sub (N b) ((e ^^^ 2 ^ b) ||| w) = true
        · rw [if_pos ⟨tb, z⟩, if_pos ⟨q, z⟩]
          refine ih _ (x_lt q) (sub_iff.mpr (fun x hx => ?_))
          rw [x_bit] at hx
          by_cases y : x = b
          · rw [if_pos y, y, q] at hx; exact absurd hx (by decide)
          · rw [if_neg y] at hx; exact sub_iff.mp h x hx
        · rw [if_neg (fun k => z k.2), if_neg (fun k => z k.2), Int64.mul_zero]
      · rw [wf, wf, if_neg (show ¬ (e.testBit b = true ∧ sub (N b) (e ^^^ 2 ^ b ||| w) = true) from fun k => q k.1), Int64.mul_zero]
        by_cases z : (w ||| e).testBit b = true ∧ adC w N b ((w ||| e) ^^^ 2 ^ b) = true
        · rw [if_pos z]
          have hwb : w.testBit b = true := by
            have := z.1
            rw [Nat.testBit_or] at this
            cases k : w.testBit b
            · rw [k, Bool.false_or] at this; exact absurd this q
            · rfl
          have ny : ¬ y = b := fun k => q (k ▸ hy)
          refine wy_2 _ ?_ ?_
          · cases k : sub w ((w ||| e) ^^^ 2 ^ b)
            · rfl
            · have := sub_iff.mp k b hwb
              rw [x_bit, if_pos rfl, z.1] at this
              exact absurd this (by decide)
          · cases k : sub ((w ||| e) ^^^ 2 ^ b) w
            · rfl
            · have := sub_iff.mp k y (by rw [x_bit, if_neg ny]; exact ty)
              rw [he y (sub_iff.mp h y hy)] at this
              exact absurd this (by decide)
        · rw [if_neg z]
end xk_wy2
