/-! runs with enough fuel -/
theorem xq_more : ∀ (F d m : Nat) (x : xq_S) (pc : Nat) (L st : List Value) (w : Option Value × xq_S), xq_x F d m x pc L st = some w → xq_x (F + 1) d m x pc L st = some w := by
  intro F
  induction F with
  | zero => intro d m x pc L st w h; cases h
  | succ F ih =>
    intro d m x pc L st w h
    unfold xq_x at h ⊢
    split at h
    · cases h
    · rename_i i len a b c hc
      (try rw [hc])
      (try dsimp only)
      split at h
      · rename_i hcl
        (try rw [if_pos hcl])
        split at h
        · rename_i d' As r ha
          (try rw [ha])
          (try dsimp only)
          split at h
          · rename_i hb
            (try rw [if_pos hb])
            split at h
            · rename_i v x' h1
              rw [ih _ _ _ _ _ _ _ h1]
              (try dsimp only)
              exact ih _ _ _ _ _ _ _ h
            · cases h
          · cases h
        · cases h
      · rename_i hcl
        (try rw [if_neg hcl])
        split at h
        · rename_i v hv
          (try rw [hv])
          exact h
        · rename_i hv
          (try rw [hv])
          (try dsimp only)
          split at h
          · rename_i hs
            (try rw [hs])
            (try dsimp only)
            exact ih _ _ _ _ _ _ _ h
          · cases h
theorem xq_moreN {F d m : Nat} {x : xq_S} {pc : Nat} {L st : List Value} {w : Option Value × xq_S} (h : xq_x F d m x pc L st = some w) : ∀ k, xq_x (F + k) d m x pc L st = some w
  | 0 => h
  | k + 1 => xq_more _ _ _ _ _ _ _ _ (xq_moreN h k)
theorem xq_moreL {F G d m : Nat} {x : xq_S} {pc : Nat} {L st : List Value} {w : Option Value × xq_S} (h : xq_x F d m x pc L st = some w) (hFG : F ≤ G) : xq_x G d m x pc L st = some w := by
  have := xq_moreN h (G - F)
  rw [show F + (G - F) = G by omega] at this
  exact this
/-- it runs to this end -/
def xq_g (d m : Nat) (x : xq_S) (pc : Nat) (L st : List Value) (w : Option Value × xq_S) : Prop := ∃ F, xq_x F d m x pc L st = some w
/-- a whole call -/
def xq_ev (d m : Nat) (x : xq_S) (As : List Value) (w : Option Value × xq_S) : Prop := xq_g d m x 0 (As ++ List.replicate ((xq_mn m).2.2.1 - As.length) xq_un) [] w
theorem xq_g.go {d m : Nat} {x x' : xq_S} {pc pc' : Nat} {L L' st st' : List Value} {w : Option Value × xq_S} {k : Nat} (h : ∀ F, xq_x (F + k) d m x pc L st = xq_x F d m x' pc' L' st') (g : xq_g d m x' pc' L' st' w) : xq_g d m x pc L st w := by
  obtain ⟨F, hF⟩ := g
  exact ⟨F + k, by rw [h F]; exact hF⟩
theorem xq_g.done {d m : Nat} {x : xq_S} {pc : Nat} {L st : List Value} {w : Option Value × xq_S} {k : Nat} (h : ∀ F, xq_x (F + k) d m x pc L st = some w) : xq_g d m x pc L st w := ⟨k, by have := h 0; rwa [Nat.zero_add] at this⟩
theorem xq_g.call {d m : Nat} {x x1 : xq_S} {pc : Nat} {L st As r : List Value} {w : Option Value × xq_S} {v : Option Value} {i : Instr} {len a b c : Nat} (hc : xq_code m pc = some (i, len, a, b, c)) (hcl : xq_isCall i a = true) (ha : xq_args b st = some (As, r)) (hr : (xq_room r && xq_rc i x (xq_ow a) As) = true) (g1 : xq_g d a x 0 (As ++ List.replicate (c - b) xq_un) [] (v, x1)) (g2 : xq_g (d + 1) m x1 (pc + 3) L (v.toList ++ r) w) : xq_g (d + 1) m x pc L st w := by
  obtain ⟨F1, h1⟩ := g1
  obtain ⟨F2, h2⟩ := g2
  refine ⟨F1 + F2 + 1, ?_⟩
  unfold xq_x
  rw [hc]
  dsimp only
  rw [if_pos hcl, ha]
  dsimp only
  rw [if_pos hr, xq_moreN h1 F2]
  dsimp only
  rw [Nat.add_comm F1 F2]
  exact xq_moreN h2 F1
