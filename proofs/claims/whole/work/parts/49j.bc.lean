/-! how many bits -/
set_option maxRecDepth 100000 in
theorem bc_add0 : ∀ a, a < 64 → ∀ b, b < 128 → ∀ c, c < 14 → 128 * a + b < 2 ^ c → xq_bc (nI (128 * a + b + 2 ^ c)) = xq_bc (nI (128 * a + b)) + nI 1 := by decide +kernel
theorem bc_add {s c : Nat} (hc : c < 14) (hs : s < 2 ^ c) : xq_bc (nI (s + 2 ^ c)) = xq_bc (nI s) + nI 1 := by
  have h2 : 2 ^ c ≤ 8192 := Nat.pow_le_pow_right (n := 2) (by omega) (show c ≤ 13 by omega)
  have := bc_add0 (s / 128) (by omega) (s % 128) (by omega) c hc (by omega)
  rw [show 128 * (s / 128) + s % 128 = s by omega] at this
  exact this
theorem bc_ls {W : xw} : ∀ c, c ≤ 14 → xq_bc (nI (lsN W c)) = nI (lmN W c)
  | 0, _ => by show xq_bc (nI 0) = nI 0; decide
  | c + 1, h => by
    have ih := bc_ls (W := W) c (by omega)
    have lt := lsN_lt (W := W) c
    unfold lsN lmN
    split
    · rw [bc_add (by omega) lt, ih, nI_add]
    · rw [Nat.add_zero, Nat.add_zero]; exact ih
