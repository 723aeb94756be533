/-! soonest: the next order, carried over to blocks -/
section xk_nx
variable {φ : Nat → Nat} {m : Nat}
theorem nx_g {l : List Nat} {i : Nat} (h : i < l.length) : (l.map φ).getD i 0 = φ (l.getD i 0) := by
  rw [List.getD_eq_getElem?_getD, List.getD_eq_getElem?_getD, List.getElem?_map, List.getElem?_eq_getElem h]; rfl
theorem nxI_map {l : List Nat} (hφ : ∀ a b, a < m → b < m → (φ a < φ b ↔ a < b)) (hl : ∀ i, i < l.length → l.getD i 0 < m) : ∀ k, k < l.length → nxI (l.map φ) k = nxI l k := by
  intro k
  induction k with
  | zero => intro _; rfl
  | succ k ih =>
    intro hk
    rw [nxI, nxI, nx_g hk, nx_g (show k < l.length by omega), ih (by omega)]
    by_cases h : l.getD (k + 1) 0 < l.getD k 0
    · rw [if_pos h, if_pos ((hφ _ _ (hl _ hk) (hl _ (by omega))).mpr h)]
    · rw [if_neg h, if_neg (fun z => h ((hφ _ _ (hl _ hk) (hl _ (by omega))).mp z))]
theorem nxJ_map {l : List Nat} {v : Nat} (hφ : ∀ a b, a < m → b < m → (φ a < φ b ↔ a < b)) (hl : ∀ i, i < l.length → l.getD i 0 < m) (hv : v < m) : ∀ k, k ≤ l.length → nxJ (l.map φ) (φ v) k = nxJ l v k := by
  intro k
  induction k with
  | zero => intro _; rfl
  | succ k ih =>
    intro hk
    rw [nxJ, nxJ, nx_g (show k < l.length by omega), ih (by omega)]
    by_cases h : l.getD k 0 < v
    · rw [if_pos h, if_pos ((hφ _ _ (hl _ (by omega)) hv).mpr h)]
    · rw [if_neg h, if_neg (fun z => h ((hφ _ _ (hl _ (by omega)) hv).mp z))]
theorem nxS_len {l : List Nat} {i j : Nat} : (nxS l i j).length = l.length := by rw [nxS, List.length_set, List.length_set]
theorem nxS_map {l : List Nat} {i j : Nat} (hi : i < l.length) (hj : j < l.length) : nxS (l.map φ) i j = (nxS l i j).map φ := by
  rw [nxS, nxS, nx_g hi, nx_g hj, List.map_set, List.map_set]
theorem nxR_map : ∀ (t : Nat) (l : List Nat) (i j : Nat), j < l.length → nxR t (l.map φ) i j = (nxR t l i j).map φ := by
  intro t
  induction t with
  | zero => intro l i j _; rfl
  | succ t ih =>
    intro l i j hj
    rw [nxR, nxR]
    split
    · rw [nxS_map (by omega) hj]
      exact ih _ _ _ (by rw [nxS_len]; omega)
    · rfl
theorem nxI_lt {l : List Nat} : ∀ k i, nxI l k = some i → i < k := by
  intro k
  induction k with
  | zero => intro i h; exact absurd h (by simp [nxI])
  | succ k ih =>
    intro i h
    rw [nxI] at h
    split at h
    · have := ih i h; omega
    · have : k = i := Option.some.inj h
      omega
theorem nxJ_lt {l : List Nat} {v : Nat} : ∀ k, 0 < k → nxJ l v k < k := by
  intro k
  induction k with
  | zero => intro h; omega
  | succ k ih =>
    intro _
    rw [nxJ]
    split
    · rcases Nat.eq_zero_or_pos k with e | e
      · subst e; exact Nat.zero_lt_one
      · have := ih e; omega
    · omega
/-- the next order of the blocks is that of their places -/
theorem nx_map {l : List Nat} {c : Nat} (hc : l.length = c) (hφ : ∀ a b, a < m → b < m → (φ a < φ b ↔ a < b)) (hl : ∀ i, i < l.length → l.getD i 0 < m) : nx c (l.map φ) = (nx c l).map (fun l => l.map φ) := by
  unfold nx
  rcases Nat.eq_zero_or_pos c with e | e
  · subst e; rfl
  · rw [nxI_map hφ hl (c - 1) (by omega)]
    rcases h : nxI l (c - 1) with _ | i
    · rfl
    · have hi := nxI_lt _ _ h
      show some (nxR c (nxS (l.map φ) i (nxJ (l.map φ) ((l.map φ).getD i 0) c)) (i + 1) (c - 1)) = some ((nxR c (nxS l i (nxJ l (l.getD i 0) c)) (i + 1) (c - 1)).map φ)
      have hj := nxJ_lt (l := l) (v := l.getD i 0) c e
      rw [nx_g (by omega), nxJ_map hφ hl (hl i (by omega)) c (by omega), nxS_map (by omega) (by omega), nxR_map _ _ _ _ (by rw [nxS_len]; omega)]
end xk_nx
