/-! text: THE LAW, what is read -/
abbrev LA : Type := List (Nat × Nat)
abbrev LR : Type := Option ((Nat × Nat) ⊕ (Nat × LA))
def bnd (x : LR) (f : Nat → LA → LR) : LR := match x with
  | none => none
  | some (.inl e) => some (.inl e)
  | some (.inr (j, b)) => f j b
def lF : Nat := 402
theorem lF_e : lF = 402 := rfl
def spU (tc vl : Nat → Nat) (i : Nat) (a : LA) : LR := if tc i = 2 then some (.inr (i + 1, a ++ [(0, vl i)])) else if 41 ≤ tc i ∧ tc i ≤ 48 then some (.inr (i + 1, a ++ [(tc i - 40, 0)])) else some (.inl (1, i))
def spPL (tc vl : Nat → Nat) : Nat → Nat → LA → LR
  | 0, _, _ => none
  | f + 1, i, a => if tc i = 142 then bnd (spU tc vl (i + 1) a) (fun j b => spPL tc vl f j (b ++ [(15, 0)])) else if tc i = 147 then (if ¬ tc (i + 1) = 2 then some (.inl (1, i + 1)) else if vl (i + 1) = 0 then some (.inl (2, i + 1)) else spPL tc vl f (i + 1 + 1) (a ++ [(16, vl (i + 1))])) else some (.inr (i, a))
def spP (tc vl : Nat → Nat) (i : Nat) (a : LA) : LR := bnd (spU tc vl i a) (spPL tc vl lF)
/-- a row of X with signs between -/
def lpS (tc : Nat → Nat) (op : Nat → Nat) (X : Nat → LA → LR) : Nat → Nat → LA → LR
  | 0, _, _ => none
  | f + 1, i, a => if op (tc i) = 0 then some (.inr (i, a)) else bnd (X (i + 1) a) (fun j b => lpS tc op X f j (b ++ [(op (tc i), 0)]))
def chS (tc : Nat → Nat) (op : Nat → Nat) (X : Nat → LA → LR) (i : Nat) (a : LA) : LR := bnd (X i a) (lpS tc op X lF)
def opS (c : Nat) : Nat := if c = 143 then 13 else if c = 145 then 14 else 0
def opV (c : Nat) : Nat := if c = 5 then 21 else 0
def opA (c : Nat) : Nat := if c = 4 then 22 else 0
def spS (tc vl : Nat → Nat) : Nat → LA → LR := chS tc opS (spP tc vl)
def spA (tc : Nat → Nat) (C : Nat → LA → LR) : Nat → LA → LR := chS tc opA (chS tc opV C)
def spM (tc vl : Nat → Nat) (i : Nat) (a : LA) : LR := bnd (spS tc vl i a) (fun j b => if 160 ≤ tc j ∧ tc j ≤ 162 then bnd (spS tc vl (j + 1) b) (fun k c => some (.inr (k, c ++ [(tc j - 143, 0)]))) else some (.inl (1, j)))
def spC (tc vl : Nat → Nat) : Nat → Nat → LA → LR
  | 0 => fun i a => if tc i = 6 ∨ tc i = 140 then some (.inl (3, i)) else spM tc vl i a
  | k + 1 => fun i a => if tc i = 6 then bnd (spC tc vl k (i + 1) a) (fun j b => some (.inr (j, b ++ [(20, 0)]))) else if tc i = 140 then bnd (spA tc (spC tc vl k) (i + 1) a) (fun j b => if tc j = 141 then some (.inr (j + 1, b)) else some (.inl (1, j))) else spM tc vl i a
def spW (tc vl : Nat → Nat) (j : Nat) (b : LA) : LR := if tc j = 3 then spA tc (spC tc vl 8) (j + 1) b else some (.inr (j, b))
abbrev LL : Type := LA × List (Nat × Nat × Nat)
def spL (tc vl : Nat → Nat) : Nat → Nat → LL → Option ((Nat × Nat) ⊕ LL)
  | 0, _, _ => none
  | f + 1, i, p => if tc i = 0 then some (.inr p) else if ¬ tc i = 7 then some (.inl (1, i)) else if p.2.length = 16 then some (.inl (3, i)) else match spS tc vl (i + 1) p.1 with
    | none => none
    | some (.inl e) => some (.inl e)
    | some (.inr (j, b)) => match spW tc vl j b with
      | none => none
      | some (.inl e) => some (.inl e)
      | some (.inr (k, c)) => if tc k = 159 then spL tc vl f (k + 1) (c, p.2 ++ [(p.1.length, b.length, c.length)]) else some (.inl (1, k))
/-- the class's code of the steps -/
def cd1 (s : Nat × Nat) : List Nat := if s.1 = 0 then [100 + s.2] else if s.1 < 9 then [s.1 - 1] else if s.1 = 16 then [100 + s.2, 11] else if s.1 = 20 then [17] else if s.1 < 20 then [s.1 - 5] else [s.1 - 6]
def cds (a : LA) : List Nat := a.flatMap cd1
section xk_ls
variable {tc vl : Nat → Nat} {t i j k f : Nat} {a b : LA}
theorem bnd_r {x : LR} {g : Nat → LA → LR} (h : bnd x g = some (.inr (j, b))) : ∃ j1 b1, x = some (.inr (j1, b1)) ∧ g j1 b1 = some (.inr (j, b)) := by
  unfold bnd at h
  match x, h with
  | some (.inr (j1, b1)), h => exact ⟨j1, b1, rfl, h⟩
theorem bnd_a {x : LR} {g h : Nat → LA → LR} : bnd (bnd x g) h = bnd x (fun j b => bnd (g j b) h) := by
  match x with
  | none => rfl
  | some (.inl e) => rfl
  | some (.inr (j1, b1)) => rfl
theorem cds_a : cds (a ++ b) = cds a ++ cds b := List.flatMap_append
theorem cds_1 {s : Nat × Nat} : cds [s] = cd1 s := by unfold cds; rw [List.flatMap_cons, List.flatMap_nil, List.append_nil]
theorem cd1_l {s : Nat × Nat} : 1 ≤ (cd1 s).length ∧ (¬ s.1 = 16 → (cd1 s).length = 1) := by
  unfold cd1
  split
  · exact ⟨Nat.le_refl 1, fun _ => rfl⟩
  split
  · exact ⟨Nat.le_refl 1, fun _ => rfl⟩
  split
  · exact ⟨Nat.le_succ 1, fun z => absurd ‹_› z⟩
  split
  · exact ⟨Nat.le_refl 1, fun _ => rfl⟩
  split
  · exact ⟨Nat.le_refl 1, fun _ => rfl⟩
  · exact ⟨Nat.le_refl 1, fun _ => rfl⟩
theorem cds_w {s : Nat × Nat} : cds (a ++ [s]) = cds a ++ cd1 s := by rw [cds_a, cds_1]
theorem cds_l : ∀ a : LA, a.length ≤ (cds a).length := by
  intro a
  induction a with
  | nil => exact Nat.le_refl 0
  | cons s r ih =>
    have e : cds (s :: r) = cd1 s ++ cds r := by unfold cds; rw [List.flatMap_cons]
    rw [e, List.length_append, List.length_cons]
    have := (cd1_l (s := s)).1
    omega
/-- what a reader may do: it goes on, and a token gives a sign of code at most -/
def lB (X : Nat → LA → LR) : Prop := ∀ i a j b, X i a = some (.inr (j, b)) → i < j ∧ (cds b).length + i ≤ (cds a).length + j
theorem lw_1 {s : Nat} (h : ¬ s = 16) : (cds (a ++ [(s, 0)])).length = (cds a).length + 1 := by
  rw [cds_w, List.length_append, (cd1_l (s := (s, 0))).2 h]
theorem lB_U : lB (spU tc vl) := by
  intro i a j b h
  unfold spU at h
  by_cases q1 : tc i = 2
  · rw [if_pos q1] at h
    have h := Prod.mk.inj (Sum.inr.inj (Option.some.inj h))
    rw [← h.1, ← h.2, cds_w, List.length_append, (cd1_l (s := (0, vl i))).2 (show ¬ 0 = 16 by decide)]
    omega
  · rw [if_neg q1] at h
    by_cases q2 : 41 ≤ tc i ∧ tc i ≤ 48
    · rw [if_pos q2] at h
      have h := Prod.mk.inj (Sum.inr.inj (Option.some.inj h))
      rw [← h.1, ← h.2, lw_1 (by omega)]
      omega
    · rw [if_neg q2] at h; exact absurd h (by simp)
theorem lB_PL : ∀ f i a j b, spPL tc vl f i a = some (.inr (j, b)) → i ≤ j ∧ (cds b).length + i ≤ (cds a).length + j := by
  intro f
  induction f with
  | zero => intro i a j b h; exact absurd h (by simp [spPL])
  | succ f ih =>
    intro i a j b h
    rw [spPL] at h
    by_cases q1 : tc i = 142
    · rw [if_pos q1] at h
      obtain ⟨j1, b1, e1, e2⟩ := bnd_r h
      have h1 := lB_U _ _ _ _ e1
      have h2 := ih _ _ _ _ e2
      rw [lw_1 (by decide)] at h2
      omega
    · rw [if_neg q1] at h
      by_cases q2 : tc i = 147
      · rw [if_pos q2] at h
        by_cases q3 : tc (i + 1) = 2
        · rw [if_neg (fun z => z q3)] at h
          by_cases q4 : vl (i + 1) = 0
          · rw [if_pos q4] at h; exact absurd h (by simp)
          · rw [if_neg q4] at h
            have h2 := ih _ _ _ _ h
            rw [cds_w, List.length_append, show (cd1 (16, vl (i + 1))).length = 2 from rfl] at h2
            omega
        · rw [if_pos q3] at h; exact absurd h (by simp)
      · rw [if_neg q2] at h
        have h := Prod.mk.inj (Sum.inr.inj (Option.some.inj h))
        rw [← h.1, ← h.2]
        omega
theorem lB_P : lB (spP tc vl) := by
  intro i a j b h
  obtain ⟨j1, b1, e1, e2⟩ := bnd_r h
  have h1 := lB_U _ _ _ _ e1
  have h2 := lB_PL _ _ _ _ _ e2
  omega
theorem lB_lp {op : Nat → Nat} {X : Nat → LA → LR} (ho : ∀ c, ¬ op c = 16) (hX : lB X) : ∀ f i a j b, lpS tc op X f i a = some (.inr (j, b)) → i ≤ j ∧ (cds b).length + i ≤ (cds a).length + j := by
  intro f
  induction f with
  | zero => intro i a j b h; exact absurd h (by simp [lpS])
  | succ f ih =>
    intro i a j b h
    rw [lpS] at h
    by_cases q1 : op (tc i) = 0
    · rw [if_pos q1] at h
      have h := Prod.mk.inj (Sum.inr.inj (Option.some.inj h))
      rw [← h.1, ← h.2]
      omega
    · rw [if_neg q1] at h
      obtain ⟨j1, b1, e1, e2⟩ := bnd_r h
      have h1 := hX _ _ _ _ e1
      have h2 := ih _ _ _ _ e2
      rw [lw_1 (ho _)] at h2
      omega
theorem lB_ch {op : Nat → Nat} {X : Nat → LA → LR} (ho : ∀ c, ¬ op c = 16) (hX : lB X) : lB (chS tc op X) := by
  intro i a j b h
  obtain ⟨j1, b1, e1, e2⟩ := bnd_r h
  have h1 := hX _ _ _ _ e1
  have h2 := lB_lp ho hX _ _ _ _ _ e2
  omega
theorem oS_n : ∀ c, ¬ opS c = 16 := fun c => by
  unfold opS
  split
  · decide
  · split <;> decide
theorem oV_n : ∀ c, ¬ opV c = 16 := fun c => by unfold opV; split <;> decide
theorem oA_n : ∀ c, ¬ opA c = 16 := fun c => by unfold opA; split <;> decide
theorem lB_S : lB (spS tc vl) := lB_ch oS_n lB_P
theorem lB_A {C : Nat → LA → LR} (h : lB C) : lB (spA tc C) := lB_ch oA_n (lB_ch oV_n h)
theorem lB_M : lB (spM tc vl) := by
  intro i a j b h
  obtain ⟨j1, b1, e1, e2⟩ := bnd_r h
  have h1 := lB_S _ _ _ _ e1
  by_cases q : 160 ≤ tc j1 ∧ tc j1 ≤ 162
  · rw [if_pos q] at e2
    obtain ⟨j2, b2, e3, e4⟩ := bnd_r e2
    have h2 := lB_S _ _ _ _ e3
    have e4 := Prod.mk.inj (Sum.inr.inj (Option.some.inj e4))
    rw [← e4.1, ← e4.2, lw_1 (by omega)]
    omega
  · rw [if_neg q] at e2; exact absurd e2 (by simp)
theorem lB_C : ∀ k, lB (spC tc vl k) := by
  intro k
  induction k with
  | zero =>
    intro i a j b h
    unfold spC at h
    by_cases q : tc i = 6 ∨ tc i = 140
    · rw [if_pos q] at h; exact absurd h (by simp)
    · rw [if_neg q] at h; exact lB_M _ _ _ _ h
  | succ k ih =>
    intro i a j b h
    unfold spC at h
    by_cases q : tc i = 6
    · rw [if_pos q] at h
      obtain ⟨j1, b1, e1, e2⟩ := bnd_r h
      have h1 := ih _ _ _ _ e1
      have e4 := Prod.mk.inj (Sum.inr.inj (Option.some.inj e2))
      rw [← e4.1, ← e4.2, lw_1 (by decide)]
      omega
    · rw [if_neg q] at h
      by_cases q : tc i = 140
      · rw [if_pos q] at h
        obtain ⟨j1, b1, e1, e2⟩ := bnd_r h
        have h1 := lB_A ih _ _ _ _ e1
        by_cases q2 : tc j1 = 141
        · rw [if_pos q2] at e2
          have e4 := Prod.mk.inj (Sum.inr.inj (Option.some.inj e2))
          rw [← e4.1, ← e4.2]
          omega
        · rw [if_neg q2] at e2; exact absurd e2 (by simp)
      · rw [if_neg q] at h; exact lB_M _ _ _ _ h
theorem lB_W (h : spW tc vl i a = some (.inr (j, b))) : i ≤ j ∧ (cds b).length + i ≤ (cds a).length + j := by
  unfold spW at h
  by_cases q : tc i = 3
  · rw [if_pos q] at h
    have := lB_A (lB_C 8) _ _ _ _ h
    omega
  · rw [if_neg q] at h
    have e4 := Prod.mk.inj (Sum.inr.inj (Option.some.inj h))
    rw [← e4.1, ← e4.2]
    omega
end xk_ls
