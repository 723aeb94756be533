/-! soonest: the next order, over places -/
/-- the last place whose block stands before a greater one -/
def nxI (l : List Nat) : Nat → Option Nat
  | 0 => none
  | i + 1 => if l.getD (i + 1) 0 < l.getD i 0 then nxI l i else some i
/-- the last place whose block is not less -/
def nxJ (l : List Nat) (v : Nat) : Nat → Nat
  | 0 => 0
  | j + 1 => if l.getD j 0 < v then nxJ l v j else j
def nxS (l : List Nat) (i j : Nat) : List Nat := (l.set i (l.getD j 0)).set j (l.getD i 0)
def nxR : Nat → List Nat → Nat → Nat → List Nat
  | 0, l, _, _ => l
  | t + 1, l, i, j => if i < j then nxR t (nxS l i j) (i + 1) (j - 1) else l
def nx (c : Nat) (l : List Nat) : Option (List Nat) := match nxI l (c - 1) with
  | none => none
  | some i => some (nxR c (nxS l i (nxJ l (l.getD i 0) c)) (i + 1) (c - 1))
def nxA (c : Nat) : Nat → List Nat → List (List Nat)
  | 0, _ => []
  | t + 1, l => l :: (match nx c l with
    | none => []
    | some l' => nxA c t l')
/-- all orders come, each once, as the model has them; 720 are enough -/
theorem nx_pm : nxA 1 720 (List.range 1) = pm 1 (List.range 1) ∧ nxA 2 720 (List.range 2) = pm 2 (List.range 2) ∧ nxA 3 720 (List.range 3) = pm 3 (List.range 3) ∧ nxA 4 720 (List.range 4) = pm 4 (List.range 4) ∧ nxA 5 720 (List.range 5) = pm 5 (List.range 5) ∧ nxA 6 720 (List.range 6) = pm 6 (List.range 6) := by decide +kernel
