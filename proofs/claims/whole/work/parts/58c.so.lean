/-! soonest: all orders, carried over to blocks -/
section xk_pm
variable {φ : Nat → Nat}
theorem fm_cg {α β : Type} {f g : α → List β} : ∀ k : List α, (∀ b ∈ k, f b = g b) → k.flatMap f = k.flatMap g := by
  intro k
  induction k with
  | nil => intro _; rfl
  | cons a k ih =>
    intro h
    rw [List.flatMap_cons, List.flatMap_cons, h a (List.mem_cons_self), ih (fun b hb => h b (List.mem_cons_of_mem _ hb))]
theorem er_map {b : Nat} : ∀ l : List Nat, (∀ a ∈ l, φ a = φ b → a = b) → (l.map φ).erase (φ b) = (l.erase b).map φ := by
  intro l
  induction l with
  | nil => intro _; rfl
  | cons a l ih =>
    intro h
    rw [List.map_cons]
    by_cases e : a = b
    · subst e
      rw [List.erase_cons_head, List.erase_cons_head]
    · have e2 : ¬ φ a = φ b := fun z => e (h a List.mem_cons_self z)
      rw [List.erase_cons_tail (by simpa using e2), List.erase_cons_tail (by simpa using e), List.map_cons, ih (fun a ha => h a (List.mem_cons_of_mem _ ha))]
theorem pm_map : ∀ (c : Nat) (l : List Nat), (∀ a b, a ∈ l → b ∈ l → φ a = φ b → a = b) → pm c (l.map φ) = (pm c l).map (fun r => r.map φ) := by
  intro c
  induction c with
  | zero => intro l _; rfl
  | succ c ih =>
    intro l h
    rw [pm, pm, List.flatMap_map, List.map_flatMap]
    refine fm_cg l (fun b hb => ?_)
    rw [er_map l (fun a ha z => h a b ha hb z), ih (l.erase b) (fun a a' ha ha' z => h a a' (List.mem_of_mem_erase ha) (List.mem_of_mem_erase ha') z), List.map_map, List.map_map]
    rfl
end xk_pm
