/-! the array that is cloned, to the last slot -/
def xq_AF (t : xq_Th) (U : State) : Prop := ∃ cell : Cell, U.heap[t.2.2.2.2.2 0]? = some cell ∧ cell.vm ≠ .unknown ∧ (∀ k, cell.vm ≠ .statics k) ∧ cell.cls = t.2.2.1.1 ∧ cell.slots = (vp_cell t.2.2.1.1 (12, .inl (fun j => (xq_sv.getD 0 []).getD j 0))).slots ∧ ¬ xq_A t (t.2.2.2.2.2 0)
def xq_EE (t : xq_Th) (U : State) : Prop := xq_E t U ∧ xq_AF t U
theorem xq_EE.moved {t : xq_Th} {s U : State} {locs : List Loc} (hW : s.WarmedH U.vm) (hS : va_S (xq_A t) s.heap U.heap locs) (h : xq_EE t s) : xq_EE t U := by
  obtain ⟨h1, cell, g1, g2, g3, g4, g5, g6⟩ := h
  exact ⟨h1.moved hW hS, cell, by rw [hS.2.1 _ (Array.getElem?_eq_some_iff.mp g1).1 g6]; exact g1, g2, g3, g4, g5, g6⟩
