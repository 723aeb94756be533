/-! what the abstract machine's states say of the heap -/
/-- first address of ours; classes and slots; the classes of int[], long[], Site[]; the literals' addresses, those of their bytes; the static arrays' addresses -/
abbrev xq_Th : Type := Nat × va_G × (ClassId × ClassId × ClassId) × (Nat → Nat) × (Nat → Nat) × (Nat → Nat)
def xq_A (t : xq_Th) : Nat → Prop := fun q => t.1 ≤ q
def xq_ad (t : xq_Th) (k : Nat) : Nat := if k < xq_sB then t.1 + k else if k < xq_tB then t.2.2.2.1 (k - xq_sB) else t.2.2.2.2.2 (k - xq_tB)
def xq_sh (t : xq_Th) (v : Value) : Value := match v with
  | .ref k => .ref (xq_ad t k)
  | w => w
def xq_rr (t : xq_Th) (r : Option Nat) : Option Nat := r.map (xq_ad t)
def xq_fl (t : xq_Th) (x : xq_S) (k j : Nat) : Value := if xq_ft (xq_K x k).1 j = 2 then va_rf (xq_rr t (xq_R x k j)) else .int (xq_I x k j)
def xq_ent (t : xq_Th) (x : xq_S) (k : Nat) : va_E :=
  if (xq_K x k).1 = 100 then .inl (t.2.2.1.1, (xq_K x k).2, .inl (xq_I x k))
  else if (xq_K x k).1 = 101 then .inl (t.2.2.1.2.1, (xq_K x k).2, .inr (.inl (xq_J x k)))
  else if (xq_K x k).1 = 102 then .inl (t.2.2.1.2.2, (xq_K x k).2, .inr (.inr (.inr (.inr (fun j => xq_rr t (xq_R x k j))))))
  else .inr ((xq_K x k).1, (List.range (xq_K x k).2).map (xq_fl t x k))
def xq_H (t : xq_Th) (x : xq_S) (H : Heap) : Prop := H.size = t.1 + xq_N x ∧ xq_N x ≤ xq_sB ∧ ∀ k, k < xq_N x → va_at t.2.1 xq_cl (t.1 + k, xq_ent t x k) H
def xq_tys (t : xq_Th) : List (ClassId × FieldType) := [(t.2.2.1.1, .int), (t.2.2.1.2.1, .long), (t.2.2.1.2.2, .object "DomeCalendar$Site")]
theorem xq_ad_lt {t : xq_Th} {k : Nat} (h : k < xq_sB) : xq_ad t k = t.1 + k := by simp [xq_ad, h]
theorem xq_H.lt {t : xq_Th} {x : xq_S} {H : Heap} (h : xq_H t x H) {k : Nat} (hk : k < xq_N x) : xq_ad t k = t.1 + k := xq_ad_lt (Nat.lt_of_lt_of_le hk h.2.1)
theorem xq_H.at {t : xq_Th} {x : xq_S} {H : Heap} (h : xq_H t x H) {k : Nat} (hk : k < xq_N x) : va_P t.2.1 xq_cl [(xq_ad t k, xq_ent t x k)] H := by
  intro i q hq
  cases i with
  | zero => cases hq; rw [h.lt hk]; exact h.2.2 k hk
  | succ i => simp at hq
theorem xq_H_set {t : xq_Th} {x x' : xq_S} {H H1 : Heap} {k : Nat} (h : xq_H t x H) (hk : k < xq_N x) (hN : xq_N x' = xq_N x) (he : ∀ j, j ≠ k → xq_ent t x' j = xq_ent t x j) (hz : H1.size = H.size) (hq : ∀ q, q ≠ xq_ad t k → H1[q]? = H[q]?) (hc : va_at t.2.1 xq_cl (xq_ad t k, xq_ent t x' k) H1) : xq_H t x' H1 := by
  refine ⟨by rw [hz, hN]; exact h.1, by rw [hN]; exact h.2.1, fun j hj => ?_⟩
  rw [hN] at hj
  by_cases hjk : j = k
  · subst hjk
    rw [← h.lt hj]
    exact hc
  · rw [he j hjk]
    refine (h.2.2 j hj).kept (hq _ ?_)
    rw [h.lt hk]
    show t.1 + j ≠ _
    omega
theorem xq_H_new {t : xq_Th} {x x' : xq_S} {H H1 : Heap} (h : xq_H t x H) (hb : xq_N x < xq_sB) (hN : xq_N x' = xq_N x + 1) (he : ∀ j, j < xq_N x → xq_ent t x' j = xq_ent t x j) (hz : H1.size = H.size + 1) (hq : ∀ q, q < H.size → H1[q]? = H[q]?) (hc : va_at t.2.1 xq_cl (H.size, xq_ent t x' (xq_N x)) H1) : xq_H t x' H1 := by
  refine ⟨by rw [hz, hN, h.1]; omega, by rw [hN]; omega, fun j hj => ?_⟩
  rw [hN] at hj
  by_cases hjk : j = xq_N x
  · subst hjk
    rw [← h.1]
    exact hc
  · rw [he j (by omega)]
    refine (h.2.2 j (by omega)).kept (hq _ ?_)
    show t.1 + j < _
    rw [h.1]
    omega
/-- the locals -/
def xq_L (t : xq_Th) (n : Nat) (L : List Value) (ls : Array Slot) : Prop := L.length = n ∧ ls.size = n ∧ lv_wf ls ∧ (∀ (i : Nat) (v : Value), L[i]? = some v → v ≠ xq_un → ls[i]? = some (.val (xq_sh t v))) ∧ ∀ v ∈ L, v.category = 1
theorem xq_sh_cat (t : xq_Th) (v : Value) : (xq_sh t v).category = v.category := by cases v <;> rfl
/-- storing into the locals -/
theorem xq_L_set {t : xq_Th} {n : Nat} {L : List Value} {ls : Array Slot} {k : Nat} {v : Value} (h : xq_L t n L ls) (hk : k < L.length) (hv : v.category = 1) : ∃ ls', storeLocals ls k (xq_sh t v) = some ls' ∧ xq_L t n (L.set k v) ls' := by
  obtain ⟨h1, h2, h3, h4, h5⟩ := h
  let lst : List (Nat × Value) := (List.range n).filterMap (fun i => match L[i]? with | some w => if w = xq_un then none else some (i, xq_sh t w) | none => none)
  have hl : lv_has ls n lst := by
    refine ⟨h2, h3, fun q hq => ?_⟩
    obtain ⟨i, hi, hq2⟩ := List.mem_filterMap.mp hq
    cases hw : L[i]? with
    | none => rw [hw] at hq2; cases hq2
    | some w =>
      rw [hw] at hq2
      dsimp only at hq2
      by_cases hu : w = xq_un
      · rw [if_pos hu] at hq2; cases hq2
      · rw [if_neg hu] at hq2
        cases hq2
        exact h4 i w hw hu
  obtain ⟨ls', e, g1, g2, g3⟩ := lv_store1 (i := k) (v := xq_sh t v) hl (by omega) (by rw [xq_sh_cat]; exact hv)
  refine ⟨ls', e, by simp [h1], g1, g2, fun i w hw hu => ?_, fun w hw => ?_⟩
  · by_cases hik : i = k
    · subst hik
      rw [List.getElem?_set_self hk] at hw
      cases hw
      exact g3 (i, xq_sh t v) List.mem_cons_self
    · rw [List.getElem?_set_ne (Ne.symm hik)] at hw
      refine g3 (i, xq_sh t w) (List.mem_cons_of_mem _ (List.mem_filter.mpr ⟨List.mem_filterMap.mpr ⟨i, List.mem_range.mpr ?_, ?_⟩, ?_⟩))
      · have := (List.getElem?_eq_some_iff.mp hw).1
        omega
      · rw [hw]
        simp [hu]
      · have hc : (xq_sh t w).category = 1 := by rw [xq_sh_cat]; exact h5 w (List.mem_of_getElem? hw)
        simp [hik, hc]
  · rcases List.mem_or_eq_of_mem_set hw with h | h
    · exact h5 w h
    · rw [h]; exact hv
