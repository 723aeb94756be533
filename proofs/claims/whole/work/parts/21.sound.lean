/-! a run of the abstract machine is a run of the machine -/
theorem xq_ml_len : xq_ml.length = 273 := by decide +kernel
theorem xq_dt_len : xq_dt.length = 273 := by decide +kernel
theorem xq_mp_len : xq_mp.length = 273 := by decide +kernel
theorem xq_getD_memL {α : Type} {l : List α} {k : Nat} {d : α} (h : k < l.length) : l.getD k d ∈ l := by
  rw [List.getD_eq_getElem?_getD, List.getElem?_eq_getElem h]
  exact List.getElem_mem h
theorem xq_map_getD {α β γ : Type} {f : α → γ} {g : β → γ} {l : List α} {l2 : List β} (h : l.map f = l2.map g) {k : Nat} (h1 : k < l.length) (h2 : k < l2.length) (d : α) (d2 : β) : f (l.getD k d) = g (l2.getD k d2) := by
  have e : (l.map f)[k]? = (l2.map g)[k]? := by rw [h]
  rw [List.getElem?_map, List.getElem?_map, List.getElem?_eq_getElem h1, List.getElem?_eq_getElem h2] at e
  rw [List.getD_eq_getElem?_getD, List.getD_eq_getElem?_getD, List.getElem?_eq_getElem h1, List.getElem?_eq_getElem h2]
  exact Option.some.inj e
theorem xq_de_ok {m : Nat} (h : m < 273) : (xq_de m).1 = (xq_mn m).2.2.2.2 ∧ (xq_de m).2.2.1 = (xq_mn m).2.1 ∧ (xq_de m).2.1 = ((xq_pm m).1 == 2) := by
  have h1 : m < xq_dt.length := by rw [xq_dt_len]; exact h
  have h2 : m < xq_ml.length := by rw [xq_ml_len]; exact h
  have h3 : m < xq_mp.length := by rw [xq_mp_len]; exact h
  have e := xq_map_getD xq_dm h1 h2 (0, false, ByteArray.empty, []) (⟨"", "", ""⟩, ByteArray.empty, 0, 0, 0)
  have e2 := xq_map_getD xq_di h1 h3 (0, false, ByteArray.empty, []) (0, 0, 0, 0, 0, 0, 0)
  exact ⟨congrArg Prod.fst e, congrArg Prod.snd e, e2⟩
theorem xq_row {m pc : Nat} {w : Instr × Nat × Nat × Nat × Nat} (hm : m < 273) (h : xq_code m pc = some w) : xq_rok (xq_mn m).2.2.2.2 ((xq_pm m).1 == 2) (xq_mn m).2.1 (pc, w) = true := by
  unfold xq_code at h
  cases hf : (xq_de m).2.2.2.find? (fun q => q.1 == pc) with
  | none => rw [hf] at h; cases h
  | some q =>
    rw [hf] at h
    cases h
    have h1 := List.mem_of_find?_eq_some hf
    have h2 : q.1 = pc := by simpa using List.find?_some hf
    have h3 := List.all_eq_true.mp (xq_dq (xq_de m) (xq_getD_memL (by rw [xq_dt_len]; exact hm))) q h1
    obtain ⟨e1, e2, e3⟩ := xq_de_ok hm
    rw [e1, e2, e3] at h3
    rw [← h2]
    exact h3
theorem xq_mok_all {m : Nat} (h : m < 273) : xq_mok m = true := by
  have key : ∀ (b k : Nat), (List.range k).all (fun m => xq_mok (b + m)) = true → b ≤ m → m < b + k → xq_mok m = true := by
    intro b k hk h1 h2
    have := List.all_eq_true.mp hk (m - b) (List.mem_range.mpr (by omega))
    rw [show b + (m - b) = m by omega] at this
    exact this
  rcases Nat.lt_or_ge m 25 with q | q
  · exact key 0 25 xq_mc0 (by omega) (by omega)
  rcases Nat.lt_or_ge m 50 with q | q
  · exact key 25 25 xq_mc1 (by omega) (by omega)
  rcases Nat.lt_or_ge m 75 with q | q
  · exact key 50 25 xq_mc2 (by omega) (by omega)
  rcases Nat.lt_or_ge m 100 with q | q
  · exact key 75 25 xq_mc3 (by omega) (by omega)
  rcases Nat.lt_or_ge m 125 with q | q
  · exact key 100 25 xq_mc4 (by omega) (by omega)
  rcases Nat.lt_or_ge m 150 with q | q
  · exact key 125 25 xq_mc5 (by omega) (by omega)
  rcases Nat.lt_or_ge m 175 with q | q
  · exact key 150 25 xq_mc6 (by omega) (by omega)
  rcases Nat.lt_or_ge m 200 with q | q
  · exact key 175 25 xq_mc7 (by omega) (by omega)
  rcases Nat.lt_or_ge m 225 with q | q
  · exact key 200 25 xq_mc8 (by omega) (by omega)
  rcases Nat.lt_or_ge m 250 with q | q
  · exact key 225 25 xq_mc9 (by omega) (by omega)
  · exact key 250 23 xq_mc10 (by omega) (by omega)
/-- what the tables say of a method -/
theorem xq_meth {m : Nat} (h : m < 273) : Cond.code (xq_mn m).1 (xq_mn m).2.1 (xq_mn m).2.2.1 (xq_rty (xq_mn m).2.2.2.1) ∈ xq_gw ∧ Cond.initialized (xq_mn m).1.cls ∈ xq_gw ∧ plainFor (xq_mn m).1 = true ∧ (xq_mn m).1.cls = xq_cn (xq_mn m).2.2.2.2 ∧ (parseMethodDescriptor (xq_mn m).1.desc).map (fun d => d.parameters.length) = some (xq_pm m).2.2.2.2.2.2 ∧ (xq_mn m).1.cls ≠ "java/lang/invoke/MethodHandle" ∧ (xq_mn m).1.cls ≠ "java/lang/invoke/VarHandle" ∧ (xq_mn m).2.2.1 ≤ 8 ∧ (xq_mn m).2.2.2.1 ≤ 3 ∧
    ((xq_pm m).1 = 1 → Cond.static (xq_mn m).1 ∈ xq_gw) ∧ ((xq_pm m).1 ≠ 1 → Cond.instanceMethod (xq_mn m).1 ∈ xq_gw) ∧ ((xq_pm m).1 = 2 → (xq_mn m).1.name = "<init>" ∧ (xq_mn m).2.2.2.1 = 0) ∧ ((xq_pm m).1 = 0 → Cond.selects (xq_mn m).1.cls (xq_mn m).1 (xq_mn m).1 ∈ xq_gw) := by
  have h1 := xq_mok_all h
  simp only [xq_mok, Bool.and_eq_true] at h1
  obtain ⟨⟨⟨⟨⟨⟨⟨⟨⟨⟨⟨a1, a2⟩, a3⟩, a4⟩, a5⟩, a6⟩, a7⟩, a8⟩, a9⟩, a10⟩, a11⟩, a12⟩ := h1
  refine ⟨xq_wc _ (xq_getD_memL (by rw [xq_ml_len]; exact h)), xq_tb _ (of_decide_eq_true a1) rfl, a2, of_decide_eq_true a3, of_decide_eq_true a4, of_decide_eq_true a5, of_decide_eq_true a6, of_decide_eq_true a7, of_decide_eq_true a8, fun z => ?_, fun z => ?_, fun z => ?_, fun z => ?_⟩
  · rw [if_pos z] at a10
    exact xq_tb _ (of_decide_eq_true a10) rfl
  · rw [if_neg z] at a10
    exact xq_tb _ (of_decide_eq_true a10) rfl
  · rw [if_pos z] at a11
    simp only [Bool.and_eq_true, decide_eq_true_eq] at a11
    exact a11
  · rw [if_pos z] at a12
    split at a12
    · exact xq_tb _ (of_decide_eq_true a12) rfl
    · exact xq_sl _ (of_decide_eq_true a12)
theorem xq_KL_ok {o i a b c k : Nat} (h : xq_KL.contains (o, i, a, b, c, k) = true) (hk : k ≠ 9) : a < 273 ∧ c = (xq_mn a).2.2.1 ∧ b = (xq_pm a).2.2.2.2.2.2 + (if (xq_pm a).1 = 1 then 0 else 1) ∧ b ≤ c ∧ (xq_pm a).1 = (if k = 3 then 2 else k) ∧ (k ≠ 3 → Cond.methodLink (xq_cn o) i (xq_mn a).1 ∈ xq_gw) ∧ (k = 3 → Cond.methodLinkNest (xq_cn o) i (xq_mn a).1 xq_host ∈ xq_kw) := by
  have h1 := xq_mem h
  have h1' := h1
  rw [xq_KLe] at h1
  obtain ⟨q, hq, e⟩ := List.mem_map.mp h1
  obtain ⟨⟨o', x', a', b', c', k'⟩, kk⟩ := q
  cases e
  have h2 := List.all_eq_true.mp xq_KLc _ hq
  dsimp only at h2
  rw [if_neg hk] at h2
  simp only [Bool.and_eq_true, decide_eq_true_eq] at h2
  obtain ⟨⟨⟨⟨⟨a1, a2⟩, a3⟩, a4⟩, a5⟩, a6⟩ := h2
  refine ⟨a1, a2, a3, a4, a5, fun z => ?_, fun z => ?_⟩
  · rw [if_neg z] at a6
    exact xq_tb _ (of_decide_eq_true a6) rfl
  · subst z
    exact List.mem_map.mpr ⟨(o, i, a, b, c, 3), List.mem_filter.mpr ⟨h1', rfl⟩, rfl⟩
theorem xq_args_ok : ∀ (k : Nat) (st As r : List Value), xq_args k st = some (As, r) → st = As.reverse ++ r ∧ As.length = k ∧ ∀ v ∈ As, v.category = 1 := by
  intro k
  induction k with
  | zero =>
    intro st As r h
    simp only [xq_args] at h
    cases h
    exact ⟨rfl, rfl, fun v hv => by cases hv⟩
  | succ k ih =>
    intro st As r h
    unfold xq_args at h
    split at h
    · rename_i e; cases e
    · rename_i k' v st' e
      cases e
      split at h
      · rename_i As' r' h1
        cases h
        obtain ⟨q1, q2, q3⟩ := ih _ _ _ h1
        refine ⟨by rw [q1]; simp, by simp [q2], fun w hw => ?_⟩
        rcases List.mem_append.mp hw with h2 | h2
        · exact q3 w h2
        · rw [List.mem_singleton.mp h2]; rfl
      · cases h
    · rename_i k' v st' e
      cases e
      split at h
      · rename_i As' r' h1
        cases h
        obtain ⟨q1, q2, q3⟩ := ih _ _ _ h1
        refine ⟨by rw [q1]; simp, by simp [q2], fun w hw => ?_⟩
        rcases List.mem_append.mp hw with h2 | h2
        · exact q3 w h2
        · rw [List.mem_singleton.mp h2]; rfl
      · cases h
    · cases h
theorem xq_lg_sl : ∀ (vs : List Value), (∀ v ∈ vs, v.category = 1) → lg_sl vs = vs.map Slot.val := by
  intro vs
  induction vs with
  | nil => intro _; rfl
  | cons v vs ih =>
    intro h
    have h1 := h v List.mem_cons_self
    show (if v.category = 2 then _ else _) ++ lg_sl vs = _
    rw [if_neg (by omega), ih (fun w hw => h w (List.mem_cons_of_mem _ hw))]
    rfl
theorem xq_args_pos : ∀ (vs : List Value) (i : Nat), (∀ v ∈ vs, v.category = 1) → ∀ (k : Nat) (v : Value), vs[k]? = some v → (i + k, v) ∈ lv_args i vs := by
  intro vs
  induction vs with
  | nil => intro i _ k v h; simp at h
  | cons w vs ih =>
    intro i h k v hv
    have h1 := h w List.mem_cons_self
    have e : lv_args i (w :: vs) = (i, w) :: lv_args (i + 1) vs := by
      show (i, w) :: lv_args (if w.category = 2 then i + 2 else i + 1) vs = _
      rw [if_neg (by omega)]
    rw [e]
    cases k with
    | zero =>
      simp at hv
      subst hv
      exact List.mem_cons_self
    | succ k =>
      have := ih (i + 1) (fun u hu => h u (List.mem_cons_of_mem _ hu)) k v (by simpa using hv)
      rw [show i + (k + 1) = i + 1 + k by omega]
      exact List.mem_cons_of_mem _ this
/-- the locals with which a method begins -/
theorem xq_entry {t : xq_Th} (mid : MethodId) (As : List Value) (n : Nat) (hc : ∀ v ∈ As, v.category = 1) (hn : As.length ≤ n) : ∃ ls, entryFrame mid (As.map (xq_sh t)).toArray n = F0 mid 0 ls [] ∧ xq_L t n (As ++ List.replicate (n - As.length) xq_un) ls := by
  have hc' : ∀ v ∈ As.map (xq_sh t), v.category = 1 := by
    intro v hv
    obtain ⟨w, hw, rfl⟩ := List.mem_map.mp hv
    rw [xq_sh_cat]
    exact hc w hw
  have hlen : (lg_sl (As.map (xq_sh t))).length = As.length := by rw [xq_lg_sl _ hc']; simp
  obtain ⟨h1, h2, h3⟩ := lv_entry (As.map (xq_sh t)) (n := n) (by omega)
  refine ⟨_, lg_entry_eq _ _ _, by simp; omega, h1, h2, fun i v hv hu => ?_, fun v hv => ?_⟩
  · by_cases hi : i < As.length
    · rw [List.getElem?_append_left hi] at hv
      have := xq_args_pos (As.map (xq_sh t)) 0 hc' i (xq_sh t v) (by rw [List.getElem?_map, hv]; rfl)
      rw [Nat.zero_add] at this
      exact h3 _ this
    · rw [List.getElem?_append_right (by omega), List.getElem?_replicate] at hv
      split at hv
      · cases hv
        exact absurd rfl hu
      · cases hv
  · rcases List.mem_append.mp hv with h | h
    · exact hc v h
    · rw [List.eq_of_mem_replicate h]
      rfl
