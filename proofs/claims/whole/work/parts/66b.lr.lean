/-! text: THE LAW in the row w -/
def rowL (p : LL) (V : xw) : Prop := V 1075 = nI p.2.length ∧ (∀ l, l < p.2.length → V (1080 + l) = nI (p.2.getD l (0, 0, 0)).1 ∧ V (1100 + l) = nI (p.2.getD l (0, 0, 0)).2.1 ∧ V (1120 + l) = nI (p.2.getD l (0, 0, 0)).2.2) ∧ ∀ q, q < p.1.length → V (1140 + 2 * q) = nI (p.1.getD q (0, 0)).1 ∧ ((p.1.getD q (0, 0)).1 = 0 ∨ (p.1.getD q (0, 0)).1 = 16 → V (1140 + 2 * q + 1) = nI (p.1.getD q (0, 0)).2)
section xk_lr
variable {V W : xw} {a : LA} {b i c : Nat} {p : LL}
theorem dr_c (hi : i < b) (hb : b ≤ a.length) : (a.take b).drop i = a.getD i (0, 0) :: (a.take b).drop (i + 1) := by
  have hl : i < (a.take b).length := by rw [List.length_take]; omega
  rw [List.drop_eq_getElem_cons hl, List.getElem_take, List.getD_eq_getElem?_getD, List.getElem?_eq_getElem (by omega)]
  rfl
theorem dr_n (hb : b ≤ a.length) : (a.take b).drop b = [] := List.drop_of_length_le (by rw [List.length_take]; omega)
theorem gd_m (hi : i < a.length) (h : ∀ s, s ∈ a → lv1 s) : lv1 (a.getD i (0, 0)) := by
  rw [List.getD_eq_getElem?_getD, List.getElem?_eq_getElem hi]
  exact h _ (List.getElem_mem hi)
theorem hs_l (hb : b ≤ a.length) (hv : ∀ s, s ∈ a → lv1 s) (hV : ∀ q, q < a.length → V (1140 + 2 * q) = nI (a.getD q (0, 0)).1 ∧ ((a.getD q (0, 0)).1 = 0 ∨ (a.getD q (0, 0)).1 = 16 → V (1140 + 2 * q + 1) = nI (a.getD q (0, 0)).2)) : ∀ c i h, i + c = b → sp_hs V c i h = lh ((a.take b).drop i) h := by
  intro c
  induction c with
  | zero =>
    intro i h hi
    obtain rfl : i = b := by omega
    rw [dr_n hb]; rfl
  | succ c ih =>
    intro i h hi
    rw [dr_c (by omega) hb]
    obtain ⟨v1, v2⟩ := hV i (by omega)
    obtain ⟨l1, l2, l3, l4⟩ := gd_m (i := i) (by omega) hv
    have ih' := fun h => ih (i + 1) h (by omega)
    generalize a.getD i (0, 0) = s at v1 v2 l1 l2 l3 l4
    simp only [sp_hs, lh]
    rw [v1, if_neg (by rw [xn_lt (by omega) (by omega)]; omega)]
    by_cases c9 : s.1 < 9
    · rw [if_pos ((xn_lt (by omega) (by omega)).2 c9), if_pos c9, ih']
    · rw [if_neg (fun z => c9 ((xn_lt (by omega) (by omega)).1 z)), if_neg c9]
      have c13 : ¬ s.1 < 13 := by omega
      rw [if_neg (fun z => c13 ((xn_lt (by omega) (by omega)).1 z)), if_neg c13]
      by_cases c16 : s.1 = 16
      · rw [if_pos (by rw [c16]), if_pos c16, v2 (.inr c16), ih']
        have n0 : ¬ s.2 = 0 := by have := l4 c16; omega
        have n1 : ¬ nI s.2 = nI 0 := fun z => n0 ((xn_eq (by have := l4 c16; omega) (by omega)).1 z)
        by_cases h1 : 1 ≤ h
        · rw [if_pos ⟨h1, n1⟩, if_pos ⟨h1, n0⟩]
        · rw [if_neg (fun z => h1 z.1), if_neg (fun z => h1 z.1)]
      · rw [if_neg (fun z => c16 ((xn_eq (by omega) (by omega)).1 z)), if_neg c16]
        by_cases c20 : s.1 = 20
        · rw [if_pos (by rw [c20]), if_pos c20, ih']
        · rw [if_neg (fun z => c20 ((xn_eq (by omega) (by omega)).1 z)), if_neg c20, if_pos ((xn_lt (by omega) (by omega)).2 l1), if_pos l1, ih']
theorem ty_l (hb : b ≤ a.length) (hv : ∀ s, s ∈ a → lv1 s) (hV : ∀ q, q < a.length → V (1140 + 2 * q) = nI (a.getD q (0, 0)).1 ∧ ((a.getD q (0, 0)).1 = 0 ∨ (a.getD q (0, 0)).1 = 16 → V (1140 + 2 * q + 1) = nI (a.getD q (0, 0)).2)) : ∀ c i ts, i + c = b → sp_ty V c i ts = lt2 ((a.take b).drop i) ts := by
  intro c
  induction c with
  | zero =>
    intro i h hi
    obtain rfl : i = b := by omega
    rw [dr_n hb]; rfl
  | succ c ih =>
    intro i ts hi
    rw [dr_c (by omega) hb]
    obtain ⟨v1, v2⟩ := hV i (by omega)
    obtain ⟨l1, l2, l3, l4⟩ := gd_m (i := i) (by omega) hv
    have ih' := fun h => ih (i + 1) h (by omega)
    generalize a.getD i (0, 0) = s at v1 v2 l1 l2 l3 l4
    simp only [sp_ty, lt2]
    rw [v1]
    by_cases c9 : s.1 < 9
    · rw [if_pos ((xn_lt (by omega) (by omega)).2 c9), if_pos c9, ih']
    · rw [if_neg (fun z => c9 ((xn_lt (by omega) (by omega)).1 z)), if_neg c9]
      by_cases c16 : s.1 = 16
      · rw [if_pos (by rw [c16]), if_pos c16]
        rcases ts with _ | ⟨_ | _, _ | ⟨_ | _, ts⟩⟩ <;> first | rfl | exact ih' _
      · rw [if_neg (fun z => c16 ((xn_eq (by omega) (by omega)).1 z)), if_neg c16]
        by_cases c20 : s.1 = 20
        · rw [if_pos (by rw [c20]), if_pos c20]
          rcases ts with _ | ⟨_ | _, _ | ⟨_ | _, ts⟩⟩ <;> first | rfl | exact ih' _
        · rw [if_neg (fun z => c20 ((xn_eq (by omega) (by omega)).1 z)), if_neg c20]
          by_cases c17 : s.1 < 17
          · rw [if_pos ((xn_lt (by omega) (by omega)).2 c17), if_pos c17]
            rcases ts with _ | ⟨_ | _, _ | ⟨_ | _, ts⟩⟩ <;> first | rfl | exact ih' _
          · rw [if_neg (fun z => c17 ((xn_lt (by omega) (by omega)).1 z)), if_neg c17]
            by_cases d20 : s.1 < 20
            · rw [if_pos ((xn_lt (by omega) (by omega)).2 d20), if_pos d20]
              rcases ts with _ | ⟨_ | _, _ | ⟨_ | _, ts⟩⟩ <;> first | rfl | exact ih' _
            · rw [if_neg (fun z => d20 ((xn_lt (by omega) (by omega)).1 z)), if_neg d20]
              rcases ts with _ | ⟨_ | _, _ | ⟨_ | _, ts⟩⟩ <;> first | rfl | exact ih' _
theorem law_sp (hK : lK p) (h4 : p.1.length ≤ 400) (hV : rowL p V) : sp_law V := by
  obtain ⟨k1, k2, k3, k4⟩ := hK
  refine ⟨p.2.length, k1, hV.1, fun l hl => ?_⟩
  obtain ⟨a1, a2, a3, a4, a5, a6⟩ := k4 l hl
  obtain ⟨v1, v2, v3⟩ := hV.2.1 l hl
  refine ⟨_, _, _, a2, a3, by omega, v1, v2, v3, ?_, fun z => ?_⟩
  · rw [hs_l (b := (p.2.getD l (0, 0, 0)).2.1) (by omega) k3 hV.2.2 _ _ 0 (by omega), a5.2.1 0 (by omega)]
  · rcases a6 with w | w
    · omega
    · exact ⟨by rw [hs_l a4 k3 hV.2.2 _ _ 0 (by omega), w.2.1 0 (by omega)], by rw [ty_l a4 k3 hV.2.2 _ _ [] (by omega), w.2.2.1 []]⟩
/-- where a step's code begins -/
theorem cds_t (hi : i < a.length) : cds (a.take (i + 1)) = cds (a.take i) ++ cd1 (a.getD i (0, 0)) := by
  rw [List.take_succ_eq_append_getElem hi, cds_w, List.getD_eq_getElem?_getD, List.getElem?_eq_getElem hi]
  rfl
theorem cds_p (hi : i ≤ a.length) : cds a = cds (a.take i) ++ cds (a.drop i) := by
  rw [← cds_a, List.take_append_drop]
theorem cds_g {l q : Nat} (hi : i < a.length) (hq : q < (cd1 (a.getD i (0, 0))).length) : (cds a).getD ((cds (a.take i)).length + q) 0 = (cd1 (a.getD i (0, 0))).getD q 0 ∧ (cds (a.take i)).length + q < (cds a).length := by
  have e := cds_p (a := a) (i := i + 1) (by omega)
  rw [cds_t hi, List.append_assoc] at e
  generalize a.getD i (0, 0) = s at e hq ⊢
  refine ⟨?_, ?_⟩
  · rw [e, List.getD_eq_getElem?_getD, List.getD_eq_getElem?_getD, List.getElem?_append_right (by omega), Nat.add_sub_cancel_left, List.getElem?_append_left hq]
  · have := congrArg List.length e
    rw [List.length_append, List.length_append] at this
    omega
theorem law_st {C : xw} (hi : i < a.length) (hv : ∀ s, s ∈ a → lv1 s) (hV : V (1140 + 2 * i) = nI (a.getD i (0, 0)).1 ∧ ((a.getD i (0, 0)).1 = 0 ∨ (a.getD i (0, 0)).1 = 16 → V (1140 + 2 * i + 1) = nI (a.getD i (0, 0)).2)) (hC : ∀ q, q < (cds a).length → C q = nI ((cds a).getD q 0)) : cStep C V i (cds (a.take i)).length (cds (a.take (i + 1))).length := by
  have l1 := gd_m hi hv
  have et : (cds (a.take (i + 1))).length = (cds (a.take i)).length + (cd1 (a.getD i (0, 0))).length := by rw [cds_t hi, List.length_append]
  have g0 := fun h => cds_g (l := 0) (q := 0) hi h
  have g1 := fun h => cds_g (l := 0) (q := 1) hi h
  generalize (cds (a.take i)).length = P at et g0 g1 ⊢
  generalize (cds (a.take (i + 1))).length = P' at et ⊢
  generalize a.getD i (0, 0) = s at l1 hV et g0 g1
  obtain ⟨s, v⟩ := s
  obtain ⟨x1, x2, x3, x4⟩ := l1
  obtain ⟨w1, w2⟩ := hV
  dsimp only at x1 x2 x3 x4 w1 w2
  have one : ∀ c, cd1 (s, v) = [c] → P' = P + 1 ∧ C P = nI c := fun c e => by
    rw [e] at et g0
    have := g0 (by show 0 < 1; omega)
    refine ⟨et, ?_⟩
    have h2 := hC P (by have := this.2; omega)
    rw [h2]
    have h3 := this.1
    rw [Nat.add_zero] at h3
    rw [h3]; rfl
  unfold cStep
  by_cases c0 : s = 0
  · subst c0
    obtain ⟨e1, e2⟩ := one (100 + v) rfl
    exact .inl ⟨e1, .inl ⟨w1, v, x3 rfl, w2 (.inl rfl), e2⟩⟩
  · by_cases c9 : s < 9
    · obtain ⟨e1, e2⟩ := one (s - 1) (by unfold cd1; rw [if_neg c0, if_pos c9])
      exact .inl ⟨e1, .inr ⟨s, w1, .inl ⟨by omega, c9, e2⟩⟩⟩
    · by_cases c16 : s = 16
      · subst c16
        have ec : cd1 (16, v) = [100 + v, 11] := rfl
        rw [ec] at et g0 g1
        have h0 := g0 (by show 0 < 2; omega)
        have h1 := g1 (by show 1 < 2; omega)
        refine .inr ⟨et, w1, v, (x4 rfl).1, (x4 rfl).2, w2 (.inr rfl), ?_, ?_⟩
        · rw [hC P (by have := h0.2; omega)]
          have h3 := h0.1
          rw [Nat.add_zero] at h3
          rw [h3]; rfl
        · rw [hC (P + 1) h1.2, h1.1]; rfl
      · by_cases c20 : s = 20
        · subst c20
          obtain ⟨e1, e2⟩ := one 17 rfl
          exact .inl ⟨e1, .inr ⟨20, w1, .inr (.inr (.inr (.inl ⟨rfl, e2⟩)))⟩⟩
        · by_cases d20 : s < 20
          · obtain ⟨e1, e2⟩ := one (s - 5) (by unfold cd1; rw [if_neg c0, if_neg c9, if_neg c16, if_neg c20, if_pos d20])
            by_cases d16 : s < 16
            · exact .inl ⟨e1, .inr ⟨s, w1, .inr (.inl ⟨by omega, d16, e2⟩)⟩⟩
            · exact .inl ⟨e1, .inr ⟨s, w1, .inr (.inr (.inl ⟨by omega, d20, e2⟩))⟩⟩
          · obtain ⟨e1, e2⟩ := one (s - 6) (by unfold cd1; rw [if_neg c0, if_neg c9, if_neg c16, if_neg c20, if_neg d20])
            exact .inl ⟨e1, .inr ⟨s, w1, .inr (.inr (.inr (.inr ⟨by omega, x1, e2⟩)))⟩⟩
theorem law_c {l0 : Int32} {C E : xw} (hK : lK p) (h4 : (cds p.1).length ≤ 400) (hV : rowL p V) (c0 : l0 = nI p.2.length) (hC : ∀ q, q < (cds p.1).length → C q = nI ((cds p.1).getD q 0)) (hE : ∀ q, q < p.2.length → E q = nI (cds (p.1.take (p.2.getD q (0, 0, 0)).2.2)).length) : cLaw l0 C E V := by
  obtain ⟨k1, k2, k3, k4⟩ := hK
  have hla := cds_l p.1
  refine ⟨c0.trans hV.1.symm, fun i => (cds (p.1.take i)).length, rfl, fun m hm m16 => ?_⟩
  have em : p.2.length = m := (xn_eq (by omega) (by omega)).1 (hV.1.symm.trans hm)
  refine ⟨fun z => ?_, fun l hl => ?_⟩
  · have := (hV.2.1 0 (by omega)).1
    rw [(k4 0 (by omega)).1] at this
    exact this
  · have a := k4 l (by omega)
    have v := hV.2.1 l (by omega)
    have ex : sp_ix V (1120 + l) = (p.2.getD l (0, 0, 0)).2.2 := xk_ix v.2.2 (by have := a.2.2.2.1; omega)
    rw [ex]
    refine ⟨fun z => ?_, hE l (by omega), ?_, fun i hi => law_st (by have := a.2.2.2.1; omega) k3 (hV.2.2 i (by have := a.2.2.2.1; omega)) hC⟩
    · rw [(hV.2.1 (l + 1) (by omega)).1, v.2.2, (k4 (l + 1) (by omega)).1]
      unfold lz
      rw [if_neg (by omega), Nat.add_sub_cancel]
    · have e := congrArg List.length (cds_p (a := p.1) (i := (p.2.getD l (0, 0, 0)).2.2) a.2.2.2.1)
      rw [List.length_append] at e
      show (cds (p.1.take (p.2.getD l (0, 0, 0)).2.2)).length ≤ 400
      omega
end xk_lr
