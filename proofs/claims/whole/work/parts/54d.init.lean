/-! what holds behind the constructors -/
section xk_it
theorem it_wf : wfR xq_00 := fun a j h => absurd rfl h
theorem it_x {x : xq_S} (hw : wfR x) (hN : xq_N x = 143) (hK : ∀ a, a < 143 → xq_K x a = xq_K0.getD a (0, 0)) (hR : ∀ a, a < 143 → it_ar a = false → ∀ j, j < (xq_K0.getD a (0, 0)).2 → xq_R x a j = it_sh a j) : x = xq_s (0, xq_Z x, xq_K x, xq_R x, none, some 54) x.2.1 x.2.2 := by
  have e2 : xq_K x = fun a => if a < 143 then xq_K0.getD a (0, 0) else xq_K x a := by
    funext a
    by_cases ha : a < 143
    · rw [if_pos ha]; exact hK a ha
    · rw [if_neg ha]
  have e3 : xq_R x = fun a j => if a < 143 then (if a = 0 ∧ j = 9 then none else if a = 53 ∧ j = 1 then some 54 else (xq_R0.getD a []).getD j none) else xq_R x a j := by
    funext a j
    by_cases ha : a < 143
    · rw [if_pos ha]
      show xq_R x a j = it_sh a j
      have hp := List.all_eq_true.mp it_ps a (List.mem_range.mpr ha)
      simp only [Bool.and_eq_true, Bool.or_eq_true, decide_eq_true_eq, Bool.not_eq_true'] at hp
      obtain ⟨⟨p1, p2⟩, p3⟩ := hp
      have none_of : (∀ z : ¬ xq_R x a j = none, False) → xq_R x a j = none := fun h => Classical.byContradiction h
      rcases hb : it_ar a with _ | _
      · by_cases hj : j < (xq_K0.getD a (0, 0)).2
        · exact hR a ha hb j hj
        · rw [none_of (fun z => hj (by rw [← hK a ha]; exact (hw a j z).2.1))]
          unfold it_sh
          by_cases h0 : a = 0 ∧ j = 9
          · rw [if_pos h0]
          · rw [if_neg h0, if_neg (by rintro ⟨z1, z2⟩; rcases p2 with q | q <;> omega), List.getD_eq_getElem?_getD, List.getElem?_eq_none (by omega)]
            rfl
      · rw [hb] at p3
        rcases p3 with p3 | ⟨p3, p4⟩
        · exact absurd p3 (by decide)
        · unfold it_ar at hb
          simp only [Bool.or_eq_true, decide_eq_true_eq] at hb
          rw [none_of (fun z => ?_)]
          · unfold it_sh
            rw [p3]
            by_cases h0 : a = 0 ∧ j = 9
            · rw [if_pos h0]
            · rw [if_neg h0, if_neg (fun q => p4 q.1)]; rfl
          · have q := (hw a j z).2.2
            rw [hK a ha] at q
            rcases hb with hb | hb <;> rw [hb] at q <;> rcases q with q | q
            · exact absurd q (by decide)
            · have : xq_ft 100 j = 0 := rfl
              omega
            · exact absurd q (by decide)
            · have : xq_ft 101 j = 0 := rfl
              omega
    · rw [if_neg ha]
  exact Prod.ext (Prod.ext hN (Prod.ext rfl (Prod.ext e2 e3))) rfl
theorem it_iv {g : xq_V} {I : Nat → xw} (hg : g.1 = 0 ∧ g.2.1 ≤ 30394 ∧ g.2.2.2.2.1 = none ∧ g.2.2.2.2.2 = some 54) (F : ∀ f, f ∈ it_fs → I f.1 f.2.1 = Int32.ofInt f.2.2) : iv g I := by
  have f : ∀ a j k : Nat, (a, j, Int.ofNat k) ∈ it_fs → Int32.ofInt (Int.ofNat k) = nI k → I a j = nI k := fun a j k h e => (F _ h).trans e
  have w0 : I 127 0 = nI 0 := f 127 0 0 (by decide) (by decide)
  have w1 : I 127 1 = nI 0 := f 127 1 0 (by decide) (by decide)
  have w2 : I 127 2 = nI 0 := f 127 2 0 (by decide) (by decide)
  have w6 : I 127 6 = nI 0 := f 127 6 0 (by decide) (by decide)
  have w5 : I 127 5 = Int32.ofInt (-1) := F (127, 5, -1) (by decide)
  have wl : I 127 1075 = nI 0 := f 127 1075 0 (by decide) (by decide)
  have c12 : ∀ i, i < 12 → i = 0 ∨ i = 1 ∨ i = 2 ∨ i = 3 ∨ i = 4 ∨ i = 5 ∨ i = 6 ∨ i = 7 ∨ i = 8 ∨ i = 9 ∨ i = 10 ∨ i = 11 := fun i hi => by omega
  have c4 : ∀ i, i < 4 → i = 0 ∨ i = 1 ∨ i = 2 ∨ i = 3 := fun i hi => by omega
  have hok : ok 0 0 (I 127) := by
    refine ⟨⟨w0, by omega, w1, by omega⟩, ⟨0, by omega, w6⟩, ⟨0, by omega, w2⟩, ⟨fun i hi => absurd hi (by omega), fun i j hi => absurd hi (by omega)⟩, fun b hb => absurd hb (by omega), fun b hb => absurd hb (by omega), fun i hi => ?_, fun i hi => ?_, fun b hb => absurd hb (by omega), fun k hk => absurd hk (by omega), ⟨0, by omega, wl, fun l hl => absurd hl (by omega)⟩⟩
    · rcases c12 i hi with e | e | e | e | e | e | e | e | e | e | e | e <;> subst e
      · exact ⟨10, by decide, f 127 10 10 (by decide) (by decide)⟩
      · exact ⟨100, by decide, f 127 11 100 (by decide) (by decide)⟩
      · exact ⟨10, by decide, f 127 12 10 (by decide) (by decide)⟩
      · exact ⟨1, by decide, f 127 13 1 (by decide) (by decide)⟩
      · exact ⟨1, by decide, f 127 14 1 (by decide) (by decide)⟩
      · exact ⟨0, by decide, f 127 15 0 (by decide) (by decide)⟩
      · exact ⟨0, by decide, f 127 16 0 (by decide) (by decide)⟩
      · exact ⟨0, by decide, f 127 17 0 (by decide) (by decide)⟩
      · exact ⟨0, by decide, f 127 18 0 (by decide) (by decide)⟩
      · exact ⟨52, by decide, f 127 19 52 (by decide) (by decide)⟩
      · exact ⟨999, by decide, f 127 20 999 (by decide) (by decide)⟩
      · exact ⟨0, by decide, f 127 21 0 (by decide) (by decide)⟩
    · rcases c4 i hi with e | e | e | e <;> subst e
      · exact Or.inr (f 127 24 1 (by decide) (by decide))
      · exact Or.inr (f 127 25 1 (by decide) (by decide))
      · exact Or.inr (f 127 26 1 (by decide) (by decide))
      · exact Or.inr (f 127 27 1 (by decide) (by decide))
  have i6 : sp_ix (I 127) 6 = 0 := xk_ix w6 (by omega)
  have hC : CR true 0 0 I (xcR true I) (I 127) := by
    refine CR_mk ⟨?_, ?_, fun b hb => absurd hb (by omega), fun k hk => absurd hk (by omega)⟩ ⟨?_, fun _ => 0, rfl, fun m hm hm16 => ?_⟩ (f 32 4 1 (by decide) (by decide)) ⟨⟨?_, ?_, ?_, ?_, ?_⟩, fun i hi => ?_, fun i hi => ?_, fun i hi => absurd hi (by omega), fun b hb => absurd hb (by omega), fun b hb => absurd hb (by omega), fun b hb => absurd hb (by omega), fun _ b k hb => absurd hb (by omega), ⟨f 18 13 0 (by decide) (by decide), f 18 14 0 (by decide) (by decide)⟩, ⟨fun _ => rfl, fun _ => w5⟩⟩ ⟨fun _ => ⟨f 27 0 200 (by decide) (by decide), ?_, fun i hi => absurd hi (by omega)⟩, fun h => absurd h (by decide)⟩
    · exact (f 2 0 0 (by decide) (by decide)).trans w0.symm
    · exact (f 2 5 0 (by decide) (by decide)).trans w1.symm
    · exact (f 9 0 0 (by decide) (by decide)).trans wl.symm
    · have : m = 0 := (xn_eq (by omega) (by omega)).mp (hm.symm.trans wl)
      subst this
      exact ⟨fun h => absurd h (by omega), fun l hl => absurd hl (by omega)⟩
    · exact (f 18 10 0 (by decide) (by decide)).trans w2.symm
    · exact (f 18 9 0 (by decide) (by decide)).trans (f 127 3 0 (by decide) (by decide)).symm
    · exact (f 18 11 0 (by decide) (by decide)).trans (f 127 4 0 (by decide) (by decide)).symm
    · exact (F (18, 12, -1) (by decide)).trans w5.symm
    · exact (f 18 8 0 (by decide) (by decide)).trans (f 127 7 0 (by decide) (by decide)).symm
    · rcases c12 i hi with e | e | e | e | e | e | e | e | e | e | e | e <;> subst e
      · exact (f 19 0 10 (by decide) (by decide)).trans (f 127 10 10 (by decide) (by decide)).symm
      · exact (f 19 1 100 (by decide) (by decide)).trans (f 127 11 100 (by decide) (by decide)).symm
      · exact (f 19 2 10 (by decide) (by decide)).trans (f 127 12 10 (by decide) (by decide)).symm
      · exact (f 19 3 1 (by decide) (by decide)).trans (f 127 13 1 (by decide) (by decide)).symm
      · exact (f 19 4 1 (by decide) (by decide)).trans (f 127 14 1 (by decide) (by decide)).symm
      · exact (f 19 5 0 (by decide) (by decide)).trans (f 127 15 0 (by decide) (by decide)).symm
      · exact (f 19 6 0 (by decide) (by decide)).trans (f 127 16 0 (by decide) (by decide)).symm
      · exact (f 19 7 0 (by decide) (by decide)).trans (f 127 17 0 (by decide) (by decide)).symm
      · exact (f 19 8 0 (by decide) (by decide)).trans (f 127 18 0 (by decide) (by decide)).symm
      · exact (f 19 9 52 (by decide) (by decide)).trans (f 127 19 52 (by decide) (by decide)).symm
      · exact (f 19 10 999 (by decide) (by decide)).trans (f 127 20 999 (by decide) (by decide)).symm
      · exact (f 19 11 0 (by decide) (by decide)).trans (f 127 21 0 (by decide) (by decide)).symm
    · rcases c4 i hi with e | e | e | e <;> subst e
      · exact (f 20 0 1 (by decide) (by decide)).trans (f 127 24 1 (by decide) (by decide)).symm
      · exact (f 20 1 1 (by decide) (by decide)).trans (f 127 25 1 (by decide) (by decide)).symm
      · exact (f 20 2 1 (by decide) (by decide)).trans (f 127 26 1 (by decide) (by decide)).symm
      · exact (f 20 3 1 (by decide) (by decide)).trans (f 127 27 1 (by decide) (by decide)).symm
    · exact (f 27 1 0 (by decide) (by decide)).trans w6.symm
  refine ⟨0, 0, ⟨hok, ⟨0, by omega, w2⟩, fun i hi => absurd hi (by omega), hC, F (32, 10, -1) (by decide), F (126, 29, -1) (by decide)⟩, ⟨⟨f 46 4 0 (by decide) (by decide), f 47 0 0 (by decide) (by decide), f 47 1 0 (by decide) (by decide)⟩, F (46, 10, -1) (by decide)⟩, ⟨0, by omega, f 14 0 0 (by decide) (by decide), f 127 1960 0 (by decide) (by decide), fun i hi => absurd hi (by omega)⟩, ⟨⟨0, by omega, f 104 1 0 (by decide) (by decide), f 126 18 0 (by decide) (by decide), fun i hi => absurd hi (by omega)⟩, (f 104 8 0 (by decide) (by decide)).trans (f 126 25 0 (by decide) (by decide)).symm, (F (104, 9, -1) (by decide)).trans (F (126, 27, -1) (by decide)).symm⟩, Or.inl (f 34 4 0 (by decide) (by decide)), ivH_0 (r := 0) (by omega) (f 126 4 0 (by decide) (by decide)) (f 56 3 0 (by decide) (by decide)) (f 56 2 0 (by decide) (by decide)), Or.inl ⟨hg.2.2.1, f 126 5 0 (by decide) (by decide)⟩, ⟨0, 54, by omega, hg.2.2.2, Or.inl ⟨rfl, rfl⟩, ?_, ?_⟩⟩
  · rw [hg.1]; exact Nat.zero_le _
  · have := hg.2.1
    rw [if_pos hg.2.2.1]
    omega
theorem it_e1 : ∃ x, it_1 = some (none, x) ∧ Nat.beq (xq_N x) 126 = true := by
  have h := it_1s
  generalize it_1 = o at h ⊢
  match o, h with
  | some (none, x), h => exact ⟨x, rfl, h⟩
theorem it_e2 : ∃ x, it_2 = some (none, x) ∧ it_ck x = true := by
  have h := it_2s
  generalize it_2 = o at h ⊢
  match o, h with
  | some (none, x), h => exact ⟨x, rfl, h⟩
theorem Init : xq_Init 126 Inv := by
  obtain ⟨x1, e1, p1⟩ := it_e1
  obtain ⟨x2, e2, p2⟩ := it_e2
  have n1 : xq_N x1 = 126 := Nat.eq_of_beq_eq_true p1
  have r1 : xq_x 20000 90 0 (xq_new xq_00 11 10) 0 ([.ref 0] ++ List.replicate ((xq_mn 0).2.2.1 - 1) xq_un) [] = some (none, x1) := e1
  have r2 : xq_x 20000 90 157 (xq_new x1 12 38) 0 ([.ref 126] ++ List.replicate ((xq_mn 157).2.2.1 - 1) xq_un) [] = some (none, x2) := by
    have := e2
    unfold it_2 at this
    rw [e1] at this
    exact this
  have hw : wfR x2 := wl_x _ _ _ _ _ _ _ _ _ r2 (wl_new (x := x1) (c := 12) (n := 38) rfl (wl_x _ _ _ _ _ _ _ _ _ r1 (wl_new (x := xq_00) (c := 11) (n := 10) rfl it_wf)))
  unfold it_ck at p2
  simp only [Bool.and_eq_true] at p2
  obtain ⟨⟨q1, q2⟩, q3, q4, q5⟩ := p2
  have hN : xq_N x2 = 143 := Nat.eq_of_beq_eq_true q1
  have hZ : xq_Z x2 ≤ 30394 := Nat.le_of_ble_eq_true q2
  have hK : ∀ a, a < 143 → xq_K x2 a = xq_K0.getD a (0, 0) := fun a ha => of_decide_eq_true (List.all_eq_true.mp q3 a (List.mem_range.mpr ha))
  have hR : ∀ a, a < 143 → it_ar a = false → ∀ j, j < (xq_K0.getD a (0, 0)).2 → xq_R x2 a j = it_sh a j := fun a ha hb j hj => by
    have := List.all_eq_true.mp q4 a (List.mem_range.mpr ha)
    rw [hb, Bool.false_or] at this
    exact of_decide_eq_true (List.all_eq_true.mp this j (List.mem_range.mpr hj))
  refine ⟨20000, x1, x2, r1, n1, by omega, r2, _, _, _, it_x hw hN hK hR, it_iv ⟨rfl, hZ, rfl, rfl⟩ (fun f hf => of_decide_eq_true (List.all_eq_true.mp q5 f hf))⟩
end xk_it
