/-! the class in thought: it begins anew -/
section yk_an
variable {d : Nat} {g : xq_V} {J : Nat → Nat → Int64} {I I' : Nat → Nat → Int32} {Q : Option Value → xq_S → Prop} {n ns : Nat} {R R' : Nat → xw} {W W' : xw} {last blk : Int32} {idle b k : Nat}
theorem sh_18 {I : Nat → xw} : shS (xq_s g J I) 18 := by
  refine ⟨fun j hj => ?_, fun j hj => ?_⟩
  · match j, hj with
    | 0, _ | 1, _ | 2, _ | 3, _ | 4, _ | 5, _ | 6, _ | 7, _ | 8, _ => exact ⟨by show _ < g.1 + 143; omega, rfl⟩
    | j + 9, h => exact absurd h (by omega)
  · match j, hj with
    | 0, _ | 1, _ | 2, _ | 3, _ | 4, _ | 5, _ | 6, _ | 7, _ => rfl
    | j + 8, h => exact absurd h (by omega)
theorem sh_35 {I : Nat → xw} : shS (xq_s g J I) 35 := by
  refine ⟨fun j hj => ?_, fun j hj => ?_⟩
  · match j, hj with
    | 0, _ | 1, _ | 2, _ | 3, _ | 4, _ | 5, _ | 6, _ | 7, _ | 8, _ => exact ⟨by show _ < g.1 + 143; omega, rfl⟩
    | j + 9, h => exact absurd h (by omega)
  · match j, hj with
    | 0, _ | 1, _ | 2, _ | 3, _ | 4, _ | 5, _ | 6, _ | 7, _ => rfl
    | j + 8, h => exact absurd h (by omega)
theorem xid_f {i : Nat} (hi : i < 18) : (12 ≤ xid false i ∧ xid false i < 14) ∨ (35 ≤ xid false i ∧ xid false i < 44) ∨ (46 ≤ xid false i ∧ xid false i < 53) := by
  match i, hi with
  | 0, _ | 1, _ | 2, _ | 3, _ | 4, _ | 5, _ | 6, _ | 7, _ | 8, _ | 9, _ | 10, _ | 11, _ | 12, _ | 13, _ | 14, _ | 15, _ | 16, _ | 17, _ => decide
  | i + 18, h => exact absurd h (by omega)
theorem xid_f2 {a : Nat} (ha : (35 ≤ a ∧ a < 44)) : ∃ i, i < 18 ∧ a = xid false i := ⟨a - 35, by omega, by
  have : a = 35 ∨ a = 36 ∨ a = 37 ∨ a = 38 ∨ a = 39 ∨ a = 40 ∨ a = 41 ∨ a = 42 ∨ a = 43 := by omega
  rcases this with e | e | e | e | e | e | e | e | e <;> (subst e; rfl)⟩
/-- from the site as it is to the thought's -/
theorem CR_th (h : CR true n ns I R W) (hl : sp_law W) (hn : n ≤ 14) (hs : ns ≤ 8) (htk : tk R') (e0 : ∀ j, 8 ≤ j → j < 15 → R' 0 j = R 0 j) (e1 : ∀ j, j < 12 → R' 1 j = R 1 j) (e2 : ∀ j, j < 4 → R' 2 j = R 2 j) (e3 : ∀ i j, 3 ≤ i → i < 8 → j < 14 → R' i j = R i j) : CR false n ns I R' (th_0 W) := by
  obtain ⟨g1, g2, g3, g4, g5, g6, g7, g8, g9, g10, g11, g12, g13, g14⟩ := h
  have u : ∀ p, ¬ p = 6 → th_0 W p = W p := fun p hp => upd_ne hp
  refine ⟨⟨?_, ?_, fun b hb => ?_, fun k hk => ?_⟩, cLaw_fr hl g2 (fun p h1 h2 => u p (by omega)), htk.1, ⟨?_, ?_, ?_, ?_, ?_⟩, fun i hi => ?_, fun i hi => ?_, fun i hi => ?_, fun b hb => ?_, fun b hb z => ?_, fun b hb => ?_, fun hq => (by cases hq), ⟨fun hq => (by cases hq), fun _ => ⟨htk.2.1, htk.2.2, upd_eq⟩⟩, ⟨?_, ?_⟩, ?_⟩
  · rw [u _ (by omega)]; exact g1.1
  · rw [u _ (by omega)]; exact g1.2.1
  · rw [u _ (by omega), u _ (by omega), u _ (by omega), u _ (by omega)]; exact g1.2.2.1 b hb
  · rw [u _ (by omega), u _ (by omega)]; exact g1.2.2.2 k hk
  · rw [e0 _ (by omega) (by omega), u _ (by omega)]; exact g4.1
  · rw [e0 _ (by omega) (by omega), u _ (by omega)]; exact g4.2.1
  · rw [e0 _ (by omega) (by omega), u _ (by omega)]; exact g4.2.2.1
  · rw [e0 _ (by omega) (by omega), u _ (by omega)]; exact g4.2.2.2.1
  · rw [e0 _ (by omega) (by omega), u _ (by omega)]; exact g4.2.2.2.2
  · rw [e1 _ hi, u _ (by omega)]; exact g5 i hi
  · rw [e2 _ hi, u _ (by omega)]; exact g6 i hi
  · rw [e3 _ _ (by omega) (by omega) (by omega), u _ (by omega)]; exact g7 i hi
  · rw [e3 _ _ (by omega) (by omega) (by omega), u _ (by omega)]; exact g8 b hb
  · rw [u _ (by omega)] at z
    rw [e3 _ _ (by omega) (by omega) (by omega), e3 _ _ (by omega) (by omega) (by omega), u _ (by omega), u _ (by omega)]; exact g9 b hb z
  · rw [e3 _ _ (by omega) (by omega) (by omega), u _ (by omega)]; exact g10 b hb
  · rw [e0 _ (by omega) (by omega), g13.1]; exact (sp_lset_cg _ _ _ (fun x h1 h2 => by rw [u _ (by omega)])).symm
  · rw [e0 _ (by omega) (by omega), g13.2]; exact (sp_lean_cg _ _ _ (fun x h1 h2 => ⟨by rw [u _ (by omega)], by rw [sp_wei, sp_wei, u _ (by omega), u _ (by omega)]⟩)).symm
  · unfold cS
    rw [sp_lmany_cg _ _ _ (fun x h1 h2 => by rw [u _ (by omega)]), u _ (by omega)]
    exact g14
theorem yl_105 (ho : ok n ns W) (h : CR true n ns I (xcR true I) W) (htk : tk R) (hp : ∀ R', CR false n ns I R' (th_0 W) → R' 9 9 = Int32.ofInt (-1) → (∀ j, ¬ j = 9 → R' 9 j = R 9 j) → Q none (xq_s g J (xc false I R'))) : xq_wp (d + 1) 105 (xq_s g J (xc false I R)) 0 [.ref 34] [] Q := by
  refine yt_105 ?_
  refine cp_71 (a := 35) (b := 18) sh_35 sh_18 (by omega) (fun I' f0 f8 f9 f10 f11 f12 f13 f14 a1 a2 a3 a4 a5 a6 a7 a8 => ?_)
  dsimp only at f0 f8 f9 f10 f11 f12 f13 f14 a1 a2 a3 a4 a5 a6 a7 a8
  have o18 : ∀ t, 18 ≤ t → t < 27 → xc false I R t = I t := fun t t1 t2 => xc_out (fun i hi e => by have := xid_f hi; omega)
  have e : I' = xc false I (xcR false I') := by
    refine xc_ext (fun i hi => rfl) (fun a ha => ?_)
    have : a < 35 ∨ 35 + 8 < a := by
      rcases Nat.lt_or_ge a 35 with y | y
      · exact Or.inl y
      · rcases Nat.lt_or_ge a 44 with y2 | y2
        · obtain ⟨i, hi, e⟩ := xid_f2 ⟨y, y2⟩
          exact absurd e (ha i hi)
        · exact Or.inr (by omega)
    rw [f0 a this, xc_out ha]
  have r9 : xcR false I' 9 = R 9 := by
    show I' 46 = _
    rw [f0 46 (by omega)]
    exact xc_in (q := false) 9 (by omega)
  have r11 : xcR false I' 11 = R 11 := by
    show I' 47 = _
    rw [f0 47 (by omega)]
    exact xc_in (q := false) 11 (by omega)
  show xq_wp _ 105 (xq_s g J I') 14 _ _ Q
  rw [e]
  refine yt_105_14 (d := d + 1) (hp _ (CR_r9 (j := 9) (CR_th h ho.2.2.2.2.2.2.2.2.2.2 ho.1.2.1 ho.1.2.2.2 ⟨by rw [r9]; exact htk.1, by rw [r11]; exact htk.2.1, by rw [r11]; exact htk.2.2⟩ ?_ ?_ ?_ ?_) (by omega)) (by rw [xw_v]) (fun j hj => by rw [xw_x hj, r9]))
  · intro j j1 j2
    show I' 35 j = I 18 j
    rw [o18 18 (by omega) (by omega)] at f8 f9 f10 f11 f12 f13 f14
    have : j = 8 ∨ j = 9 ∨ j = 10 ∨ j = 11 ∨ j = 12 ∨ j = 13 ∨ j = 14 := by omega
    rcases this with e | e | e | e | e | e | e <;> (subst e; assumption)
  · intro j hj
    show I' 36 j = I 19 j
    have := a1 j hj
    rw [o18 (18 + 1) (by omega) (by omega)] at this
    exact this
  · intro j hj
    show I' 37 j = I 20 j
    have := a2 j hj
    rw [o18 (18 + 2) (by omega) (by omega)] at this
    exact this
  · intro i j i1 i2 hj
    have : i = 3 ∨ i = 4 ∨ i = 5 ∨ i = 6 ∨ i = 7 := by omega
    rcases this with e | e | e | e | e <;> subst e
    · have := a3 j hj; rw [o18 (18 + 3) (by omega) (by omega)] at this; exact this
    · have := a4 j hj; rw [o18 (18 + 4) (by omega) (by omega)] at this; exact this
    · have := a5 j hj; rw [o18 (18 + 5) (by omega) (by omega)] at this; exact this
    · have := a6 j hj; rw [o18 (18 + 6) (by omega) (by omega)] at this; exact this
    · have := a7 j hj; rw [o18 (18 + 7) (by omega) (by omega)] at this; exact this
/-- nobody is held -/
theorem hh_no {hB hU : Int32} {kw : Nat} (hn : n ≤ 14) (h : hB = Int32.ofInt (-1)) : ∀ i, i < 300 → ∀ b, b < n → (nI b = (if i < 0 then blk else Int32.ofInt (-1)) ↔ nI b = hB ∧ nI (kw + i) < hU) := by
  intro i hi b hb
  rw [if_neg (by omega), h]
  exact ⟨fun y => absurd y (nI_m1 (by omega)), fun y => absurd y.1 (nI_m1 (by omega))⟩
theorem lim_big (ho : ok n ns W) (hw : thw W) : th_by n blk idle (nI 1000000) W = th_close n blk idle W := by
  unfold th_by th_lim
  rcases th_close_val (blk := blk) (idle := idle) ho hw with y | ⟨j, hj, e⟩
  · rw [if_pos (Or.inl y), y]
  · rw [e, if_neg]
    rintro (y | y)
    · exact nI_m1 (by omega) y
    · rw [xn_lt (by omega) (by omega)] at y; omega
theorem by_in {wk : Int32} (ho : ok n ns W) (hw : thw W) : th_by n blk idle wk W = Int32.ofInt (-1) ↔ ¬ th_in wk (th_close n blk idle W) := by
  unfold th_by th_lim
  rcases th_close_val (blk := blk) (idle := idle) ho hw with y | ⟨j, hj, e⟩
  · rw [if_pos (Or.inl y), y]
    exact ⟨fun _ z => z.1 (by decide), fun _ => rfl⟩
  · rw [e]
    by_cases q : wk < nI j
    · rw [if_pos (Or.inr q)]
      exact ⟨fun _ z => z.2 q, fun _ => rfl⟩
    · rw [if_neg (fun z => z.elim (nI_m1 (by omega)) q)]
      refine ⟨fun z => absurd z (nI_m1 (by omega)), fun z => absurd ⟨?_, q⟩ z⟩
      rw [xn_lt (by omega) (by omega)]; omega
end yk_an
