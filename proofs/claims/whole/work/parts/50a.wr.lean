/-! what is told: frames -/
section xk_wr
variable {g : xq_V} {n ns : Nat} {I I' R' : Nat → xw} {W W' : xw}
theorem ivK_fr2 (h : ivK g I) (e128 : I' 128 = I 128) (eY : ∀ a, 143 ≤ a → I' a = I a) (e5 : I' 126 5 = I 126 5) (e32 : I' 32 4 = I 32 4) : ivK g I' := by
  rcases h with ⟨h1, h2⟩ | ⟨y, n, ns, h1, h2, h3, h4, h5, h6, h6b, h7, h8⟩
  · exact Or.inl ⟨h1, e5.trans h2⟩
  · right
    have ek : ∀ a, (1 ≤ a ∧ a < 32) → kI y I' a = kI y I a := fun a ha => by
      unfold kI; rw [if_pos ha, if_pos ha, eY _ (by omega)]
    refine ⟨y, n, ns, h1, h2, e5.trans h3, h4, ?_, ?_, ?_, ?_, ?_⟩
    · rw [e128]; exact h5
    · rw [e128]; exact h6
    · rw [e128]; exact h6b
    · rw [e128]
      refine CR_cells h7 (fun a ha => ek a (by omega)) ?_
      show (if 1 ≤ 32 ∧ 32 < 32 then I' (y + (32 - 1)) else I' 32) 4 = (if 1 ≤ 32 ∧ 32 < 32 then I (y + (32 - 1)) else I 32) 4
      rw [if_neg (by omega), if_neg (by omega)]; exact e32
    · rw [e128, ek 14 (by omega), ek 15 (by omega), ek 16 (by omega), ek 17 (by omega)]; exact h8
theorem ivH_fr (hn : n ≤ 14) (h : ivH n ns I) (e : ∀ a, (2 ≤ a ∧ a < 7) ∨ a = 56 ∨ (58 ≤ a ∧ a < 104) ∨ a = 129 → I' a = I a) (e4 : I' 126 4 = I 126 4) (e6 : sp_ix (I 127) 6 ≤ sp_ix (I' 127) 6) : ivH n ns I' := by
  obtain ⟨c, r, h1, h2, h3, h4, h5, h6⟩ := h
  refine ⟨c, r, h1, h2, e4.trans h3, by rw [e 56 (by omega)]; exact h4, by rw [e 56 (by omega)]; exact h5, fun j hj => ?_⟩
  have q := h6 j hj
  have hm : (r + 5 - c + j) % 5 < 5 := Nat.mod_lt _ (by omega)
  generalize (r + 5 - c + j) % 5 = ρ at q hm ⊢
  rw [e 129 (by omega), e 58 (by omega)]
  have ec : cGb n I' (fun p => I 129 (250 * j + p)) = cGb n I (fun p => I 129 (250 * j + p)) := by
    unfold cGb; rw [e 2 (by omega), e 3 (by omega), e 4 (by omega), e 5 (by omega), e 6 (by omega)]
  rw [ec]
  obtain ⟨q1, q2, q3, q4, q5, q6⟩ := q
  have q61 := q6.1
  have er : ∀ i, i < 9 → I' (59 + 9 * ρ + i) = I (59 + 9 * ρ + i) := fun i hi => e _ (by omega)
  exact ⟨q1, q2, q3, cSt_ext q4 hn (fun j _ _ => congrFun (er 0 (by omega)) j) (fun j _ => congrFun (er 1 (by omega)) j) (fun j _ => congrFun (er 2 (by omega)) j) (fun i j i1 i2 _ => congrFun (er i (by omega)) j) (fun j _ => congrFun (er 8 (by omega)) j), q5, by omega, q6.2⟩
theorem ivH_0 {r : Nat} (hr : r < 5) (h1 : I 126 4 = nI 0) (h2 : I 56 3 = nI 0) (h3 : I 56 2 = nI r) : ivH n ns I := ⟨0, r, by omega, hr, h1, h2, h3, fun j hj => by omega⟩
theorem ivT_fr (h : ivT I) (e46 : ∀ j, j = 4 ∨ j = 10 → I' 46 j = I 46 j) (e47 : ∀ j, j = 0 ∨ j = 1 → I' 47 j = I 47 j) : ivT I' := by
  obtain ⟨⟨a1, a2, a3⟩, a4⟩ := h
  exact ⟨⟨(e46 4 (by omega)).trans a1, (e47 0 (by omega)).trans a2, (e47 1 (by omega)).trans a3⟩, (e46 10 (by omega)).trans a4⟩
theorem ivR_fr (h : ivR I) (e104 : I' 104 = I 104) (e105 : I' 105 = I 105) (e135 : I' 135 = I 135) (eA : ∀ j, j = 18 ∨ j = 25 ∨ j = 27 → I' 126 j = I 126 j) : ivR I' := by
  unfold ivR at h ⊢
  rw [e104, e105, e135, eA 18 (by omega), eA 25 (by omega), eA 27 (by omega)]
  exact h
theorem plR_fr {s0 : Int32} {D M P : xw} (h : plR s0 D M P W) (e : ∀ p, 1960 ≤ p → W' p = W p) : plR s0 D M P W' := by
  obtain ⟨s, h1, h2, h3, h4⟩ := h
  refine ⟨s, h1, h2, by rw [e _ (by omega)]; exact h3, fun i hi => ?_⟩
  have := h4 i hi
  unfold plS at this ⊢
  rw [e _ (by omega), e _ (by omega), e _ (by omega)]
  exact this
theorem CR_at (h : CR true n ns I R' W) (e : ∀ a, 2 ≤ a ∧ a < 12 → I' a = I a) (er : ∀ i, i < 9 ∨ (11 ≤ i ∧ i < 16) → I' (xid true i) = R' i) (e4 : I' 32 4 = R' 9 4) : CR true n ns I' (xcR true I') W := by
  refine CR_mk ?_ ?_ (e4.trans (CR_real h)) ?_ ?_
  · have := CR_G h
    unfold cG at this ⊢
    rw [e 2 (by omega), e 3 (by omega), e 4 (by omega), e 5 (by omega), e 6 (by omega), e 7 (by omega), e 8 (by omega)]
    exact this
  · rw [e 9 (by omega), e 10 (by omega), e 11 (by omega)]; exact CR_law h
  · have := CR_cSt h
    unfold cSt cT0 cT1 cT2 cT3 cT4 cTA cT7 cT8 cL at this ⊢
    have hr : ∀ i, i < 9 → xcR true I' i = R' i := fun i hi => er i (Or.inl hi)
    rw [hr 0 (by omega), hr 1 (by omega), hr 2 (by omega), hr 3 (by omega), hr 4 (by omega), hr 5 (by omega), hr 6 (by omega), hr 7 (by omega), hr 8 (by omega)]
    exact this
  · have := CR_B h
    unfold cB at this ⊢
    have hb : ∀ i, 11 ≤ i → i < 16 → xcR true I' i = R' i := fun i h1 h2 => er i (Or.inr ⟨h1, h2⟩)
    rw [hb 11 (by omega) (by omega), hb 12 (by omega) (by omega), hb 13 (by omega) (by omega), hb 14 (by omega) (by omega), hb 15 (by omega) (by omega)]
    exact this
/-- draws, told -/
theorem CR_draws {v : Int32} {R : Nat → xw} (ho : ok n ns W) (h : CR true n ns I R W) : CR true n ns I (xq_w R 0 8 v) (upd W 7 v) := by
  refine CR_oth (F := fun p => p = 7) ho h (fun p hp => upd_ne hp) (fun p hp => by omega) (xw_i (by omega)) (xw_i (by omega)) (xw_i (by omega)) (xw_i (by omega)) (by rw [xw_i (by omega)]) (xw_i (by omega)) (xw_i (by omega)) (xw_i (by omega)) (xw_i (by omega)) (xw_i (by omega)) ⟨xw_x (by omega), xw_x (by omega)⟩ ⟨?_, ?_, ?_, ?_, ?_⟩ (fun i hi => ?_) (fun i hi => ?_) (fun b hb => ?_) (fun hq b k hb hk => ?_)
  · rw [xw_x (by omega), upd_ne (by omega)]; exact (CR_0 h).1
  · rw [xw_x (by omega), upd_ne (by omega)]; exact (CR_0 h).2.1
  · rw [xw_x (by omega), upd_ne (by omega)]; exact (CR_0 h).2.2.1
  · rw [xw_x (by omega), upd_ne (by omega)]; exact (CR_0 h).2.2.2.1
  · rw [xw_v, upd_eq]
  · rw [xw_i (by omega), upd_ne (by omega)]; exact CR_1 h i hi
  · rw [xw_i (by omega), upd_ne (by omega)]; exact CR_2 h i hi
  · rw [xw_i (by omega), upd_ne (by omega)]; exact CR_7 h b hb
  · have := ho.1.2.1
    rw [xw_i (by omega), upd_ne (by omega)]; exact CR_8 h hq b k hb hk
theorem bkw_fr (ho : okb W) (h : bkw W) (e6 : W' 6 = W 6) (e : ∀ p, 270 ≤ p → p < 1075 → W' p = W p) : bkw W' := by
  obtain ⟨l, hl, el⟩ := ho
  have e1 : sp_ix W' 6 = sp_ix W 6 := by rw [sp_ix, e6, sp_ix]
  have e2 : sp_ix W 6 = l := xk_ix el (by omega)
  intro i hi
  rw [e1, e2] at hi
  have := h i (by rw [e2]; exact hi)
  rw [e _ (by omega) (by omega), e _ (by omega) (by omega), e _ (by omega) (by omega)]
  exact this
theorem w9_fr (h : w9 W) (e : W' 2 = W 2) : w9 W' := by
  obtain ⟨k, hk, ek⟩ := h
  exact ⟨k, hk, e.trans ek⟩
/-- something is told: the past is forgotten, the soonest too -/
theorem iv_told (h : iv g I) (hA : ivA n ns I') (h1 : I' 34 4 = nI 0) (h2 : I' 56 3 = nI 0) (h3 : I' 126 4 = nI 0) (h4 : I' 56 2 = I 56 2) (hP : ivP I') (eT : ∀ a, a = 46 ∨ a = 47 ∨ a = 104 ∨ a = 105 ∨ a = 128 ∨ a = 135 ∨ 143 ≤ a → I' a = I a) (eA : ∀ j, j = 5 ∨ j = 18 ∨ j = 25 ∨ j = 27 → I' 126 j = I 126 j) (e32 : I' 32 4 = I 32 4) : iv g I' := by
  obtain ⟨n0, ns0, -, hT, -, hR, -, ⟨c, r, -, hr, -, -, er, -⟩, hK, hJ⟩ := h
  exact ⟨n, ns, hA, ivT_fr hT (fun j _ => by rw [eT 46 (by omega)]) (fun j _ => by rw [eT 47 (by omega)]), hP, ivR_fr hR (eT 104 (by omega)) (eT 105 (by omega)) (eT 135 (by omega)) (fun j hj => eA j (by omega)), Or.inl h1, ivH_0 hr h3 h2 (h4.trans er), ivK_fr2 hK (eT 128 (by omega)) (fun a ha => eT a (by omega)) (eA 5 (by omega)) e32, hJ⟩
end xk_wr
