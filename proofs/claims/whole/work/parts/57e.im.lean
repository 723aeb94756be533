/-! THE IMAGE: rows that agree; the runs -/
section xk_im3
variable {d : Nat} {g g' : xq_V} {J : Nat → Nat → Int64} {I I' R : Nat → xw} {Q : Option Value → xq_S → Prop} {n ns y : Nat} {A W W' V : xw}
theorem ok_ext (h : ok n ns W) (e : ∀ p, p < 2262 → W' p = W p) : ok n ns W' := by
  obtain ⟨s1, sb, s2, s3, s4, s5, s6, s7, s8⟩ := okS_ext (ok_S h) (fun p hp => e p (by omega))
  have := h.1.2.2.2
  exact ⟨s1, sb, s2, s3, s4, s5, s6, s7, s8, ok9_fr h.2.2.2.2.2.2.2.2.2.1 (fun k hk => e _ (by omega)), sp_law_fr h.2.2.2.2.2.2.2.2.2.2 (fun p p1 p2 => e p (by omega))⟩
theorem CR_W (ho : ok n ns W) (h : CR true n ns I R W) (e : ∀ p, p < 2262 → W' p = W p) : CR true n ns I R W' := by
  have n14 := ho.1.2.1
  have ns8 := ho.1.2.2.2
  have hG := CR_G h
  have hB := (CR_B h).1 rfl
  have i6 : sp_ix W' 6 = sp_ix W 6 := by unfold sp_ix; rw [e 6 (by omega)]
  obtain ⟨l, hl, el⟩ := ho.2.1
  have i6' : sp_ix W 6 = l := xk_ix el (by omega)
  refine CR_mk ⟨hG.1.trans (e 0 (by omega)).symm, hG.2.1.trans (e 1 (by omega)).symm, fun b hb => ?_, fun k hk => ?_⟩ (cLaw_fr ho.2.2.2.2.2.2.2.2.2.2 (CR_law h) (fun p p1 p2 => e p (by omega))) (CR_real h) (cSt_V n14 (CR_cSt h) (fun p hp => e p (by omega))) ⟨fun _ => ⟨hB.1, hB.2.1.trans (e 6 (by omega)).symm, fun i hi => ?_⟩, fun z => absurd z (by decide)⟩
  · rw [e _ (by omega), e _ (by omega), e _ (by omega), e _ (by omega)]; exact hG.2.2.1 b hb
  · rw [e _ (by omega), e _ (by omega)]; exact hG.2.2.2 k hk
  · rw [e _ (by omega), e _ (by omega), e _ (by omega), e _ (by omega)]; exact hB.2.2 i (by omega)
theorem plR_W {s0 : Int32} {D M P : xw} (h : plR s0 D M P W) (e : ∀ p, p < 2262 → W' p = W p) : plR s0 D M P W' := by
  obtain ⟨s, h1, h2, h3, h4⟩ := h
  refine ⟨s, h1, h2, by rw [e _ (by omega)]; exact h3, fun i hi => ?_⟩
  have := h4 i hi
  unfold plS at this ⊢
  rw [e _ (by omega), e _ (by omega), e _ (by omega)]
  exact this
theorem xl_271_0 : ∀ (t i : Nat) (W : xw), i + t = 2262 → Q (some (.int (nI 1))) (xq_s g J (xiv I (upd (upd A 4 (nI 0)) 5 (nI 1)) (fun p => if i ≤ p ∧ p < 2262 then V p else W p) V)) → xq_wp (d + 1) 271 (xq_s g J (xiv I A W V)) 15 [.ref 126, .int (nI 0), .int (nI i)] [] Q := by
  intro t
  induction t with
  | zero =>
    intro i W hi hp
    refine xu_271_15_0 (d := d) ⟨by omega, fun h => absurd h (by omega), fun _ => ?_⟩
    have : (fun p => if i ≤ p ∧ p < 2262 then V p else W p) = W := by
      funext p; rw [if_neg (by omega)]
    rw [this] at hp
    exact hp
  | succ t ih =>
    intro i W hi hp
    refine xu_271_15_0 (d := d) ⟨by omega, fun h => ih (i + 1) _ (by omega) ?_, fun h => absurd (by omega) h⟩
    have : (fun p => if i + 1 ≤ p ∧ p < 2262 then V p else upd W i (V i) p) = (fun p => if i ≤ p ∧ p < 2262 then V p else W p) := by
      funext p
      by_cases ep : p = i
      · subst ep; rw [if_neg (by omega), if_pos (by omega), upd_eq]
      · by_cases hq : i + 1 ≤ p ∧ p < 2262
        · rw [if_pos hq, if_pos (by omega)]
        · rw [if_neg hq, if_neg (by omega), upd_ne ep]
    rw [this]
    exact hp
theorem xl_271_1 : ∀ (t i : Nat) (V : xw), i + t = 2262 → Q (some (.int (nI 1))) (xq_s g J (xiv I (upd A 5 (nI 1)) W (fun p => if i ≤ p ∧ p < 2262 then W p else V p))) → xq_wp d 271 (xq_s g J (xiv I A W V)) 15 [.ref 126, .int (nI 1), .int (nI i)] [] Q := by
  intro t
  induction t with
  | zero =>
    intro i V hi hp
    refine xu_271_15_1 (d := d) ⟨by omega, fun h => absurd h (by omega), fun _ => ?_⟩
    have : (fun p => if i ≤ p ∧ p < 2262 then W p else V p) = V := by
      funext p; rw [if_neg (by omega)]
    rw [this] at hp
    exact hp
  | succ t ih =>
    intro i V hi hp
    refine xu_271_15_1 (d := d) ⟨by omega, fun h => ih (i + 1) _ (by omega) ?_, fun h => absurd (by omega) h⟩
    have : (fun p => if i + 1 ≤ p ∧ p < 2262 then W p else upd V i (W i) p) = (fun p => if i ≤ p ∧ p < 2262 then W p else V p) := by
      funext p
      by_cases ep : p = i
      · subst ep; rw [if_neg (by omega), if_pos (by omega), upd_eq]
      · by_cases hq : i + 1 ≤ p ∧ p < 2262
        · rw [if_pos hq, if_pos (by omega)]
        · rw [if_neg hq, if_neg (by omega), upd_ne ep]
    rw [this]
    exact hp
theorem iv_im (h : iv g I) (e : ∀ a, a < 143 → ¬ a = 126 → ¬ a = 128 → I' a = I a) (eA : ∀ j, ¬ j = 5 → I' 126 j = I 126 j) (hK : ivK g' I') (hJ : ivJ g') : iv g' I' := by
  obtain ⟨n, ns, hA, hT, hP, hR, hS, hH, -, -⟩ := h
  have e127 : I' 127 = I 127 := e 127 (by omega) (by omega) (by omega)
  refine ⟨n, ns, ?_, ivT_fr hT (fun j _ => by rw [e 46 (by omega) (by omega) (by omega)]) (fun j _ => by rw [e 47 (by omega) (by omega) (by omega)]), ?_, ivR_fr hR (e 104 (by omega) (by omega) (by omega)) (e 105 (by omega) (by omega) (by omega)) (e 135 (by omega) (by omega) (by omega)) (fun j hj => eA j (by omega)), ?_, ivH_fr hA.1.1.2.1 hH (fun a ha => e a (by omega) (by omega) (by omega)) (eA 4 (by omega)) (by rw [e127]; exact Nat.le_refl _), hK, hJ⟩
  · obtain ⟨a1, a2, a2b, a3, a4, a5⟩ := hA
    unfold ivA
    rw [e127]
    exact ⟨a1, a2, a2b, CR_cells a3 (fun a ha => e a (by omega) (by omega) (by omega)) (by rw [e 32 (by omega) (by omega) (by omega)]), by rw [e 32 (by omega) (by omega) (by omega)]; exact a4, (eA 29 (by omega)).trans a5⟩
  · unfold ivP at hP ⊢
    rw [e127, e 14 (by omega) (by omega) (by omega), e 15 (by omega) (by omega) (by omega), e 16 (by omega) (by omega) (by omega), e 17 (by omega) (by omega) (by omega)]
    exact hP
  · unfold ivS at hS ⊢
    rw [e127, e 34 (by omega) (by omega) (by omega), e 45 (by omega) (by omega) (by omega)]
    exact hS
theorem xq_wp.gfN {m pc : Nat} {x : xq_S} {L st : List Value} {i0 len c k z o sz : Nat} (hc : xq_code m pc = some (.getfield i0, len, c, k, z)) (hN : o < xq_N x) (hK : xq_K x o = (c, sz)) (hs : k < sz) (hf : xq_ft c k = 2) (hr : xq_R x o k = none) (g : xq_wp d m x (pc + 3) L (.null :: st) Q) : xq_wp d m x pc L (.ref o :: st) Q := by
  refine xq_wp.step hc rfl (by simp only [xq_ret]) ?_ g
  simp only [xq_step, xq_getf, hN, hK, hs, decide_true, Bool.and_self, if_true, hf, hr, xq_rv]
/-- the class puts THE IMAGE back -/
theorem zl_153_0 (hg : g.2.2.2.2.1 = some y) (hy : 143 ≤ y) (hsh : shY (xq_s g J I) y) {cnt : Nat} (hcnt : cnt ≤ 200) (h0 : I 27 0 = nI 200) (h1 : I (y + 26) 1 = nI cnt) (hp : ∀ I' : Nat → xw, (∀ t, t < 1 ∨ 31 < t → I' t = I t) → yc I' I 1 y cnt → Q (some (.int (nI 1))) (xq_s g J (xq_w (xq_w I' 56 3 (nI 0)) 34 4 (nI 0)))) : xq_wp (d + 4) 153 (xq_s g J I) 0 [.ref 0, .int (nI 0)] [] Q := by
  have n0 : 0 < xq_N (xq_s g J I) := by show 0 < g.1 + 143; omega
  refine xq_wp.go (k := 3) (x' := xq_s g J I) (pc' := 36) (L' := [.ref 0, .int (nI 0)]) (st' := [.ref 0]) (fun F => rfl) ?_
  refine xq_wp.gfR (sz := 10) (r := y) rfl n0 rfl (by decide) rfl hg ?_
  refine xq_wp.go (k := 4) (x' := xq_s g J I) (pc' := 49) (L' := [.ref 0, .int (nI 0)]) (st' := [.ref 0, .ref 1]) (fun F => rfl) ?_
  refine xq_wp.gfR (sz := 10) (r := y) rfl n0 rfl (by decide) rfl hg ?_
  refine xq_wp.cv (d := d + 3) (o := 1) (sz := 5) rfl (by decide) (by show 1 < g.1 + 143; omega) rfl (cp_154 (d := d + 1) (a := 1) (b := y) sh_y1 hsh (by omega) hcnt h0 h1 (fun I' o' hyc => ?_))
  exact zc_153_55 (d := d + 2) (I := I') (g := g) (J := J) (z := nI 0) (hp I' (fun t ht => o' t (by omega)) hyc)
/-- the class keeps THE IMAGE where one was kept -/
theorem zl_153_22 (hg : g.2.2.2.2.1 = some y) (hy : 143 ≤ y) (hsh : shY (xq_s g J I) y) {cnt : Nat} (hcnt : cnt ≤ 200) (h0 : I (y + 26) 0 = nI 200) (h1 : I 27 1 = nI cnt) (hp : ∀ I' : Nat → xw, (∀ t, t < y ∨ y + 30 < t → I' t = I t) → yc I' I y 1 cnt → Q (some (.int (nI 1))) (xq_s g J I')) : xq_wp (d + 3) 153 (xq_s g J I) 22 [.ref 0, .int (nI 1)] [] Q := by
  have n0 : 0 < xq_N (xq_s g J I) := by show 0 < g.1 + 143; omega
  refine xq_wp.go (k := 1) (x' := xq_s g J I) (pc' := 23) (L' := [.ref 0, .int (nI 1)]) (st' := [.ref 0]) (fun F => rfl) ?_
  refine xq_wp.gfR (sz := 10) (r := y) rfl n0 rfl (by decide) rfl hg ?_
  refine xq_wp.go (k := 2) (x' := xq_s g J I) (pc' := 30) (L' := [.ref 0, .int (nI 1)]) (st' := [.ref 1, .ref y]) (fun F => rfl) ?_
  refine xq_wp.cv (d := d + 2) (o := y) (sz := 5) rfl (by decide) hsh.1 hsh.2.1 (cp_154 (d := d) (a := y) (b := 1) hsh sh_y1 (by omega) hcnt h0 h1 (fun I' o' hyc => ?_))
  exact xq_wp.ret (k := 2) (fun F => rfl) (hp I' o' hyc)
theorem zl_153_1 (hg : g.2.2.2.2.1 = some y) (hp : xq_wp (d + 3) 153 (xq_s g J I) 22 [.ref 0, .int (nI 1)] [] Q) : xq_wp (d + 3) 153 (xq_s g J I) 0 [.ref 0, .int (nI 1)] [] Q := by
  have n0 : 0 < xq_N (xq_s g J I) := by show 0 < g.1 + 143; omega
  refine xq_wp.go (k := 3) (x' := xq_s g J I) (pc' := 5) (L' := [.ref 0, .int (nI 1)]) (st' := [.ref 0]) (fun F => rfl) ?_
  refine xq_wp.gfR (sz := 10) (r := y) rfl n0 rfl (by decide) rfl hg ?_
  exact xq_wp.go (k := 1) (x' := xq_s g J I) (pc' := 22) (L' := [.ref 0, .int (nI 1)]) (st' := []) (fun F => rfl) hp
theorem zl_153_n0 (hg : g.2.2.2.2.1 = none) (hp : Q (some (.int (nI 0))) (xq_s g J I)) : xq_wp d 153 (xq_s g J I) 0 [.ref 0, .int (nI 0)] [] Q := by
  have n0 : 0 < xq_N (xq_s g J I) := by show 0 < g.1 + 143; omega
  refine xq_wp.go (k := 3) (x' := xq_s g J I) (pc' := 36) (L' := [.ref 0, .int (nI 0)]) (st' := [.ref 0]) (fun F => rfl) ?_
  refine xq_wp.gfN (sz := 10) rfl n0 rfl (by decide) rfl hg ?_
  exact xq_wp.ret (k := 3) (fun F => rfl) hp
theorem zl_153_n1 (hg : g.2.2.2.2.1 = none) (hp : xq_wp d 153 (xq_s g J I) 11 [.ref 0, .int (nI 1)] [] Q) : xq_wp d 153 (xq_s g J I) 0 [.ref 0, .int (nI 1)] [] Q := by
  have n0 : 0 < xq_N (xq_s g J I) := by show 0 < g.1 + 143; omega
  refine xq_wp.go (k := 3) (x' := xq_s g J I) (pc' := 5) (L' := [.ref 0, .int (nI 1)]) (st' := [.ref 0]) (fun F => rfl) ?_
  refine xq_wp.gfN (sz := 10) rfl n0 rfl (by decide) rfl hg ?_
  exact xq_wp.go (k := 1) (x' := xq_s g J I) (pc' := 11) (L' := [.ref 0, .int (nI 1)]) (st' := []) (fun F => rfl) hp
end xk_im3
