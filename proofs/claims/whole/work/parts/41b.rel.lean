/-! class and row w: what holds between them -/
def cw (R : Nat → xw) (wk b e k : Int32) : Nat → xw := if R 11 1 < R 11 0 then xq_w (xq_w (xq_w (xq_w (xq_w R 12 (sp_ix (R 11) 1) wk) 13 (sp_ix (R 11) 1) b) 14 (sp_ix (R 11) 1) e) 15 (sp_ix (R 11) 1) k) 11 1 (R 11 1 + nI 1) else R
def cT0 (R : Nat → xw) (W : xw) : Prop := R 0 10 = W 2 ∧ R 0 9 = W 3 ∧ R 0 11 = W 4 ∧ R 0 12 = W 5 ∧ R 0 8 = W 7
def cT1 (R : Nat → xw) (W : xw) : Prop := ∀ i, i < 12 → R 1 i = W (10 + i)
def cT2 (R : Nat → xw) (W : xw) : Prop := ∀ i, i < 4 → R 2 i = W (24 + i)
def cT3 (n : Nat) (R : Nat → xw) (W : xw) : Prop := ∀ i, i < n → R 3 i = W (30 + i)
def cT4 (n : Nat) (R : Nat → xw) (W : xw) : Prop := ∀ b, b < n → R 4 b = W (50 + 14 * b + 4)
def cTA (n : Nat) (R : Nat → xw) (W : xw) : Prop := ∀ b, b < n → W (50 + 14 * b + 4) = nI 2 → R 5 b = W (50 + 14 * b + 5) ∧ R 6 b = W (50 + 14 * b + 6)
def cT7 (n : Nat) (R : Nat → xw) (W : xw) : Prop := ∀ b, b < n → R 7 b = W (50 + 14 * b + 1)
def cT8 (q : Bool) (n : Nat) (R : Nat → xw) (W : xw) : Prop := q = true → ∀ b k, b < n → k < 5 → R 8 (b * 5 + k) = W (50 + 14 * b + (7 + k))
def cB (q : Bool) (R : Nat → xw) (W : xw) : Prop := (q = true → R 11 0 = nI 200 ∧ R 11 1 = W 6 ∧ ∀ i, i < sp_ix W 6 → R 12 i = W (270 + 4 * i) ∧ R 13 i = W (270 + 4 * i + 1) ∧ R 14 i = W (270 + 4 * i + 2) ∧ R 15 i = W (270 + 4 * i + 3)) ∧ (q = false → R 11 0 = nI 0 ∧ R 11 1 = nI 0 ∧ W 6 = nI 200)
def cL (n : Nat) (R : Nat → xw) (W : xw) : Prop := R 0 13 = sp_lset W n 0 (nI 0) ∧ R 0 14 = sp_lean W n 0 (nI 0)
def cS (n : Nat) (W : xw) : Prop := W 5 = Int32.ofInt (-1) ↔ sp_lmany W n 0 (nI 0) = nI 0
def cG (n ns : Nat) (I : Nat → xw) (W : xw) : Prop := I 2 0 = W 0 ∧ I 2 5 = W 1 ∧ (∀ b, b < n → I 3 b = W (50 + 14 * b + 0) ∧ (I 5 b = W (50 + 14 * b + 2) ∧ I 4 b = W (50 + 14 * b + 12)) ∧ I 6 b = W (50 + 14 * b + 3)) ∧ (∀ k, k < ns → I 7 k = W (250 + 2 * k) ∧ I 8 k = W (250 + 2 * k + 1))
/-- the class's code of a step of the law -/
def cStep (C W : xw) (i p p' : Nat) : Prop := (p' = p + 1 ∧ ((W (1140 + 2 * i) = nI 0 ∧ ∃ v, v ≤ 9999 ∧ W (1140 + 2 * i + 1) = nI v ∧ C p = nI (100 + v)) ∨ ∃ s, W (1140 + 2 * i) = nI s ∧ ((1 ≤ s ∧ s < 9 ∧ C p = nI (s - 1)) ∨ (13 ≤ s ∧ s < 16 ∧ C p = nI (s - 5)) ∨ (17 ≤ s ∧ s < 20 ∧ C p = nI (s - 5)) ∨ (s = 20 ∧ C p = nI 17) ∨ (21 ≤ s ∧ s < 23 ∧ C p = nI (s - 6))))) ∨ (p' = p + 2 ∧ W (1140 + 2 * i) = nI 16 ∧ ∃ v, 1 ≤ v ∧ v ≤ 9999 ∧ W (1140 + 2 * i + 1) = nI v ∧ C p = nI (100 + v) ∧ C (p + 1) = nI 11)
def cLaw (l0 : Int32) (C E W : xw) : Prop := l0 = W 1075 ∧ ∃ po : Nat → Nat, po 0 = 0 ∧ (∀ m, W 1075 = nI m → m ≤ 16 → (0 < m → W 1080 = nI 0) ∧ ∀ l, l < m → (l + 1 < m → W (1080 + (l + 1)) = W (1120 + l)) ∧ E l = nI (po (sp_ix W (1120 + l))) ∧ po (sp_ix W (1120 + l)) ≤ 400 ∧ ∀ i, i < sp_ix W (1120 + l) → cStep C W i (po i) (po (i + 1)))
def CR (q : Bool) (n ns : Nat) (I R : Nat → xw) (W : xw) : Prop := cG n ns I W ∧ cLaw (I 9 0) (I 10) (I 11) W ∧ R 9 4 = sp_b2 q ∧ cT0 R W ∧ cT1 R W ∧ cT2 R W ∧ cT3 n R W ∧ cT4 n R W ∧ cTA n R W ∧ cT7 n R W ∧ cT8 q n R W ∧ cB q R W ∧ cL n R W ∧ cS n W
section xk_rel
variable {q : Bool} {n ns : Nat} {I R R' : Nat → xw} {W W' : xw}
theorem sp_lset_cg : ∀ (c b : Nat) (v : Int32), (∀ x, b ≤ x → x < b + c → (W' (50 + 14 * x + 4) = nI 4 ↔ W (50 + 14 * x + 4) = nI 4)) → sp_lset W' c b v = sp_lset W c b v
  | 0, _, _, _ => rfl
  | c + 1, b, v, h => by
    have h0 := h b (by omega) (by omega)
    simp only [sp_lset, h0]
    exact sp_lset_cg c (b + 1) _ (fun x h1 h2 => h x (by omega) (by omega))
theorem sp_lmany_cg : ∀ (c b : Nat) (v : Int32), (∀ x, b ≤ x → x < b + c → (W' (50 + 14 * x + 4) = nI 4 ↔ W (50 + 14 * x + 4) = nI 4)) → sp_lmany W' c b v = sp_lmany W c b v
  | 0, _, _, _ => rfl
  | c + 1, b, v, h => by
    have h0 := h b (by omega) (by omega)
    simp only [sp_lmany, h0]
    exact sp_lmany_cg c (b + 1) _ (fun x h1 h2 => h x (by omega) (by omega))
theorem sp_lean_cg : ∀ (c b : Nat) (v : Int32), (∀ x, b ≤ x → x < b + c → (W' (50 + 14 * x + 4) = nI 4 ↔ W (50 + 14 * x + 4) = nI 4) ∧ sp_wei W' x = sp_wei W x) → sp_lean W' c b v = sp_lean W c b v
  | 0, _, _, _ => rfl
  | c + 1, b, v, h => by
    have h0 := h b (by omega) (by omega)
    simp only [sp_lean, h0.1, h0.2]
    exact sp_lean_cg c (b + 1) _ (fun x h1 h2 => h x (by omega) (by omega))
theorem cStep_fr {C : xw} {i p p' : Nat} (h : cStep C W i p p') (e1 : W' (1140 + 2 * i) = W (1140 + 2 * i)) (e2 : W' (1140 + 2 * i + 1) = W (1140 + 2 * i + 1)) : cStep C W' i p p' := by
  unfold cStep at h ⊢
  rw [e1, e2]
  exact h
theorem cLaw_fr {l0 : Int32} {C E : xw} (hl : sp_law W) (h : cLaw l0 C E W) (e : ∀ p, 1075 ≤ p → p < 1960 → W' p = W p) : cLaw l0 C E W' := by
  obtain ⟨h1, po, h2, h3⟩ := h
  obtain ⟨m', hm', em', hl⟩ := hl
  refine ⟨h1.trans (e _ (by omega) (by omega)).symm, po, h2, fun m hm hm16 => ?_⟩
  rw [e _ (by omega) (by omega)] at hm
  have em : m = m' := (xn_eq (by omega) (by omega)).mp (hm.symm.trans em')
  subst em
  obtain ⟨h5, h4⟩ := h3 m hm hm16
  refine ⟨fun z => (e _ (by omega) (by omega)).trans (h5 z), fun l hl' => ?_⟩
  obtain ⟨a1, a2, a3, a4⟩ := h4 l hl'
  obtain ⟨a, b, c, q1, q2, q3, q4, q5, q6, q7, q8⟩ := hl l hl'
  have i1 : sp_ix W' (1120 + l) = sp_ix W (1120 + l) := by rw [sp_ix, e _ (by omega) (by omega), sp_ix]
  have i2 : sp_ix W (1120 + l) = c := xk_ix q6 (by omega)
  rw [i1]
  refine ⟨fun z => ?_, a2, a3, fun i hi => cStep_fr (a4 i hi) (e _ (by omega) (by omega)) (e _ (by omega) (by omega))⟩
  rw [e _ (by omega) (by omega), e _ (by omega) (by omega)]
  exact a1 z
/-- a row that differs from W in the book alone -/
theorem CR_bk (hl : sp_law W) (hn : n ≤ 14) (hs : ns ≤ 8) (h : CR q n ns I R W) (e : ∀ p, ¬ p = 6 → p < 270 → W' p = W p) (e2 : ∀ p, 1075 ≤ p → p < 1960 → W' p = W p) (er : ∀ i, i < 11 → R' i = R i) (hB : cB q R' W') : CR q n ns I R' W' := by
  obtain ⟨g1, g2, g3, g4, g5, g6, g7, g8, g9, g10, g11, g12, g13, g14⟩ := h
  have em : sp_lmany W' n 0 (nI 0) = sp_lmany W n 0 (nI 0) := sp_lmany_cg _ _ _ (fun x h1 h2 => by rw [e _ (by omega) (by omega)])
  refine ⟨⟨?_, ?_, fun b hb => ?_, fun k hk => ?_⟩, cLaw_fr hl g2 e2, ?_, ⟨?_, ?_, ?_, ?_, ?_⟩, fun i hi => ?_, fun i hi => ?_, fun i hi => ?_, fun b hb => ?_, fun b hb => ?_, fun b hb => ?_, fun hq b k hb hk => ?_, hB, ⟨?_, ?_⟩, ?_⟩
  · rw [e _ (by omega) (by omega)]; exact g1.1
  · rw [e _ (by omega) (by omega)]; exact g1.2.1
  · rw [e _ (by omega) (by omega), e _ (by omega) (by omega), e _ (by omega) (by omega), e _ (by omega) (by omega)]; exact g1.2.2.1 b hb
  · rw [e _ (by omega) (by omega), e _ (by omega) (by omega)]; exact g1.2.2.2 k hk
  · rw [er _ (by omega)]; exact g3
  · rw [er _ (by omega), e _ (by omega) (by omega)]; exact g4.1
  · rw [er _ (by omega), e _ (by omega) (by omega)]; exact g4.2.1
  · rw [er _ (by omega), e _ (by omega) (by omega)]; exact g4.2.2.1
  · rw [er _ (by omega), e _ (by omega) (by omega)]; exact g4.2.2.2.1
  · rw [er _ (by omega), e _ (by omega) (by omega)]; exact g4.2.2.2.2
  · rw [er _ (by omega), e _ (by omega) (by omega)]; exact g5 i hi
  · rw [er _ (by omega), e _ (by omega) (by omega)]; exact g6 i hi
  · rw [er _ (by omega), e _ (by omega) (by omega)]; exact g7 i hi
  · rw [er _ (by omega), e _ (by omega) (by omega)]; exact g8 b hb
  · rw [er _ (by omega), er _ (by omega), e _ (by omega) (by omega), e _ (by omega) (by omega), e _ (by omega) (by omega)]; exact g9 b hb
  · rw [er _ (by omega), e _ (by omega) (by omega)]; exact g10 b hb
  · rw [er _ (by omega), e _ (by omega) (by omega)]; exact g11 hq b k hb hk
  · rw [er _ (by omega), g13.1]; exact (sp_lset_cg _ _ _ (fun x h1 h2 => by rw [e _ (by omega) (by omega)])).symm
  · rw [er _ (by omega), g13.2]; exact (sp_lean_cg _ _ _ (fun x h1 h2 => ⟨by rw [e _ (by omega) (by omega)], by rw [sp_wei, sp_wei, e _ (by omega) (by omega), e _ (by omega) (by omega)]⟩)).symm
  · unfold cS
    rw [em, e _ (by omega) (by omega)]
    exact g14
theorem wr_ne {b e k : Int32} {p : Nat} (h : okb W) (h6 : ¬ p = 6) (hp : p < 270 ∨ 1075 ≤ p) : sp_wr W b e k p = W p := by
  unfold sp_wr
  split
  · rfl
  · rename_i z
    obtain ⟨l, hl, el⟩ := h
    have hl2 : l < 200 := by
      rcases Nat.lt_or_ge l 200 with y | y
      · exact y
      · exact absurd (by rw [el, show l = 200 by omega]) z
    rw [xk_ix el (by omega), upd_ne h6, upd_ne (by omega), upd_ne (by omega), upd_ne (by omega), upd_ne (by omega)]
theorem cB_wr {b e k wk : Int32} (h : cB q R W) (ho : okb W) (hw : wk = W 2) : cB q (cw R wk b e k) (sp_wr W b e k) := by
  obtain ⟨l, hl, el⟩ := ho
  have il : sp_ix W 6 = l := xk_ix el (by omega)
  unfold cw sp_wr
  cases q
  · obtain ⟨h1, h2, h3⟩ := h.2 rfl
    rw [if_pos h3, if_neg (by rw [h1, h2]; decide)]
    exact h
  · obtain ⟨h1, h2, h3⟩ := h.1 rfl
    rw [h1, h2, el, il]
    have il2 : sp_ix (R 11) 1 = l := xk_ix (h2.trans el) (by omega)
    rw [il2]
    rcases Nat.lt_or_ge l 200 with z | z
    · rw [if_pos ((xn_lt (by omega) (by omega)).mpr z), if_neg (fun y => by have := (xn_eq (by omega) (by omega)).mp y; omega)]
      refine ⟨fun _ => ⟨?_, ?_, fun i hi => ?_⟩, fun y => by cases y⟩
      · exact h1
      · rw [upd_eq, xq_w, xv_eq, upd_eq]
      · have e6 : sp_ix (upd (upd (upd (upd (upd W (270 + 4 * l) (W 2)) (270 + 4 * l + 1) b) (270 + 4 * l + 2) e) (270 + 4 * l + 3) k) 6 (nI l + nI 1)) 6 = l + 1 := by
          rw [sp_ix, upd_eq, nI_add, nI_clamp (by omega)]
        rw [e6] at hi
        show upd (R 12) l wk i = _ ∧ upd (R 13) l b i = _ ∧ upd (R 14) l e i = _ ∧ upd (R 15) l k i = _
        by_cases ei : i = l
        · subst ei
          rw [upd_eq, upd_eq, upd_eq, upd_eq]
          refine ⟨?_, ?_, ?_, ?_⟩
          · rw [upd_ne (by omega), upd_ne (by omega), upd_ne (by omega), upd_ne (by omega), upd_eq, hw]
          · rw [upd_ne (by omega), upd_ne (by omega), upd_ne (by omega), upd_eq]
          · rw [upd_ne (by omega), upd_ne (by omega), upd_eq]
          · rw [upd_ne (by omega), upd_eq]
        · rw [upd_ne ei, upd_ne ei, upd_ne ei, upd_ne ei]
          have := h3 i (by omega)
          refine ⟨?_, ?_, ?_, ?_⟩
          · rw [upd_ne (by omega), upd_ne (by omega), upd_ne (by omega), upd_ne (by omega), upd_ne (by omega)]; exact this.1
          · rw [upd_ne (by omega), upd_ne (by omega), upd_ne (by omega), upd_ne (by omega), upd_ne (by omega)]; exact this.2.1
          · rw [upd_ne (by omega), upd_ne (by omega), upd_ne (by omega), upd_ne (by omega), upd_ne (by omega)]; exact this.2.2.1
          · rw [upd_ne (by omega), upd_ne (by omega), upd_ne (by omega), upd_ne (by omega), upd_ne (by omega)]; exact this.2.2.2
    · have : l = 200 := by omega
      subst this
      rw [if_neg (by decide), if_pos rfl]
      exact h
theorem cw_row {wk b e k : Int32} : ∀ i, i < 11 → cw R wk b e k i = R i := by
  intro i hi
  unfold cw
  split
  · simp only [xq_w]
    rw [xv_ne (by omega), xv_ne (by omega), xv_ne (by omega), xv_ne (by omega), xv_ne (by omega)]
  · rfl
theorem CR_wr {b e k wk : Int32} (ho : ok n ns W) (h : CR q n ns I R W) (hw : wk = W 2) : CR q n ns I (cw R wk b e k) (sp_wr W b e k) :=
  CR_bk ho.2.2.2.2.2.2.2.2.2.2 ho.1.2.1 ho.1.2.2.2 h (fun p h6 hp => wr_ne ho.2.1 h6 (Or.inl hp)) (fun p h1 _ => wr_ne ho.2.1 (by omega) (Or.inr h1)) cw_row (cB_wr h.2.2.2.2.2.2.2.2.2.2.2.1 ho.2.1 hw)
end xk_rel
