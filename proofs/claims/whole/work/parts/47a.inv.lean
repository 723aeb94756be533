/-! what holds between two calls -/
def w9 (W : xw) : Prop := ∃ k, k ≤ 9999 ∧ W 2 = nI k
/-- the book's lines: their weeks; who was cut was so on no stretch -/
def bkw (W : xw) : Prop := ∀ i, i < sp_ix W 6 → (∃ k, k ≤ 20000 ∧ W (270 + 4 * i) = nI k) ∧ (W (270 + 4 * i + 2) = nI 0 → W (270 + 4 * i + 3) = nI 0)
def ivA (n ns : Nat) (I : Nat → xw) : Prop := ok n ns (I 127) ∧ w9 (I 127) ∧ bkw (I 127) ∧ CR true n ns I (xcR true I) (I 127) ∧ I 32 10 = Int32.ofInt (-1) ∧ I 126 29 = Int32.ofInt (-1)
def ivT (I : Nat → xw) : Prop := tk (xcR false I) ∧ I 46 10 = Int32.ofInt (-1)
/-- how great the amount of a step may be -/
def plb (d : Nat) : Nat := [60, 13, 99, 99, 3, 3, 9, 9].getD d 0
def plS (D M P W : xw) (i : Nat) : Prop := ∃ d a p : Nat, d < 8 ∧ a ≤ plb d ∧ p ≤ 13 ∧ D i = nI d ∧ W (1962 + 3 * i) = nI (24 + d) ∧ M i = nI a ∧ W (1962 + 3 * i + 1) = nI a ∧ P i = nI p ∧ W (1962 + 3 * i + 2) = nI p
def plR (s0 : Int32) (D M P W : xw) : Prop := ∃ s, s ≤ 100 ∧ s0 = nI s ∧ W 1960 = nI s ∧ ∀ i, i < s → plS D M P W i
def ivP (I : Nat → xw) : Prop := plR (I 14 0) (I 15) (I 16) (I 17) (I 127)
def ivR (I : Nat → xw) : Prop := (∃ l, l ≤ 400 ∧ I 104 1 = nI l ∧ I 126 18 = nI l ∧ ∀ i, i < l → I 105 i = I 135 i ∧ ∃ c, c < 256 ∧ I 105 i = nI c) ∧ I 104 8 = I 126 25 ∧ I 104 9 = I 126 27
/-- the site's part of what holds between class and row -/
def cSt (n : Nat) (R : Nat → xw) (W : xw) : Prop := cT0 R W ∧ cT1 R W ∧ cT2 R W ∧ cT3 n R W ∧ cT4 n R W ∧ cTA n R W ∧ cT7 n R W ∧ cT8 true n R W ∧ cL n R W ∧ cS n W
def cGb (n : Nat) (I : Nat → xw) (V : xw) : Prop := I 2 0 = V 0 ∧ I 2 5 = V 1 ∧ ∀ b, b < n → I 3 b = V (50 + 14 * b + 0) ∧ (I 5 b = V (50 + 14 * b + 2) ∧ I 4 b = V (50 + 14 * b + 12)) ∧ I 6 b = V (50 + 14 * b + 3)
def okS (n ns : Nat) (W : xw) : Prop := ok1 n ns W ∧ okb W ∧ ok2 W ∧ ok3 n W ∧ ok4 n W ∧ ok5 n ns W ∧ ok6 W ∧ ok7 W ∧ ok8 n W
/-- the weeks that can be undone: c of them, the ring's next place r -/
def ivH (n ns : Nat) (I : Nat → xw) : Prop := ∃ c r, c ≤ 5 ∧ r < 5 ∧ I 126 4 = nI c ∧ I 56 3 = nI c ∧ I 56 2 = nI r ∧ ∀ j, j < c → okS n ns (fun p => I 129 (250 * j + p)) ∧ w9 (fun p => I 129 (250 * j + p)) ∧ cGb n I (fun p => I 129 (250 * j + p)) ∧ cSt n (fun i => I (59 + 9 * ((r + 5 - c + j) % 5) + i)) (fun p => I 129 (250 * j + p)) ∧ I 129 (250 * j + 6) = I 58 ((r + 5 - c + j) % 5) ∧ sp_ix (I 129) (250 * j + 6) ≤ sp_ix (I 127) 6 ∧ ∀ i, i < j → sp_ix (I 129) (250 * i + 6) ≤ sp_ix (I 129) (250 * j + 6)
section xk_iv
variable {q : Bool} {n ns : Nat} {I I' R R' : Nat → xw} {W W' : xw}
theorem cLaw_ext {l0 l0' : Int32} {C C' E E' : xw} (h : cLaw l0 C E W) (e0 : l0' = l0) (eC : ∀ j, j < 400 → C' j = C j) (eE : ∀ j, j < 16 → E' j = E j) : cLaw l0' C' E' W := by
  obtain ⟨h1, po, h2, h3⟩ := h
  refine ⟨e0.trans h1, po, h2, fun m hm hm16 => ⟨(h3 m hm hm16).1, fun l hl => ?_⟩⟩
  obtain ⟨a1, a2, a3, a4⟩ := (h3 m hm hm16).2 l hl
  refine ⟨a1, by rw [eE l (by omega)]; exact a2, a3, fun i hi => ?_⟩
  have := po_le (C := C) (W := W) (po := po) (sp_ix W (1120 + l) - (i + 1)) (i + 1) (fun j j1 j2 => a4 j (by omega))
  rw [show i + 1 + (sp_ix W (1120 + l) - (i + 1)) = sp_ix W (1120 + l) by omega] at this
  have h4 := a4 i hi
  unfold cStep at h4 ⊢
  rcases h4 with ⟨e, h⟩ | ⟨e, h⟩
  · exact Or.inl ⟨e, by rw [eC _ (by omega)]; exact h⟩
  · exact Or.inr ⟨e, by rw [eC _ (by omega), eC _ (by omega)]; exact h⟩
theorem cSt_ext (h : cSt n R W) (hn : n ≤ 14) (r0 : ∀ j, 8 ≤ j → j < 15 → R' 0 j = R 0 j) (r1 : ∀ j, j < 12 → R' 1 j = R 1 j) (r2 : ∀ j, j < 4 → R' 2 j = R 2 j) (r3 : ∀ i j, 3 ≤ i → i < 8 → j < 14 → R' i j = R i j) (r8 : ∀ j, j < 70 → R' 8 j = R 8 j) : cSt n R' W := by
  obtain ⟨g4, g5, g6, g7, g8, g9, g10, g11, g13, g14⟩ := h
  refine ⟨⟨?_, ?_, ?_, ?_, ?_⟩, fun i hi => ?_, fun i hi => ?_, fun i hi => ?_, fun b hb => ?_, fun b hb z => ?_, fun b hb => ?_, fun hq b k hb hk => ?_, ⟨?_, ?_⟩, g14⟩
  · rw [r0 _ (by omega) (by omega)]; exact g4.1
  · rw [r0 _ (by omega) (by omega)]; exact g4.2.1
  · rw [r0 _ (by omega) (by omega)]; exact g4.2.2.1
  · rw [r0 _ (by omega) (by omega)]; exact g4.2.2.2.1
  · rw [r0 _ (by omega) (by omega)]; exact g4.2.2.2.2
  · rw [r1 _ hi]; exact g5 i hi
  · rw [r2 _ hi]; exact g6 i hi
  · rw [r3 _ _ (by omega) (by omega) (by omega)]; exact g7 i hi
  · rw [r3 _ _ (by omega) (by omega) (by omega)]; exact g8 b hb
  · rw [r3 _ _ (by omega) (by omega) (by omega), r3 _ _ (by omega) (by omega) (by omega)]; exact g9 b hb z
  · rw [r3 _ _ (by omega) (by omega) (by omega)]; exact g10 b hb
  · rw [r8 _ (by omega)]; exact g11 hq b k hb hk
  · rw [r0 _ (by omega) (by omega)]; exact g13.1
  · rw [r0 _ (by omega) (by omega)]; exact g13.2
theorem CR_cSt (h : CR true n ns I R W) : cSt n R W := by
  obtain ⟨g1, g2, g3, g4, g5, g6, g7, g8, g9, g10, g11, g12, g13, g14⟩ := h
  exact ⟨g4, g5, g6, g7, g8, g9, g10, g11, g13, g14⟩
theorem CR_mk (g1 : cG n ns I W) (g2 : cLaw (I 9 0) (I 10) (I 11) W) (g3 : R 9 4 = nI 1) (h : cSt n R W) (g12 : cB true R W) : CR true n ns I R W := by
  obtain ⟨g4, g5, g6, g7, g8, g9, g10, g11, g13, g14⟩ := h
  exact ⟨g1, g2, g3, g4, g5, g6, g7, g8, g9, g10, g11, g12, g13, g14⟩
theorem CR_law (h : CR q n ns I R W) : cLaw (I 9 0) (I 10) (I 11) W := h.2.1
/-- other cells may change -/
theorem CR_cells (h : CR true n ns I (xcR true I) W) (e : ∀ a, (2 ≤ a ∧ a < 12) ∨ (18 ≤ a ∧ a < 32) → I' a = I a) (e32 : I' 32 4 = I 32 4) : CR true n ns I' (xcR true I') W := by
  have hr : ∀ i, i < 9 → xcR true I' i = xcR true I i := by
    intro i hi
    match i, hi with
    | 0, _ | 1, _ | 2, _ | 3, _ | 4, _ | 5, _ | 6, _ | 7, _ | 8, _ => exact e _ (by decide)
    | i + 9, h => exact absurd h (by omega)
  have hb : ∀ i, 11 ≤ i → i < 16 → xcR true I' i = xcR true I i := by
    intro i h1 h2
    have : i = 11 ∨ i = 12 ∨ i = 13 ∨ i = 14 ∨ i = 15 := by omega
    rcases this with z | z | z | z | z <;> (subst z; exact e _ (by decide))
  refine CR_mk ?_ ?_ (e32.trans (CR_real h)) ?_ ?_
  · have := CR_G h
    unfold cG at this ⊢
    rw [e 2 (by omega), e 3 (by omega), e 4 (by omega), e 5 (by omega), e 6 (by omega), e 7 (by omega), e 8 (by omega)]
    exact this
  · rw [e 9 (by omega), e 10 (by omega), e 11 (by omega)]; exact CR_law h
  · have := CR_cSt h
    unfold cSt cT0 cT1 cT2 cT3 cT4 cTA cT7 cT8 cL at this ⊢
    rw [hr 0 (by omega), hr 1 (by omega), hr 2 (by omega), hr 3 (by omega), hr 4 (by omega), hr 5 (by omega), hr 6 (by omega), hr 7 (by omega), hr 8 (by omega)]
    exact this
  · have := CR_B h
    unfold cB at this ⊢
    rw [hb 11 (by omega) (by omega), hb 12 (by omega) (by omega), hb 13 (by omega) (by omega), hb 14 (by omega) (by omega), hb 15 (by omega) (by omega)]
    exact this
end xk_iv
