/-! what holds of the row w -/
theorem upd_ne {f : Nat → Int32} {k j : Nat} {v : Int32} (h : ¬ j = k) : upd f k v j = f j := by simp only [upd, if_neg h]
theorem upd_eq {f : Nat → Int32} {k : Nat} {v : Int32} : upd f k v k = v := by simp only [upd, if_true]
def sp_mx : List Nat := [99, 9999, 99, 9, 9, 9, 1000, 1000, 1000, 52, 999, 520]
def okb (W : xw) : Prop := ∃ l, l ≤ 200 ∧ W 6 = nI l
def ok1 (n ns : Nat) (W : xw) : Prop := W 0 = nI n ∧ n ≤ 14 ∧ W 1 = nI ns ∧ ns ≤ 8
def ok2 (W : xw) : Prop := ∃ k, k ≤ 20000 ∧ W 2 = nI k
def ok3 (n : Nat) (W : xw) : Prop := (∀ i, i < n → ∃ b, b < n ∧ W (30 + i) = nI b) ∧ ∀ i j, i < n → j < n → W (30 + i) = W (30 + j) → i = j
def ok4 (n : Nat) (W : xw) : Prop := ∀ b, b < n → ∃ v, v < 4 ∧ W (50 + 14 * b + 1) = nI v
def ok5 (n ns : Nat) (W : xw) : Prop := ∀ b, b < n → ∃ w, w < 5 ∧ W (50 + 14 * b + 4) = nI w ∧ (w = 2 → ∃ k, k < ns ∧ W (50 + 14 * b + 5) = nI k)
def ok6 (W : xw) : Prop := ∀ i, i < 12 → ∃ k, k ≤ sp_mx.getD i 0 ∧ W (10 + i) = nI k
def ok7 (W : xw) : Prop := ∀ i, i < 4 → W (24 + i) = nI 0 ∨ W (24 + i) = nI 1
def ok8 (n : Nat) (W : xw) : Prop := ∀ b, b < n → (∃ k, 1 ≤ k ∧ k ≤ 20 ∧ W (50 + 14 * b + 0) = nI k) ∧ (W (50 + 14 * b + 2) = nI 0 ∨ W (50 + 14 * b + 2) = nI 1) ∧ (∃ m, m < 2 ^ b ∧ W (50 + 14 * b + 3) = nI m) ∧ (∃ v, v < 4 ∧ W (50 + 14 * b + 12) = nI v)
def ok9 (ns : Nat) (W : xw) : Prop := ∀ k, k < ns → (∃ t, t < 4 ∧ W (250 + 2 * k) = nI t) ∧ (∃ l, 1 ≤ l ∧ l ≤ 99 ∧ W (250 + 2 * k + 1) = nI l)
def ok (n ns : Nat) (W : xw) : Prop := ok1 n ns W ∧ okb W ∧ ok2 W ∧ ok3 n W ∧ ok4 n W ∧ ok5 n ns W ∧ ok6 W ∧ ok7 W ∧ ok8 n W ∧ ok9 ns W ∧ sp_law W
section xk_ok
variable {n ns : Nat} {W W' : xw}
/-- a row that is the same where it counts -/
theorem ok1_fr (h : ok1 n ns W) (e0 : W' 0 = W 0) (e1 : W' 1 = W 1) : ok1 n ns W' := ⟨e0.trans h.1, h.2.1, e1.trans h.2.2.1, h.2.2.2⟩
theorem okb_fr (h : okb W) (e : W' 6 = W 6) : okb W' := by obtain ⟨l, h1, h2⟩ := h; exact ⟨l, h1, e.trans h2⟩
theorem ok2_fr (h : ok2 W) (e : W' 2 = W 2) : ok2 W' := by obtain ⟨l, h1, h2⟩ := h; exact ⟨l, h1, e.trans h2⟩
theorem ok3_fr (h : ok3 n W) (e : ∀ i, i < n → W' (30 + i) = W (30 + i)) : ok3 n W' :=
  ⟨fun i hi => by obtain ⟨b, h1, h2⟩ := h.1 i hi; exact ⟨b, h1, (e i hi).trans h2⟩, fun i j hi hj q => h.2 i j hi hj (by rwa [e i hi, e j hj] at q)⟩
theorem ok4_fr (h : ok4 n W) (e : ∀ b, b < n → W' (50 + 14 * b + 1) = W (50 + 14 * b + 1)) : ok4 n W' := fun b hb => by
  obtain ⟨v, h1, h2⟩ := h b hb; exact ⟨v, h1, (e b hb).trans h2⟩
theorem ok5_fr (h : ok5 n ns W) (e : ∀ b, b < n → W' (50 + 14 * b + 4) = W (50 + 14 * b + 4) ∧ W' (50 + 14 * b + 5) = W (50 + 14 * b + 5)) : ok5 n ns W' := fun b hb => by
  obtain ⟨v, h1, h2, h3⟩ := h b hb
  refine ⟨v, h1, (e b hb).1.trans h2, fun q => ?_⟩
  obtain ⟨k, h4, h5⟩ := h3 q
  exact ⟨k, h4, (e b hb).2.trans h5⟩
theorem ok6_fr (h : ok6 W) (e : ∀ i, i < 12 → W' (10 + i) = W (10 + i)) : ok6 W' := fun i hi => by
  obtain ⟨v, h1, h2⟩ := h i hi; exact ⟨v, h1, (e i hi).trans h2⟩
theorem ok7_fr (h : ok7 W) (e : ∀ i, i < 4 → W' (24 + i) = W (24 + i)) : ok7 W' := fun i hi => by rw [e i hi]; exact h i hi
theorem ok8_fr (h : ok8 n W) (e : ∀ b k, b < n → k = 0 ∨ k = 2 ∨ k = 3 ∨ k = 12 → W' (50 + 14 * b + k) = W (50 + 14 * b + k)) : ok8 n W' := fun b hb => by
  rw [e b 0 hb (by omega), e b 2 hb (by omega), e b 3 hb (by omega), e b 12 hb (by omega)]; exact h b hb
theorem ok9_fr (h : ok9 ns W) (e : ∀ k, k < 2 * ns → W' (250 + k) = W (250 + k)) : ok9 ns W' := fun k hk => by
  rw [e (2 * k) (by omega), show 250 + 2 * k + 1 = 250 + (2 * k + 1) from rfl, e (2 * k + 1) (by omega)]; exact h k hk
theorem sp_hs_fr : ∀ (c i h : Nat), (∀ p, 1140 + 2 * i ≤ p → p < 1140 + 2 * (i + c) → W' p = W p) → sp_hs W' c i h = sp_hs W c i h
  | 0, _, _, _ => rfl
  | c + 1, i, h, e => by
    have e1 : W' (1140 + 2 * i) = W (1140 + 2 * i) := e _ (by omega) (by omega)
    have e2 : W' (1140 + 2 * i + 1) = W (1140 + 2 * i + 1) := e _ (by omega) (by omega)
    have r : ∀ h, sp_hs W' c (i + 1) h = sp_hs W c (i + 1) h := fun h => sp_hs_fr c (i + 1) h (fun p h1 h2 => e p (by omega) (by omega))
    simp only [sp_hs, e1, e2, r]
theorem sp_ty_fr : ∀ (c i : Nat) (ts : List Bool), (∀ p, 1140 + 2 * i ≤ p → p < 1140 + 2 * (i + c) → W' p = W p) → sp_ty W' c i ts = sp_ty W c i ts
  | 0, _, _, _ => rfl
  | c + 1, i, ts, e => by
    have e1 : W' (1140 + 2 * i) = W (1140 + 2 * i) := e _ (by omega) (by omega)
    have r : ∀ ts, sp_ty W' c (i + 1) ts = sp_ty W c (i + 1) ts := fun ts => sp_ty_fr c (i + 1) ts (fun p h1 h2 => e p (by omega) (by omega))
    simp only [sp_ty, e1, r]
theorem sp_law_fr (h : sp_law W) (e : ∀ p, 1075 ≤ p → p < 1960 → W' p = W p) : sp_law W' := by
  obtain ⟨n, h1, h2, h3⟩ := h
  refine ⟨n, h1, (e _ (by omega) (by omega)).trans h2, fun l hl => ?_⟩
  obtain ⟨a, b, c, q1, q2, q3, q4, q5, q6, q7, q8⟩ := h3 l hl
  refine ⟨a, b, c, q1, q2, q3, (e _ (by omega) (by omega)).trans q4, (e _ (by omega) (by omega)).trans q5, (e _ (by omega) (by omega)).trans q6, ?_, fun q => ?_⟩
  · rw [sp_hs_fr _ _ _ (fun p h1 h2 => e p (by omega) (by omega))]; exact q7
  · rw [sp_hs_fr _ _ _ (fun p h1 h2 => e p (by omega) (by omega)), sp_ty_fr _ _ _ (fun p h1 h2 => e p (by omega) (by omega))]; exact q8 q
/-- a write where nothing counts -/
theorem ok_free {p : Nat} {v : Int32} (h : ok n ns W) (hp : p = 3 ∨ p = 4 ∨ p = 5 ∨ p = 7 ∨ (∃ b k, 6 ≤ k ∧ k < 12 ∧ p = 50 + 14 * b + k ∧ b < 14) ∨ (270 ≤ p ∧ p < 1075)) : ok n ns (upd W p v) := by
  obtain ⟨g1, g2, g3, g4, g5, g6, g7, g8, g9, g10, g11⟩ := h
  have n14 := g1.2.1
  have ns8 := g1.2.2.2
  refine ⟨ok1_fr g1 ?_ ?_, okb_fr g2 ?_, ok2_fr g3 ?_, ok3_fr g4 ?_, ok4_fr g5 ?_, ok5_fr g6 ?_, ok6_fr g7 ?_, ok7_fr g8 ?_, ok8_fr g9 ?_, ok9_fr g10 ?_, sp_law_fr g11 ?_⟩
  all_goals (try intros)
  all_goals (try constructor)
  all_goals
    apply upd_ne
    rcases hp with h | h | h | h | ⟨b, k, h1, h2, h, hb⟩ | h <;> omega
theorem ok_wr {b e k : Int32} (h : ok n ns W) : ok n ns (sp_wr W b e k) := by
  unfold sp_wr
  split
  · exact h
  · rename_i q
    obtain ⟨l, hl, el⟩ := h.2.1
    have hl2 : l < 200 := by
      rcases Nat.lt_or_ge l 200 with z | z
      · exact z
      · exact absurd (by rw [el, show l = 200 by omega]) q
    have ei : sp_ix W 6 = l := by rw [sp_ix, el, nI_clamp (by omega)]
    rw [ei]
    have h4 := ok_free (v := k) (p := 270 + 4 * l + 3) (ok_free (v := e) (p := 270 + 4 * l + 2) (ok_free (v := b) (p := 270 + 4 * l + 1) (ok_free (v := W 2) (p := 270 + 4 * l) h (by omega)) (by omega)) (by omega)) (by omega)
    obtain ⟨g1, g2, g3, g4, g5, g6, g7, g8, g9, g10, g11⟩ := h4
    have n14 := g1.2.1
    have ns8 := g1.2.2.2
    refine ⟨ok1_fr g1 ?_ ?_, ⟨l + 1, by omega, ?_⟩, ok2_fr g3 ?_, ok3_fr g4 ?_, ok4_fr g5 ?_, ok5_fr g6 ?_, ok6_fr g7 ?_, ok7_fr g8 ?_, ok8_fr g9 ?_, ok9_fr g10 ?_, sp_law_fr g11 ?_⟩
    rotate_right 8
    rotate_left
    all_goals (try intros)
    all_goals (try constructor)
    all_goals first
      | (rw [upd_eq, el, nI_add])
      | (apply upd_ne; omega)
end xk_ok
