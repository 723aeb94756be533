/-! the model: a week -/
section xq_m5i
variable {d : Nat} {g : xq_V} {J : Nat → Nat → Int64} {I : Nat → Nat → Int32} {Q : Option Value → xq_S → Prop} {A W P F N : xw} {n ns : Nat}
theorem xn_min {a b : Nat} (ha : a < 2147483648) (hb : b < 2147483648) : xq_min (nI a) (nI b) = nI (min a b) := by
  unfold xq_min
  split
  · rename_i h; rw [(xn_lt hb ha)] at h; rw [Nat.min_eq_right (by omega)]
  · rename_i h; rw [(xn_lt hb ha)] at h; rw [Nat.min_eq_left (by omega)]
theorem xn_msub {a b : Nat} (ha : a < 1073741824) (hb : b < 1073741824) : xq_max (nI 0) (nI a - nI b) = nI (a - b) := by
  unfold xq_max
  rcases Nat.lt_or_ge b a with h | h
  · rw [pk_sub (by omega), if_pos ((xn_lt (by omega) (by omega)).mpr (by omega))]
  · rw [if_neg, show a - b = 0 by omega]
    rw [Int32.lt_iff_toInt_lt, pk_sub_toInt (by omega) (by omega), nI_toInt (by omega)]
    omega
theorem ok_told {i k : Nat} (h : ok n ns W) (hi : i < 12) (hk : k ≤ sp_mx.getD i 0) : ok n ns (upd W (10 + i) (nI k)) := by
  obtain ⟨g1, g2, g3, g4, g5, g6, g7, g8, g9, g10, g11⟩ := h
  have n14 := g1.2.1
  have ns8 := g1.2.2.2
  refine ⟨ok1_fr g1 ?_ ?_, okb_fr g2 ?_, ok2_fr g3 ?_, ok3_fr g4 ?_, ok4_fr g5 ?_, ok5_fr g6 ?_, fun i' hi' => ?_, ok7_fr g8 ?_, ok8_fr g9 ?_, ok9_fr g10 ?_, sp_law_fr g11 ?_⟩
  case refine_8 =>
    by_cases e : i' = i
    · subst e; exact ⟨k, hk, upd_eq⟩
    · rw [upd_ne (by omega)]; exact g7 i' hi'
  all_goals (try intros)
  all_goals (try constructor)
  all_goals (apply upd_ne; omega)
theorem ok_tl (h : ok n ns W) {i : Nat} (hi : i < 12) : ∃ k, k ≤ sp_mx.getD i 0 ∧ W (10 + i) = nI k := h.2.2.2.2.2.2.1 i hi
theorem ok_week {k : Nat} (h : ok n ns W) (hk : k ≤ 20000) : ok n ns (upd W 2 (nI k)) := by
  obtain ⟨g1, g2, g3, g4, g5, g6, g7, g8, g9, g10, g11⟩ := h
  have n14 := g1.2.1
  have ns8 := g1.2.2.2
  refine ⟨ok1_fr g1 ?_ ?_, okb_fr g2 ?_, ⟨k, hk, upd_eq⟩, ok3_fr g4 ?_, ok4_fr g5 ?_, ok5_fr g6 ?_, ok6_fr g7 ?_, ok7_fr g8 ?_, ok8_fr g9 ?_, ok9_fr g10 ?_, sp_law_fr g11 ?_⟩
  all_goals (try intros)
  all_goals (try constructor)
  all_goals (apply upd_ne; omega)
theorem sp_herdsN {wet : Bool} {a b c : Nat} (ha : a ≤ 99) (hb : b ≤ 9999) (hc : c ≤ 99) (ea : W 10 = nI a) (eb : W 11 = nI b) (ec : W 12 = nI c) : sp_herds W wet = upd (upd W 11 (nI (min 9999 (b + (if wet then 2 else 1) * c) - a))) 10 (nI (a - (a - min 9999 (b + (if wet then 2 else 1) * c) + 1) / 2)) := by
  have e : sp_grass W wet = nI (min 9999 (b + (if wet then 2 else 1) * c)) := by
    unfold sp_grass
    rw [eb, ec]
    cases wet
    · simp only [Bool.false_eq_true, if_false]; rw [pk_mul, nI_add, xn_min (by omega) (by omega)]
    · simp only [if_true]; rw [pk_mul, nI_add, xn_min (by omega) (by omega)]
  have hG : min 9999 (b + (if wet then 2 else 1) * c) ≤ 9999 := Nat.min_le_left _ _
  unfold sp_herds
  rw [e]
  generalize min 9999 (b + (if wet then 2 else 1) * c) = G at hG ⊢
  rw [ea, xn_msub (by omega) (by omega), xn_msub (by omega) (by omega), nI_add, pk_div (by omega) (by omega) (by omega), pk_sub (by omega)]
theorem ok_herds {wet : Bool} (h : ok n ns W) : ok n ns (sp_herds W wet) := by
  obtain ⟨a, ha, ea⟩ := ok_tl h (i := 0) (by omega)
  obtain ⟨b, hb, eb⟩ := ok_tl h (i := 1) (by omega)
  obtain ⟨c, hc, ec⟩ := ok_tl h (i := 2) (by omega)
  have ha : a ≤ 99 := ha
  have hb : b ≤ 9999 := hb
  have hc : c ≤ 99 := hc
  rw [sp_herdsN ha hb hc ea eb ec]
  have h1 : min 9999 (b + (if wet then 2 else 1) * c) ≤ 9999 := Nat.min_le_left _ _
  generalize min 9999 (b + (if wet then 2 else 1) * c) = G at h1 ⊢
  exact ok_told (i := 0) (ok_told (i := 1) h (by omega) (show G - a ≤ 9999 by omega)) (by omega) (show a - (a - G + 1) / 2 ≤ 99 by omega)
theorem ok_turn {k : Nat} (h : ok n ns W) (hk : k < 20000) (ek : W 2 = nI k) : ok n ns (sp_turn W) := by
  have h2 : ok n ns (upd W 2 (W 2 + nI 1)) := by rw [ek, nI_add]; exact ok_week h (by omega)
  unfold sp_turn
  split
  · obtain ⟨a, ha, ea⟩ := ok_tl h (i := 0) (by omega)
    have ha : a ≤ 99 := ha
    have ea : W 10 = nI a := ea
    rw [ea, pk_div (by omega) (by omega) (by omega), nI_add, xn_min (by omega) (by omega)]
    exact ok_told (i := 0) h2 (by omega) (Nat.min_le_left _ _)
  · exact h2
theorem ok_cut {bar : Int32} : ∀ (c i : Nat) (W : xw) (left : Int32), ok n ns W → i + c = n → ok n ns (sp_cut bar c i W left) := by
  intro c
  induction c with
  | zero => exact fun i W l h _ => h
  | succ c ih =>
    intro i W l h e
    obtain ⟨b, hb, _, ib⟩ := ok_or h (show i < n by omega)
    simp only [sp_cut, ib]
    repeat' split
    · exact ih _ _ _ (ok_cut1 h hb) (by omega)
    · exact ih _ _ _ h (by omega)
    · exact h
theorem ok_haulw {wet flood : Bool} (h : ok n ns W) : ok n ns (sp_haulw n wet flood W) := by
  unfold sp_haulw
  split
  · exact ok_flood n 0 _ (ok_hauls n 0 _ _ _ h (by omega)) (by omega)
  · exact ok_hauls n 0 _ _ _ h (by omega)
theorem ok_lays (h : ok n ns W) : ok n ns (sp_lays n W).1 := ok_wait n 0 _ (ok_lay n 0 _ _ _ h (by omega)) (by omega)
/-! what a week leaves as it is -/
def stp (p : Nat) : Prop := p < 2 ∨ (12 ≤ p ∧ p < 50) ∨ (∃ b k, b < 14 ∧ (k = 0 ∨ k = 2 ∨ k = 3 ∨ k = 12 ∨ k = 13) ∧ p = 50 + 14 * b + k) ∨ (246 ≤ p ∧ p < 270) ∨ 1075 ≤ p
def st2 (p : Nat) : Prop := stp p ∨ p = 2 ∨ p = 10 ∨ p = 11 ∨ p = 3
theorem st2_wr {b e k : Int32} {p : Nat} (h : okb W) (hp : st2 p) : sp_wr W b e k p = W p := by
  unfold sp_wr
  split
  · rfl
  · rename_i q
    obtain ⟨l, hl, el⟩ := h
    have hl2 : l < 200 := by
      rcases Nat.lt_or_ge l 200 with z | z
      · exact z
      · exact absurd (by rw [el, show l = 200 by omega]) q
    rw [xk_ix el (by omega)]
    have : ¬ p = 6 ∧ ¬ p = 270 + 4 * l + 3 ∧ ¬ p = 270 + 4 * l + 2 ∧ ¬ p = 270 + 4 * l + 1 ∧ ¬ p = 270 + 4 * l := by
      rcases hp with (hp | hp | ⟨b, k, h1, h2, hp⟩ | hp | hp) | hp <;> omega
    rw [upd_ne this.1, upd_ne this.2.1, upd_ne this.2.2.1, upd_ne this.2.2.2.1, upd_ne this.2.2.2.2]
theorem st2_bk {b k p : Nat} {v : Int32} (hp : st2 p) (hb : b < 14) (hk : k = 1 ∨ (4 ≤ k ∧ k < 12)) : upd W (50 + 14 * b + k) v p = W p := by
  apply upd_ne
  rcases hp with (hp | hp | ⟨b, k, h1, h2, hp⟩ | hp | hp) | hp <;> omega
theorem st2_on {b p : Nat} {k : Int32} (h : okb W) (hp : st2 p) (hb : b < 14) : sp_on W b k p = W p := by
  unfold sp_on
  split
  · rw [st2_wr (okb_up (okb_up (okb_up h (by omega)) (by omega)) (by omega)) hp, st2_bk hp hb (by omega), st2_bk hp hb (by omega), st2_bk hp hb (by omega)]
  · rw [st2_bk hp hb (by omega), st2_bk hp hb (by omega), st2_bk hp hb (by omega)]
theorem st2_over {b p : Nat} (h : okb W) (hp : st2 p) (hb : b < 14) : sp_over W b p = W p := by
  rw [sp_over, st2_on (okb_wr h) hp hb, st2_wr h hp]
theorem st2_goes {b p : Nat} {z fr : Int32} (h : ok n ns W) (hp : st2 p) (hb : b < n) : (sp_goes z W N fr b).1 p = W p := by
  have n14 := (ok_n h).2
  unfold sp_goes
  repeat' split
  · exact st2_bk hp (by omega) (by omega)
  · exact st2_bk hp (by omega) (by omega)
  · exact st2_over h.2.1 hp (by omega)
  · exact st2_bk hp (by omega) (by omega)
  · show sp_over (sp_went W b z) b p = W p
    rw [st2_over (ok_went h hb).2.1 hp (by omega)]
    exact st2_bk hp (by omega) (by omega)
theorem st2_h1 {b p : Nat} {z fr : Int32} (h : ok n ns W) (hp : st2 p) (hb : b < n) : (sp_h1 z W N fr b).1 p = W p := by
  have n14 := (ok_n h).2
  unfold sp_h1
  repeat' split
  · rw [st2_goes (ok_on h hb) hp hb, st2_on h.2.1 hp (by omega)]
  · exact st2_on h.2.1 hp (by omega)
  · exact st2_goes h hp hb
  · rfl
theorem st2_hauls {z : Int32} {p : Nat} (hp : st2 p) : ∀ (c i : Nat) (W N : xw) (fr : Int32), ok n ns W → i + c = n → (sp_hauls z c i W N fr).1 p = W p := by
  intro c
  induction c with
  | zero => exact fun i W N fr h _ => rfl
  | succ c ih =>
    intro i W N fr h e
    obtain ⟨b, hb, _, ib⟩ := ok_or h (show i < n by omega)
    simp only [sp_hauls, ib]
    rw [ih _ _ _ _ (ok_h1 h hb) (by omega), st2_h1 h hp hb]
theorem st2_flood {p : Nat} (hp : st2 p) : ∀ (c i : Nat) (W : xw), ok n ns W → i + c = n → sp_flood c i W p = W p := by
  intro c
  induction c with
  | zero => exact fun i W h _ => rfl
  | succ c ih =>
    intro i W h e
    have n14 := (ok_n h).2
    obtain ⟨b, hb, _, ib⟩ := ok_or h (show i < n by omega)
    simp only [sp_flood, ib]
    split
    · rw [ih _ _ (ok_over h hb) (by omega), st2_over h.2.1 hp (by omega)]
    · exact ih _ _ h (by omega)
theorem st2_haulw {wet flood : Bool} {p : Nat} (h : ok n ns W) (hp : st2 p) : sp_haulw n wet flood W p = W p := by
  unfold sp_haulw
  split
  · rw [st2_flood hp n 0 _ (ok_hauls n 0 _ _ _ h (by omega)) (by omega), st2_hauls hp n 0 _ _ _ h (by omega)]
  · exact st2_hauls hp n 0 _ _ _ h (by omega)
theorem st2_cut {bar : Int32} {p : Nat} (hp : st2 p) : ∀ (c i : Nat) (W : xw) (left : Int32), ok n ns W → i + c = n → sp_cut bar c i W left p = W p := by
  intro c
  induction c with
  | zero => exact fun i W l h _ => rfl
  | succ c ih =>
    intro i W l h e
    have n14 := (ok_n h).2
    obtain ⟨b, hb, _, ib⟩ := ok_or h (show i < n by omega)
    simp only [sp_cut, ib]
    repeat' split
    · rw [ih _ _ _ (ok_cut1 h hb) (by omega), st2_wr (okb_up h.2.1 (by omega)) hp, st2_bk hp (by omega) (by omega)]
    · exact ih _ _ _ h (by omega)
    · rfl
theorem st2_5 {p : Nat} (hp : st2 p) : ¬ p = 5 ∧ ¬ p = 4 ∧ ¬ p = 7 := by
  rcases hp with (hp | hp | ⟨b, k, h1, h2, hp⟩ | hp | hp) | hp <;> omega
theorem st2_lay {p : Nat} (hp : st2 p) : ∀ (c i : Nat) (W : xw) (l v : Int32), ok n ns W → i + c = n → (sp_lay n c i W l v).1 p = W p := by
  intro c
  induction c with
  | zero => exact fun i W l v h _ => rfl
  | succ c ih =>
    intro i W l v h e
    have n14 := (ok_n h).2
    obtain ⟨b, hb, _, ib⟩ := ok_or h (show i < n by omega)
    simp only [sp_lay, ib]
    repeat' split
    · rw [ih _ _ _ _ (ok_lay1 h hb) (by omega)]
      unfold sp_lay1
      split
      · rw [st2_wr (okb_up (okb_up h.2.1 (by omega)) (by omega)) hp, st2_bk hp (by omega) (by omega), upd_ne (st2_5 hp).1]
      · rw [st2_wr (okb_up h.2.1 (by omega)) hp, st2_bk hp (by omega) (by omega)]
    · exact ih _ _ _ _ h (by omega)
    · rfl
theorem st2_wait {p : Nat} (hp : st2 p) : ∀ (c b : Nat) (W : xw), ok n ns W → b + c = n → sp_wait n c b W p = W p := by
  intro c
  induction c with
  | zero => exact fun b W h _ => rfl
  | succ c ih =>
    intro b W h e
    have n14 := (ok_n h).2
    simp only [sp_wait]
    split
    · have he : (if sp_canB n W b = true then (if sp_frost W = true then 2 else 3) else 4) < 5 := by
        repeat' split
        all_goals omega
      rw [ih _ _ (ok_wt h (by omega) he) (by omega)]
      exact st2_bk hp (by omega) (by omega)
    · exact ih _ _ h (by omega)
theorem st2_lays {p : Nat} (h : ok n ns W) (hp : st2 p) : (sp_lays n W).1 p = W p := by
  show sp_wait n n 0 _ p = W p
  rw [st2_wait hp n 0 _ (ok_lay n 0 _ _ _ h (by omega)) (by omega), st2_lay hp n 0 _ _ _ h (by omega)]
theorem st2_split {p : Nat} (hp : st2 p) : ∀ (c b : Nat) (W : xw), ok n ns W → b + c = n → sp_split c b W p = W p := by
  intro c
  induction c with
  | zero => exact fun b W h _ => rfl
  | succ c ih =>
    intro b W h e
    have n14 := (ok_n h).2
    simp only [sp_split]
    repeat' split
    · exact ih _ _ h (by omega)
    · rw [ih _ _ (ok_split1 (ok_draw h) (by omega)) (by omega), sp_split1, st2_wr (okb_up (okb_up (ok_draw h).2.1 (by omega)) (by omega)) hp, st2_bk hp (by omega) (by omega), st2_bk hp (by omega) (by omega)]
      exact upd_ne (st2_5 hp).2.2
    · rw [ih _ _ (ok_draw h) (by omega)]
      exact upd_ne (st2_5 hp).2.2
theorem st2_fall {p : Nat} (hp : st2 p) : ∀ (c b : Nat) (W : xw), ok n ns W → b + c = n → sp_fall c b W p = W p := by
  intro c
  induction c with
  | zero => exact fun b W h _ => rfl
  | succ c ih =>
    intro b W h e
    have n14 := (ok_n h).2
    simp only [sp_fall]
    split
    · rw [ih _ _ (ok_wr (ok_wh h (by omega) (by omega) (by omega))) (by omega), st2_wr (okb_up h.2.1 (by omega)) hp, st2_bk hp (by omega) (by omega)]
    · exact ih _ _ h (by omega)
theorem st2_falls {p : Nat} (h : ok n ns W) (hp : st2 p) : sp_falls n W p = W p := by
  unfold sp_falls
  split
  · rfl
  · rw [upd_ne (st2_5 hp).1, upd_ne (st2_5 hp).2.1, st2_fall hp n 0 W h (by omega)]
end xq_m5i
