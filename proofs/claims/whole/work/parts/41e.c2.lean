/-! the class: cutting, on the way -/
section yk_c2
variable {d : Nat} {g : xq_V} {J : Nat → Nat → Int64} {I : Nat → Nat → Int32} {Q : Option Value → xq_S → Prop} {q : Bool} {n ns : Nat} {R R' : Nat → xw} {W : xw}
theorem xw_x {a j i x : Nat} {v : Int32} (h : ¬ x = j) : xq_w R a j v i x = R i x := by
  simp only [xq_w, va_up]
  split
  · rename_i e; rw [e, upd_ne h]
  · rfl
theorem xw_i {a j i : Nat} {v : Int32} (h : ¬ i = a) : xq_w R a j v i = R i := xv_ne h
theorem xw_v {a j : Nat} {v : Int32} : xq_w R a j v a j = v := by rw [xq_w, xv_eq, upd_eq]
theorem CR_G (h : CR q n ns I R W) : cG n ns I W := h.1
theorem CR_0 (h : CR q n ns I R W) : cT0 R W := h.2.2.2.1
theorem CR_1 (h : CR q n ns I R W) : cT1 R W := h.2.2.2.2.1
theorem CR_2 (h : CR q n ns I R W) : cT2 R W := h.2.2.2.2.2.1
theorem CR_3 (h : CR q n ns I R W) : cT3 n R W := h.2.2.2.2.2.2.1
theorem CR_4 (h : CR q n ns I R W) : cT4 n R W := h.2.2.2.2.2.2.2.1
theorem CR_A (h : CR q n ns I R W) : cTA n R W := h.2.2.2.2.2.2.2.2.1
theorem CR_7 (h : CR q n ns I R W) : cT7 n R W := h.2.2.2.2.2.2.2.2.2.1
theorem CR_8 (h : CR q n ns I R W) : cT8 q n R W := h.2.2.2.2.2.2.2.2.2.2.1
theorem CR_B (h : CR q n ns I R W) : cB q R W := h.2.2.2.2.2.2.2.2.2.2.2.1
theorem CR_L (h : CR q n ns I R W) : cL n R W := h.2.2.2.2.2.2.2.2.2.2.2.2.1
theorem CR_S (h : CR q n ns I R W) : cS n W := h.2.2.2.2.2.2.2.2.2.2.2.2.2
/-- a block is put where it is neither on the way nor laid -/
theorem CR_wh {b w : Nat} (ho : ok n ns W) (h : CR q n ns I R W) (hb : b < n) (o4 : ¬ W (50 + 14 * b + 4) = nI 4) (hw : w < 2 ∨ w = 3) : CR q n ns I (xq_w R 4 b (nI w)) (upd W (50 + 14 * b + 4) (nI w)) := by
  have e2 : ∀ z, z < 5 → ¬ z = w → ¬ (upd W (50 + 14 * b + 4) (nI w)) (50 + 14 * b + 4) = nI z := fun z hz he => by
    rw [upd_eq, xn_eq (by omega) (by omega)]; omega
  exact CR_blk ho h hb (fun p h1 h2 h3 => upd_ne h1) (fun i h1 h2 h3 => xw_i h1) (fun i x hx => xw_x hx) (by rw [xw_v, upd_eq]) (fun z => absurd z (e2 2 (by omega) (by omega))) o4 (e2 4 (by omega) (by omega))
theorem CR_cut1 {b : Nat} (ho : ok n ns W) (h : CR q n ns I R W) (hb : b < n) (h0 : W (50 + 14 * b + 4) = nI 0) : CR q n ns I (cw (xq_w R 4 b (nI 1)) (R 0 10) (nI b) (nI 0) (nI 0)) (sp_wr (upd W (50 + 14 * b + 4) (nI 1)) (nI b) (nI 0) (nI 0)) :=
  CR_wr (ok_wh ho hb (by omega) (by omega)) (CR_wh ho h hb (by rw [h0]; decide) (by omega)) (by rw [upd_ne (by omega)]; exact (CR_0 h).1)
theorem yl_77_12 {bar hB hU wK : Int32} (hbar : ∀ b, b < n → (nI b = bar ↔ nI b = hB ∧ wK < hU)) : ∀ (c i : Nat) (R : Nat → xw) (W : xw) (left : Int32) (bl : Value), ok n ns W → CR q n ns I R W → R 9 10 = hB → R 9 11 = hU → R 0 10 = wK → i + c = n → (∀ R', CR q n ns I R' (sp_cut bar c i W left) → R' 9 = R 9 → Q none (xq_s g J (xc q I R'))) → xq_wp (d + 1) 77 (xq_s g J (xc q I R)) 12 [.ref (xid q 9), .int left, .int (nI i), bl] [] Q := by
  intro c
  induction c with
  | zero =>
    intro i R W left bl ho h e1 e2 e3 e hp
    have hn := ok_n ho
    exact yu_77 (n := n) (b := 0) ⟨(CR_G h).1.trans hn.1, by omega, by omega, fun z => by omega, fun _ => hp R h rfl⟩
  | succ c ih =>
    intro i R W left bl ho h e1 e2 e3 e hp
    have hn := ok_n ho
    obtain ⟨b, hb, eb, ib⟩ := ok_or ho (show i < n by omega)
    obtain ⟨v, hv, ev, iv⟩ := ok_ve ho hb
    simp only [sp_cut, ib, iv] at hp
    have hop := ho.2.2.2.2.2.2.2.1 v hv
    have r2 : R 2 v = W (24 + v) := CR_2 h v hv
    have r4 : R 4 b = W (50 + 14 * b + 4) := CR_4 h b hb
    have step : W (50 + 14 * b + 4) = nI 0 → ¬ W (24 + v) = nI 0 → ¬ nI b = bar → nI 0 < left → bok q (xq_w R 4 b (nI 1)) ∧ xq_wp (d + 1) 77 (xq_s g J (xc q I (cw (xq_w R 4 b (nI 1)) (R 0 10) (nI b) (nI 0) (nI 0)))) 12 [.ref (xid q 9), .int (left + Int32.ofInt (-1)), .int (nI (i + 1)), .int (nI b)] [] Q := by
      intro z1 z2 z3 z4
      refine ⟨bok_row (bok_cB (CR_B h) ho.2.1) (xw_i (by omega)), ?_⟩
      refine ih (i + 1) _ _ _ _ (ok_cut1 ho hb) (CR_cut1 ho h hb z1) ?_ ?_ ?_ (by omega) (fun R' h' e' => hp R' ?_ ?_)
      · rw [cw_row 9 (by omega)]; exact e1
      · rw [cw_row 9 (by omega)]; exact e2
      · rw [cw_row 0 (by omega)]; exact e3
      · rw [if_pos z4, if_pos ⟨z1, z2, z3⟩]; exact h'
      · rw [e', cw_row 9 (by omega)]; rfl
    refine yu_77 (n := n) (b := b) ⟨(CR_G h).1.trans hn.1, by omega, by omega, fun _ => ⟨fun z => ⟨by omega, (CR_3 h i (by omega)).trans eb, by omega, fun z2 => ⟨v, (CR_7 h b hb).trans ev, hv, fun z3 => ⟨fun z4 => ⟨fun z5 => ?_, fun z5 => ?_⟩, fun z4 => ?_⟩, fun z3 => ?_⟩, fun z2 => ?_⟩, fun z => ?_⟩, fun z => by omega⟩
    · refine ih (i + 1) _ _ _ _ ho h e1 e2 e3 (by omega) (fun R' h' e' => hp R' ?_ e')
      rw [e1] at z4
      rw [e2, e3] at z5
      rw [if_pos z, if_neg (fun y => y.2.2 ((hbar b hb).mpr ⟨z4, z5⟩))]; exact h'
    · rw [e2, e3] at z5
      exact step (r4.symm.trans z2) (by rw [← r2, z3]; decide) (fun y => z5 ((hbar b hb).mp y).2) z
    · rw [e1] at z4
      exact step (r4.symm.trans z2) (by rw [← r2, z3]; decide) (fun y => z4 ((hbar b hb).mp y).1) z
    · refine ih (i + 1) _ _ _ _ ho h e1 e2 e3 (by omega) (fun R' h' e' => hp R' ?_ e')
      rw [r2] at z3
      rw [if_pos z, if_neg (fun y => y.2.1 (hop.resolve_right z3))]; exact h'
    · refine ih (i + 1) _ _ _ _ ho h e1 e2 e3 (by omega) (fun R' h' e' => hp R' ?_ e')
      rw [r4] at z2
      rw [if_pos z, if_neg (fun y => z2 y.1)]; exact h'
    · refine hp R ?_ rfl
      rw [if_neg z]; exact h
theorem yl_77 {bar : Int32} (ho : ok n ns W) (h : CR q n ns I R W) (hbar : ∀ b, b < n → (nI b = bar ↔ nI b = R 9 10 ∧ W 2 < R 9 11)) (hp : ∀ R', CR q n ns I R' (sp_cut bar n 0 W (W 13)) → R' 9 = R 9 → Q none (xq_s g J (xc q I R'))) : xq_wp (d + 1) 77 (xq_s g J (xc q I R)) 0 [.ref (xid q 9), xq_un, xq_un, xq_un] [] Q := by
  have e13 : R 1 3 = W 13 := CR_1 h 3 (by omega)
  have key := yl_77_12 (d := d) (g := g) (J := J) (Q := Q) hbar n 0 R W (W 13) xq_un ho h rfl rfl (CR_0 h).1 (by omega) hp
  rw [← e13] at key
  cases q
  · exact xq_wp.go (k := 8) (fun F => rfl) key
  · exact xq_wp.go (k := 8) (fun F => rfl) key
/-- the class's leaveQuarry is comesOn at the first stretch -/
theorem yl_81 {b : Nat} (ho : ok n ns W) (h : CR q n ns I R W) (hb : b < n) (h1 : W (50 + 14 * b + 4) = nI 1) (hp : ∀ R', CR q n ns I R' (sp_on W b (nI 0)) → R' 9 = R 9 → R' 10 = R 10 → R' 16 = R 16 → R' 17 = R 17 → Q none (xq_s g J (xc q I R'))) : xq_wp (d + 1) 81 (xq_s g J (xc q I R)) 0 [.ref (xid q 9), .int (nI b)] [] Q := by
  have hn := ok_n ho
  have n4 : ¬ W (50 + 14 * b + 4) = nI 4 := by rw [h1]; decide
  have e5 : I 2 5 = nI ns := (CR_G h).2.1.trans ho.1.2.2.1
  have ns8 := ho.1.2.2.2
  have cd : (nI 0 < nI 0 ∨ W 1 - nI 1 < nI 0) ↔ ns = 0 := by
    rw [ho.1.2.2.1]
    constructor
    · rintro (z | z)
      · exact absurd z (by decide)
      · rw [Int32.lt_iff_toInt_lt, pk_sub_toInt (by omega) (by omega), nI_toInt (by omega)] at z; omega
    · intro z
      right
      rw [Int32.lt_iff_toInt_lt, pk_sub_toInt (by omega) (by omega), nI_toInt (by omega)]; omega
  have rw11 : ∀ {R0 : Nat → xw} {wk b e k : Int32} (i : Nat), 16 ≤ i → cw R0 wk b e k i = R0 i := by
    intro R0 wk b e k i hi
    unfold cw
    split
    · rw [xw_i (by omega), xw_i (by omega), xw_i (by omega), xw_i (by omega), xw_i (by omega)]
    · rfl
  refine yu_81 ⟨fun z => ⟨by omega, bok_row (bok_cB (CR_B h) ho.2.1) (xw_i (by omega)), hp _ ?_ ?_ ?_ ?_ ?_⟩, fun z => ⟨by omega, hp _ ?_ rfl rfl rfl rfl⟩⟩
  · rw [sp_on, if_pos (cd.mpr ((xn_eq (by omega) (by omega)).mp (e5.symm.trans z)))]
    refine CR_wr (ok_pos ho hb (by omega) (fun y => by omega)) (CR_blk ho h hb (fun p h1 h2 h3 => by rw [upd_ne h3, upd_ne h2, upd_ne h1]) (fun i h1 h2 h3 => xw_i h1) (fun i x hx => xw_x hx) ?_ (fun y => ?_) n4 ?_) ?_
    · rw [xw_v, upd_ne (by omega), upd_ne (by omega), upd_eq]
    · rw [upd_ne (by omega), upd_ne (by omega), upd_eq] at y; exact absurd y (by decide)
    · rw [upd_ne (by omega), upd_ne (by omega), upd_eq]; decide
    · rw [upd_ne (by omega), upd_ne (by omega), upd_ne (by omega)]; exact (CR_0 h).1
  · exact cw_row 9 (by omega)
  · exact cw_row 10 (by omega)
  · exact rw11 16 (by omega)
  · exact rw11 17 (by omega)
  · rw [sp_on, if_neg (fun y => z (by rw [e5, cd.mp y]))]
    refine CR_blk ho h hb (fun p h1 h2 h3 => by rw [upd_ne h3, upd_ne h2, upd_ne h1]) (fun i h1 h2 h3 => by rw [xw_i h3, xw_i h2, xw_i h1]) (fun i x hx => by rw [xw_x hx, xw_x hx, xw_x hx]) ?_ (fun y => ⟨?_, ?_⟩) n4 ?_
    · rw [upd_ne (by omega), upd_ne (by omega), upd_eq, xw_i (by omega), xw_i (by omega), xw_v]
    · rw [upd_ne (by omega), upd_eq, xw_i (by omega), xw_v]
    · rw [upd_eq, xw_v]
    · rw [upd_ne (by omega), upd_ne (by omega), upd_eq]; decide
/-- the class's comeBehind is isOver -/
theorem yl_86 {b k : Nat} (ho : ok n ns W) (h : CR q n ns I R W) (hb : b < n) (h2 : W (50 + 14 * b + 4) = nI 2) (hk : k < 8) (ek : W (50 + 14 * b + 5) = nI k) (hp : ∀ R', CR q n ns I R' (sp_over W b) → R' 9 = R 9 → R' 10 = R 10 → R' 16 = R 16 → R' 17 = R 17 → Q none (xq_s g J (xc q I R'))) : xq_wp (d + 1) 86 (xq_s g J (xc q I R)) 0 [.ref (xid q 9), .int (nI b), .int (nI k)] [] Q := by
  have hn := ok_n ho
  have e5 : I 2 5 = nI ns := (CR_G h).2.1.trans ho.1.2.2.1
  have ns8 := ho.1.2.2.2
  have rw11 : ∀ {R0 : Nat → xw} {wk b e k : Int32} (i : Nat), 16 ≤ i → cw R0 wk b e k i = R0 i := by
    intro R0 wk b e k i hi
    unfold cw
    split
    · rw [xw_i (by omega), xw_i (by omega), xw_i (by omega), xw_i (by omega), xw_i (by omega)]
    · rfl
  have ho1 := ok_wr (b := nI b) (e := nI 1) (k := nI k) ho
  have h1 : CR q n ns I (cw R (R 0 10) (nI b) (nI 1) (nI k)) (sp_wr W (nI b) (nI 1) (nI k)) := CR_wr ho h (CR_0 h).1
  have w2 : sp_wr W (nI b) (nI 1) (nI k) (50 + 14 * b + 4) = nI 2 := (wr_ne ho.2.1 (by omega) (by omega)).trans h2
  have n4 : ¬ sp_wr W (nI b) (nI 1) (nI k) (50 + 14 * b + 4) = nI 4 := by rw [w2]; decide
  have w1 : sp_wr W (nI b) (nI 1) (nI k) 1 = nI ns := ho1.1.2.2.1
  have cd : (nI (k + 1) < nI 0 ∨ sp_wr W (nI b) (nI 1) (nI k) 1 - nI 1 < nI (k + 1)) ↔ ¬ k + 1 < ns := by
    rw [w1]
    constructor
    · rintro (z | z)
      · rw [xn_lt (by omega) (by omega)] at z; omega
      · rw [Int32.lt_iff_toInt_lt, pk_sub_toInt (by omega) (by omega), nI_toInt (by omega)] at z; omega
    · intro z
      right
      rw [Int32.lt_iff_toInt_lt, pk_sub_toInt (by omega) (by omega), nI_toInt (by omega)]; omega
  unfold sp_over at hp
  rw [ek, nI_add] at hp
  refine yu_86 (ns := ns) ⟨bok_cB (CR_B h) ho.2.1, e5, by omega, by omega, fun z => ⟨by omega, hp _ ?_ ?_ ?_ ?_ ?_⟩, fun z => ⟨by omega, bok_row (bok_cB (CR_B h1) ho1.2.1) (xw_i (by omega)), hp _ ?_ ?_ ?_ ?_ ?_⟩⟩
  · rw [sp_on, if_neg (fun y => (cd.mp y) z)]
    refine CR_blk ho1 h1 hb (fun p h1 h2 h3 => by rw [upd_ne h3, upd_ne h2, upd_ne h1]) (fun i h1 h2 h3 => by rw [xw_i h3, xw_i h2]) (fun i x hx => by rw [xw_x hx, xw_x hx]) ?_ (fun y => ⟨?_, ?_⟩) n4 ?_
    · rw [upd_ne (by omega), upd_ne (by omega), upd_eq, xw_i (by omega), xw_i (by omega), CR_4 h1 b hb, w2]
    · rw [upd_ne (by omega), upd_eq, xw_i (by omega), xw_v]
    · rw [upd_eq, xw_v]
    · rw [upd_ne (by omega), upd_ne (by omega), upd_eq]; decide
  · rw [xw_i (by omega), xw_i (by omega)]; exact cw_row 9 (by omega)
  · rw [xw_i (by omega), xw_i (by omega)]; exact cw_row 10 (by omega)
  · rw [xw_i (by omega), xw_i (by omega)]; exact rw11 16 (by omega)
  · rw [xw_i (by omega), xw_i (by omega)]; exact rw11 17 (by omega)
  · rw [sp_on, if_pos (cd.mpr z)]
    refine CR_wr (ok_pos ho1 hb (by omega) (fun y => by omega)) (CR_blk ho1 h1 hb (fun p h1 h2 h3 => by rw [upd_ne h3, upd_ne h2, upd_ne h1]) (fun i h1 h2 h3 => xw_i h1) (fun i x hx => xw_x hx) ?_ (fun y => ?_) n4 ?_) ?_
    · rw [xw_v, upd_ne (by omega), upd_ne (by omega), upd_eq]
    · rw [upd_ne (by omega), upd_ne (by omega), upd_eq] at y; exact absurd y (by decide)
    · rw [upd_ne (by omega), upd_ne (by omega), upd_eq]; decide
    · rw [upd_ne (by omega), upd_ne (by omega), upd_ne (by omega)]; exact (CR_0 h1).1
  · rw [cw_row 9 (by omega), xw_i (by omega)]; exact cw_row 9 (by omega)
  · rw [cw_row 10 (by omega), xw_i (by omega)]; exact cw_row 10 (by omega)
  · rw [rw11 16 (by omega), xw_i (by omega)]; exact rw11 16 (by omega)
  · rw [rw11 17 (by omega), xw_i (by omega)]; exact rw11 17 (by omega)
end yk_c2
