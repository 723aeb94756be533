/-! the model: cutting, teams, frost, what can be laid -/
section xq_m4b
variable {d : Nat} {g : xq_V} {J : Nat → Nat → Int64} {I : Nat → Nat → Int32} {Q : Option Value → xq_S → Prop} {A W P F N : xw} {n ns : Nat}
theorem sp_b20 {b : Bool} : sp_b2 b = nI 0 ↔ b = false := by cases b <;> decide
theorem ok_n (h : ok n ns W) : W 0 = nI n ∧ n ≤ 14 := ⟨h.1.1, h.1.2.1⟩
theorem ok_or (h : ok n ns W) {i : Nat} (hi : i < n) : ∃ b, b < n ∧ W (30 + i) = nI b ∧ sp_ix W (30 + i) = b := by
  obtain ⟨b, h1, h2⟩ := h.2.2.2.1.1 i hi
  have := (ok_n h).2
  exact ⟨b, h1, h2, xk_ix h2 (by omega)⟩
theorem ok_ve (h : ok n ns W) {b : Nat} (hb : b < n) : ∃ v, v < 4 ∧ W (50 + 14 * b + 1) = nI v ∧ sp_ix W (50 + 14 * b + 1) = v := by
  obtain ⟨v, h1, h2⟩ := h.2.2.2.2.1 b hb
  exact ⟨v, h1, h2, xk_ix h2 (by omega)⟩
theorem ok_at (h : ok n ns W) {b : Nat} (hb : b < n) (hw : W (50 + 14 * b + 4) = nI 2) : ∃ k, k < ns ∧ k < 8 ∧ W (50 + 14 * b + 5) = nI k ∧ sp_ix W (50 + 14 * b + 5) = k := by
  obtain ⟨w, h1, h2, h3⟩ := h.2.2.2.2.2.1 b hb
  have e : w = 2 := (xn_eq (by omega) (by omega)).mp (h2.symm.trans hw)
  obtain ⟨k, h4, h5⟩ := h3 e
  have := h.1.2.2.2
  exact ⟨k, h4, by omega, h5, xk_ix h5 (by omega)⟩
theorem okb_up {p : Nat} {v : Int32} (h : okb W) (hp : ¬ 6 = p) : okb (upd W p v) := okb_fr h (upd_ne hp)
/-- a block is put somewhere, but not on the way -/
theorem ok_wh {b w : Nat} (h : ok n ns W) (hb : b < n) (hw : w < 5) (hw2 : w ≠ 2) : ok n ns (upd W (50 + 14 * b + 4) (nI w)) := by
  obtain ⟨g1, g2, g3, g4, g5, g6, g7, g8, g9, g10, g11⟩ := h
  have n14 := g1.2.1
  have ns8 := g1.2.2.2
  refine ⟨ok1_fr g1 ?_ ?_, okb_fr g2 ?_, ok2_fr g3 ?_, ok3_fr g4 ?_, ok4_fr g5 ?_, fun b' hb' => ?_, ok6_fr g7 ?_, ok7_fr g8 ?_, ok8_fr g9 ?_, ok9_fr g10 ?_, sp_law_fr g11 ?_⟩
  case refine_7 =>
    by_cases e : b' = b
    · subst e
      exact ⟨w, hw, upd_eq, fun z => absurd z hw2⟩
    · obtain ⟨w', q1, q2, q3⟩ := g6 b' hb'
      rw [upd_ne (by omega), upd_ne (by omega)]
      exact ⟨w', q1, q2, q3⟩
  all_goals (try intros)
  all_goals (apply upd_ne; omega)
theorem ok_cut1 {b : Nat} (h : ok n ns W) (hb : b < n) : ok n ns (sp_wr (upd W (50 + 14 * b + 4) (nI 1)) (nI b) (nI 0) (nI 0)) := ok_wr (ok_wh h hb (by omega) (by omega))
theorem xl_219_8 : ∀ (c i : Nat) (W : xw) (left : Int32) (bl : Value), ok n ns W → i + c = n → Q none (xq_s g J (xm I A (sp_cut (A 29) c i W left) P F N)) → xq_wp (d + 1) 219 (xq_s g J (xm I A W P F N)) 8 [.ref 126, .int left, .int (nI i), bl] [] Q := by
  intro c
  induction c with
  | zero =>
    intro i W left bl h e hp
    have := ok_n h
    exact xu_219 (n := n) ⟨this.1, by omega, by omega, fun q => by omega, fun _ => hp⟩
  | succ c ih =>
    intro i W left bl h e hp
    have hn := ok_n h
    obtain ⟨b, hb, eb, ib⟩ := ok_or h (show i < n by omega)
    obtain ⟨v, hv, ev, iv⟩ := ok_ve h hb
    simp only [sp_cut, ib, iv] at hp
    refine xu_219 (n := n) ⟨hn.1, by omega, by omega, fun _ => ⟨fun q => ⟨by omega, b, eb, by omega, fun q2 => ⟨by omega, v, ev, by omega, fun q3 => ?_, fun q3 => ⟨fun q4 => ?_, fun q4 => ⟨okb_up h.2.1 (by omega), ?_⟩⟩⟩, fun q2 => ?_⟩, fun q => ?_⟩, fun q => by omega⟩
    · rw [if_pos q, if_neg (fun z => z.2.1 q3)] at hp
      exact ih _ _ _ _ h (by omega) hp
    · rw [if_pos q, if_neg (fun z => z.2.2 q4)] at hp
      exact ih _ _ _ _ h (by omega) hp
    · rw [if_pos q, if_pos ⟨q2, q3, q4⟩] at hp
      exact ih _ _ _ _ (ok_cut1 h hb) (by omega) hp
    · rw [if_pos q, if_neg (fun z => q2 z.1)] at hp
      exact ih _ _ _ _ h (by omega) hp
    · rw [if_neg q] at hp
      exact hp
theorem xl_219 (h : ok n ns W) (hp : Q none (xq_s g J (xm I A (sp_cut (A 29) n 0 W (W 13)) P F N))) : xq_wp (d + 1) 219 (xq_s g J (xm I A W P F N)) 0 [.ref 126, xq_un, xq_un, xq_un] [] Q :=
  xq_wp.go (k := 2) (x' := xq_s g J (xm I A W P F N)) (pc' := 2) (L' := [.ref 126, xq_un, xq_un, xq_un]) (st' := [.int (nI 3), .ref 126]) (fun F => rfl) (xq_wp.call rfl rfl rfl rfl (xq_wp.ret (k := 7) (v := some (.int (W 13))) (fun F => rfl) (xq_wp.go (k := 3) (L' := [.ref 126, .int (W 13), .int (nI 0), xq_un]) (fun F => rfl) (xl_219_8 n 0 W (W 13) xq_un h (by omega) hp))))
theorem xl_226 {b k : Nat} (hb : b < 14) (hk : W (50 + 14 * b + 5) = nI k) (hk8 : k < 8) (hp : Q (some (.int (sp_team W b))) (xq_s g J (xm I A W P F N))) : xq_wp (d + 1) 226 (xq_s g J (xm I A W P F N)) 0 [.ref 126, .int (nI b), xq_un] [] Q := by
  have x1 : sp_ix W (50 + 14 * b + 5) = k := xk_ix hk (by omega)
  simp only [sp_team, x1] at hp
  refine xu_226 (k := k) ⟨by omega, hk, by omega, fun q => ?_, fun q => ⟨fun q2 => ⟨by omega, ?_⟩, fun q2 => ⟨by omega, ?_⟩⟩⟩
  · rw [if_pos q] at hp; exact hp
  · rw [if_neg q, if_pos q2] at hp; exact hp
  · rw [if_neg q, if_neg q2] at hp; exact hp
theorem xl_235 (hp : Q (some (.int (sp_b2 (sp_frost W)))) (xq_s g J (xm I A W P F N))) : xq_wp (d + 1) 235 (xq_s g J (xm I A W P F N)) 0 [.ref 126] [] Q := by
  unfold sp_frost at hp
  refine xu_235 ⟨fun q => ?_, fun q => ?_⟩
  · rw [decide_eq_true q] at hp; exact hp
  · rw [decide_eq_false q] at hp; exact hp
theorem xl_236 {b : Nat} (h0 : W 0 = nI n) (hn : n ≤ 14) (hb : b < 14) (hp : Q (some (.int (sp_b2 (sp_canB n W b)))) (xq_s g J (xm I A W P F N))) : xq_wp (d + 2) 236 (xq_s g J (xm I A W P F N)) 0 [.ref 126, .int (nI b), xq_un] [] Q := by
  unfold sp_canB sp_wei at hp
  refine xu_236 (n := n) ⟨by omega, fun q => ⟨by omega, h0, hn, fun q2 => ⟨by omega, fun q3 => ⟨by omega, fun q4 => ?_, fun q4 => ⟨fun q5 => ?_, fun q5 => ?_⟩⟩, fun q3 => ⟨by omega, fun q4 => ?_, fun q4 => ⟨fun q5 => ?_, fun q5 => ?_⟩⟩⟩, fun q2 => ?_⟩, fun q => ?_⟩
  · simp only [if_pos q3, q, q2, q4, decide_true, Bool.and_false, Bool.not_true, Bool.false_and] at hp; exact hp
  · simp only [if_pos q3, q, q2, q4, q5, decide_true, Bool.and_false, Bool.not_true, Bool.false_and] at hp; exact hp
  · simp only [if_pos q3, q, q2, q4, q5, decide_true, decide_false, Bool.and_self, Bool.not_false] at hp; exact hp
  · simp only [if_neg q3, q, q2, q4, decide_true, Bool.and_false, Bool.not_true, Bool.false_and] at hp; exact hp
  · simp only [if_neg q3, q, q2, q4, q5, decide_true, Bool.and_false, Bool.not_true, Bool.false_and] at hp; exact hp
  · simp only [if_neg q3, q, q2, q4, q5, decide_true, decide_false, Bool.and_self, Bool.not_false] at hp; exact hp
  · simp only [q2, decide_false, Bool.and_false, Bool.false_and] at hp; exact hp
  · simp only [q, decide_false, Bool.false_and] at hp; exact hp
end xq_m4b
