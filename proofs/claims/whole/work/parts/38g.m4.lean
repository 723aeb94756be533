/-! the model: laying, splitting, falling -/
section xq_m4g
variable {d : Nat} {g : xq_V} {J : Nat → Nat → Int64} {I : Nat → Nat → Int32} {Q : Option Value → xq_S → Prop} {A W P F N : xw} {n ns : Nat}
theorem sp_b21 {b : Bool} (h : ¬ sp_b2 b = nI 0) : b = true := by cases b
                                                                  · exact absurd rfl h
                                                                  · rfl
theorem ok_lay1 {b : Nat} (h : ok n ns W) (hb : b < n) : ok n ns (sp_lay1 n W b) := by
  unfold sp_lay1
  refine ok_wr (ok_wh ?_ hb (by omega) (by omega))
  split
  · exact ok_free h (by omega)
  · exact h
theorem ok_lay : ∀ (c i : Nat) (W : xw) (l v : Int32), ok n ns W → i + c = n → ok n ns (sp_lay n c i W l v).1 := by
  intro c
  induction c with
  | zero => exact fun i W l v h _ => h
  | succ c ih =>
    intro i W l v h e
    obtain ⟨b, hb, _, ib⟩ := ok_or h (show i < n by omega)
    simp only [sp_lay, ib]
    repeat' split
    · exact ih _ _ _ _ (ok_lay1 h hb) (by omega)
    · exact ih _ _ _ _ h (by omega)
    · exact h
theorem ok_wait : ∀ (c b : Nat) (W : xw), ok n ns W → b + c = n → ok n ns (sp_wait n c b W) := by
  intro c
  induction c with
  | zero => exact fun b W h _ => h
  | succ c ih =>
    intro b W h e
    simp only [sp_wait]
    refine ih _ _ ?_ (by omega)
    split
    · refine ok_wt h (by omega) ?_
      repeat' split
      all_goals omega
    · exact h
theorem xl_234_107 {z1 z3 : Value} {v : Int32} : ∀ (c b : Nat) (W : xw), ok n ns W → b + c = n → Q (some (.int v)) (xq_s g J (xm I A (sp_wait n c b W) P F N)) → xq_wp (d + 3) 234 (xq_s g J (xm I A W P F N)) 107 [.ref 126, z1, .int v, .int (nI b), z3] [] Q := by
  intro c
  induction c with
  | zero =>
    intro b W h e hp
    have := ok_n h
    exact xu_234_107 (n := n) ⟨this.1, by omega, by omega, fun q => by omega, fun _ => hp⟩
  | succ c ih =>
    intro b W h e hp
    have hn := ok_n h
    simp only [sp_wait] at hp
    refine xu_234_107 (n := n) ⟨hn.1, by omega, by omega, fun _ => ⟨by omega, fun q => ⟨hn.1, hn.2, by omega, fun q2 => ?_, fun q2 => ⟨fun q3 => ?_, fun q3 => ?_⟩⟩, fun q => ?_⟩, fun q => by omega⟩
    · rw [if_pos q, sp_b20.mp q2] at hp
      exact ih _ _ (ok_wt h (by omega) (by omega)) (by omega) hp
    · rw [if_pos q, sp_b21 q2, sp_b20.mp q3] at hp
      exact ih _ _ (ok_wt h (by omega) (by omega)) (by omega) hp
    · rw [if_pos q, sp_b21 q2, sp_b21 q3] at hp
      exact ih _ _ (ok_wt h (by omega) (by omega)) (by omega) hp
    · rw [if_neg q] at hp
      exact ih _ _ h (by omega) hp
theorem xl_234_21 : ∀ (c i : Nat) (W : xw) (left v : Int32) (z3 : Value), ok n ns W → i + c = n → (∀ (l' : Int32) (z3' : Value), xq_wp (d + 3) 234 (xq_s g J (xm I A (sp_lay n c i W left v).1 P F N)) 107 [.ref 126, .int l', .int (sp_lay n c i W left v).2, .int (nI 0), z3'] [] Q) → xq_wp (d + 3) 234 (xq_s g J (xm I A W P F N)) 21 [.ref 126, .int left, .int v, .int (nI i), z3] [] Q := by
  intro c
  induction c with
  | zero =>
    intro i W left v z3 h e hp
    have := ok_n h
    exact xu_234_21 (n := n) (b := 0) ⟨this.1, by omega, by omega, fun q => by omega, fun _ => hp _ _⟩
  | succ c ih =>
    intro i W left v z3 h e hp
    have hn := ok_n h
    obtain ⟨b, hb, eb, ib⟩ := ok_or h (show i < n by omega)
    simp only [sp_lay, ib] at hp
    refine xu_234_21 (n := n) (b := b) ⟨hn.1, by omega, by omega, fun _ => ⟨fun q => ⟨by omega, eb, hn.1, hn.2, by omega, fun q2 => ?_, fun q2 => ⟨fun q3 => ⟨by omega, okb_up (okb_up h.2.1 (by omega)) (by omega), ?_⟩, fun q3 => ⟨by omega, okb_up h.2.1 (by omega), ?_⟩⟩⟩, fun q => ?_⟩, fun q => by omega⟩
    · refine ih _ _ _ _ _ h (by omega) (fun l' z3' => ?_)
      have := hp l' z3'
      simp only [if_pos q, sp_b20.mp q2] at this
      exact this
    · refine ih _ _ _ _ _ (by have := ok_lay1 h hb; rw [sp_lay1, if_pos q3] at this; exact this) (by omega) (fun l' z3' => ?_)
      have := hp l' z3'
      simp only [if_pos q, sp_b21 q2, sp_lay1, if_pos q3] at this
      exact this
    · refine ih _ _ _ _ _ (by have := ok_lay1 h hb; rw [sp_lay1, if_neg q3] at this; exact this) (by omega) (fun l' z3' => ?_)
      have := hp l' z3'
      simp only [if_pos q, sp_b21 q2, sp_lay1, if_neg q3] at this
      exact this
    · have := hp left z3
      simp only [if_neg q] at this
      exact this
theorem xl_234 (h : ok n ns W) (hp : Q (some (.int (sp_lays n W).2)) (xq_s g J (xm I A (sp_lays n W).1 P F N))) : xq_wp (d + 3) 234 (xq_s g J (xm I A W P F N)) 0 [.ref 126, xq_un, xq_un, xq_un, xq_un] [] Q := by
  have hn := ok_n h
  have key : ∀ l, l = (if sp_frost W = true then nI 0 else W 14) → xq_wp (d + 3) 234 (xq_s g J (xm I A W P F N)) 21 [.ref 126, .int l, .int (nI 0), .int (nI 0), xq_un] [] Q := by
    intro l el
    refine xl_234_21 n 0 W _ _ _ h (by omega) (fun l' z3' => ?_)
    subst el
    exact xl_234_107 n 0 _ (ok_lay n 0 W _ _ h (by omega)) (by omega) hp
  refine xq_wp.go (k := 1) (x' := xq_s g J (xm I A W P F N)) (pc' := 1) (L' := [.ref 126, xq_un, xq_un, xq_un, xq_un]) (st' := [.ref 126]) (fun F => rfl) (xq_wp.call rfl rfl rfl rfl (xl_235 ?_))
  refine xq_wp.br (k := 1) (x' := xq_s g J (xm I A W P F N)) (t := 11) (q := 7) (L' := [.ref 126, xq_un, xq_un, xq_un, xq_un]) (st' := []) (p := sp_b2 (sp_frost W) = nI 0) (fun F => rfl) ⟨fun q => ?_, fun q => ?_⟩
  · refine xq_wp.go (k := 2) (x' := xq_s g J (xm I A W P F N)) (pc' := 13) (L' := [.ref 126, xq_un, xq_un, xq_un, xq_un]) (st' := [.int (nI 4), .ref 126]) (fun F => rfl) (xq_wp.call rfl rfl rfl rfl (xq_wp.ret (k := 7) (v := some (.int (W 14))) (fun F => rfl) ?_))
    exact xq_wp.go (k := 5) (fun F => rfl) (key (W 14) (by rw [sp_b20.mp q]; rfl))
  · exact xq_wp.go (k := 7) (fun F => rfl) (key (nI 0) (by rw [sp_b21 q]; rfl))
theorem ok_draw (h : ok n ns W) : ok n ns (sp_draw W) := ok_free h (by omega)
theorem ok_split1 {b : Nat} (h : ok n ns W) (hb : b < n) : ok n ns (sp_split1 W b) := by
  refine ok_wr ?_
  have h2 := ok_wh (w := 0) h hb (by omega) (by omega)
  obtain ⟨v, hv, ev, _⟩ := ok_ve h hb
  obtain ⟨g1, g2, g3, g4, g5, g6, g7, g8, g9, g10, g11⟩ := h2
  have n14 := g1.2.1
  have ns8 := g1.2.2.2
  refine ⟨ok1_fr g1 ?_ ?_, okb_fr g2 ?_, ok2_fr g3 ?_, ok3_fr g4 ?_, fun b' hb' => ?_, ok5_fr g6 ?_, ok6_fr g7 ?_, ok7_fr g8 ?_, ok8_fr g9 ?_, ok9_fr g10 ?_, sp_law_fr g11 ?_⟩
  case refine_6 =>
    by_cases e : b' = b
    · subst e
      refine ⟨(v + 1) % 4, by omega, ?_⟩
      rw [upd_eq, ev, nI_add, xq_rem, pk_rem (by omega) (by omega) (by omega)]
    · obtain ⟨w', q1, q2⟩ := g5 b' hb'
      rw [upd_ne (by omega)]
      exact ⟨w', q1, q2⟩
  all_goals (try intros)
  all_goals (try constructor)
  all_goals (apply upd_ne; omega)
theorem ok_split : ∀ (c b : Nat) (W : xw), ok n ns W → b + c = n → ok n ns (sp_split c b W) := by
  intro c
  induction c with
  | zero => exact fun b W h _ => h
  | succ c ih =>
    intro b W h e
    simp only [sp_split]
    refine ih _ _ ?_ (by omega)
    repeat' split
    · exact h
    · exact ok_split1 (ok_draw h) (by omega)
    · exact ok_draw h
theorem xl_240_2 : ∀ (c b : Nat) (W : xw), ok n ns W → b + c = n → Q none (xq_s g J (xm I A (sp_split c b W) P F N)) → xq_wp (d + 1) 240 (xq_s g J (xm I A W P F N)) 2 [.ref 126, .int (nI b)] [] Q := by
  intro c
  induction c with
  | zero =>
    intro b W h e hp
    have := ok_n h
    exact xu_240 (n := n) ⟨this.1, by omega, by omega, fun q => by omega, fun _ => hp⟩
  | succ c ih =>
    intro b W h e hp
    have hn := ok_n h
    simp only [sp_split] at hp
    have e18 : sp_draw W 18 = W 18 := upd_ne (by omega)
    refine xu_240 (n := n) ⟨hn.1, by omega, by omega, fun _ => ⟨by omega, fun q => ?_, fun q => ⟨fun q2 => ?_, fun q2 dv Wd ed eW => ⟨fun q3 => ⟨by omega, ?_, ?_⟩, fun q3 => ?_⟩⟩⟩, fun q => by omega⟩
    · rw [if_pos (Or.inl q)] at hp
      exact ih _ _ h (by omega) hp
    · rw [if_pos (Or.inr q2)] at hp
      exact ih _ _ h (by omega) hp
    · rw [eW]
      exact okb_up (okb_up (ok_draw h).2.1 (by omega)) (by omega)
    · rw [eW, ed, e18] at q3
      rw [if_neg (fun z => z.elim q q2), if_pos q3] at hp
      rw [eW, upd_ne (show ¬ 50 + 14 * b + 1 = 50 + 14 * b + 4 by omega)]
      exact ih _ _ (ok_split1 (ok_draw h) (by omega)) (by omega) hp
    · rw [eW, ed, e18] at q3
      rw [if_neg (fun z => z.elim q q2), if_neg q3] at hp
      rw [eW]
      exact ih _ _ (ok_draw h) (by omega) hp
theorem xl_240 (h : ok n ns W) (hp : Q none (xq_s g J (xm I A (sp_split n 0 W) P F N))) : xq_wp (d + 1) 240 (xq_s g J (xm I A W P F N)) 0 [.ref 126, xq_un] [] Q :=
  xq_wp.go (k := 2) (x' := xq_s g J (xm I A W P F N)) (fun F => rfl) (xl_240_2 n 0 W h (by omega) hp)
theorem ok_fall : ∀ (c b : Nat) (W : xw), ok n ns W → b + c = n → ok n ns (sp_fall c b W) := by
  intro c
  induction c with
  | zero => exact fun b W h _ => h
  | succ c ih =>
    intro b W h e
    simp only [sp_fall]
    refine ih _ _ ?_ (by omega)
    split
    · exact ok_wr (ok_wh h (by omega) (by omega) (by omega))
    · exact h
theorem ok_falls (h : ok n ns W) : ok n ns (sp_falls n W) := by
  unfold sp_falls
  split
  · exact h
  · exact ok_free (ok_free (ok_fall n 0 W h (by omega)) (by omega)) (by omega)
theorem xl_241_53 {z1 : Value} : ∀ (c b : Nat) (W : xw), ok n ns W → b + c = n → Q none (xq_s g J (xm I A (upd (upd (sp_fall c b W) 4 (sp_fall c b W 4 + nI 1)) 5 (Int32.ofInt (-1))) P F N)) → xq_wp (d + 1) 241 (xq_s g J (xm I A W P F N)) 53 [.ref 126, z1, .int (nI b)] [] Q := by
  intro c
  induction c with
  | zero =>
    intro b W h e hp
    have := ok_n h
    exact xu_241_53 (n := n) ⟨this.1, by omega, by omega, fun q => by omega, fun _ => hp⟩
  | succ c ih =>
    intro b W h e hp
    have hn := ok_n h
    simp only [sp_fall] at hp
    refine xu_241_53 (n := n) ⟨hn.1, by omega, by omega, fun _ => ⟨by omega, fun q => ⟨okb_up h.2.1 (by omega), ?_⟩, fun q => ?_⟩, fun q => by omega⟩
    · simp only [if_pos q] at hp
      exact ih _ _ (ok_wr (ok_wh h (by omega) (by omega) (by omega))) (by omega) hp
    · simp only [if_neg q] at hp
      exact ih _ _ h (by omega) hp
theorem xl_241 (h : ok n ns W) (hp : Q none (xq_s g J (xm I A (sp_falls n W) P F N))) : xq_wp (d + 2) 241 (xq_s g J (xm I A W P F N)) 0 [.ref 126, xq_un, xq_un] [] Q := by
  have hn := ok_n h
  unfold sp_falls at hp
  refine xu_241 (n := n) ⟨hn.1, hn.2, fun q => ?_, fun q => ⟨fun q2 => ?_, fun q2 => ⟨fun q3 => ?_, fun q3 => ⟨fun q4 => ?_, fun q4 => ?_⟩⟩⟩⟩
  · rw [if_pos (Or.inl q)] at hp; exact hp
  · rw [if_pos (Or.inr (Or.inl q2))] at hp; exact hp
  · rw [if_pos (Or.inr (Or.inr (Or.inl q3)))] at hp; exact hp
  · rw [if_pos (Or.inr (Or.inr (Or.inr q4)))] at hp; exact hp
  · rw [if_neg (fun z => z.elim q (fun z => z.elim q2 (fun z => z.elim q3 q4)))] at hp
    exact xl_241_53 n 0 W h (by omega) hp
end xq_m4g
