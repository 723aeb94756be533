/-! thoughts that cannot close: nothing moves any more -/
def th_stk (n : Nat) (W : xw) : Prop := (∀ x, x < n → ¬ W (50 + 14 * x + 4) = nI 0 ∧ ¬ W (50 + 14 * x + 4) = nI 1 ∧ ¬ W (50 + 14 * x + 4) = nI 2) ∧ (∀ i, i < n → sp_canB n W (sp_ix W (30 + i)) = false) ∧ (W 21 = nI 0 ∨ lmN W n = 0) ∧ lmN W n < n
section xk_pu4
variable {n ns : Nat} {W W' N : xw} {bar blk last : Int32} {idle b k t f : Nat} {z : Int32}
theorem lsN_mono : ∀ c, (∀ x, x < c → W (50 + 14 * x + 4) = nI 4 → W' (50 + 14 * x + 4) = nI 4) → lsN W c ≤ lsN W' c
  | 0, _ => Nat.le_refl _
  | c + 1, h => by
    have := lsN_mono c (fun x hx => h x (by omega))
    have hc := h c (by omega)
    unfold lsN
    by_cases q : W (50 + 14 * c + 4) = nI 4
    · rw [if_pos q, if_pos (hc q)]; omega
    · rw [if_neg q]; omega
theorem lsN_slt {x : Nat} (hW : ¬ W (50 + 14 * x + 4) = nI 4) (hW' : W' (50 + 14 * x + 4) = nI 4) : ∀ c, x < c → (∀ x, x < c → W (50 + 14 * x + 4) = nI 4 → W' (50 + 14 * x + 4) = nI 4) → lsN W c < lsN W' c
  | 0, h, _ => by omega
  | c + 1, hx, h => by
    have hc := h c (by omega)
    unfold lsN
    by_cases e : x = c
    · subst e
      have := lsN_mono (W := W) (W' := W') x (fun y hy => h y (by omega))
      have p := Nat.two_pow_pos x
      rw [if_neg hW, if_pos hW']; omega
    · have := lsN_slt hW hW' c (by omega) (fun y hy => h y (by omega))
      by_cases q : W (50 + 14 * c + 4) = nI 4
      · rw [if_pos q, if_pos (hc q)]; omega
      · rw [if_neg q]; omega
theorem lmN_pos {x : Nat} : ∀ c, x < c → W (50 + 14 * x + 4) = nI 4 → 0 < lmN W c
  | 0, h, _ => by omega
  | c + 1, h, hw => by
    unfold lmN
    by_cases e : x = c
    · subst e; rw [if_pos hw]; omega
    · have := lmN_pos c (by omega) hw
      omega
theorem lay_5 : ∀ (c i : Nat) (W : xw) (l v : Int32), ok n ns W → i + c = n → ¬ lmN W n = 0 → (sp_lay n c i W l v).1 5 = W 5 := by
  intro c
  induction c with
  | zero => intros; rfl
  | succ c ih =>
    intro i W l v ho e h
    obtain ⟨b, hb, eb, ib⟩ := ok_or ho (show i < n by omega)
    have n14 := ho.1.2.1
    have lm := lmN_le (W := W) n
    simp only [sp_lay, ib]
    split
    · split
      · have p := lmN_pos (W := sp_lay1 n W b) n hb (lay1_v4 ho.2.1 (by omega))
        rw [ih (i + 1) _ _ _ (ok_lay1 ho hb) (by omega) (by omega)]
        unfold sp_lay1
        rw [if_neg (by rw [lmany_N, xn_eq (by omega) (by omega)]; exact h), wr_ne (okb_up ho.2.1 (by omega)) (by omega) (by omega), upd_ne (by omega)]
      · exact ih (i + 1) W l v ho (by omega) h
    · rfl
theorem lay_ca : ∀ (c i : Nat) (W : xw) (l v : Int32), ok n ns W → i + c = n → nI 0 < l → ((sp_lay n c i W l v).1 = W ∧ ∀ j, i ≤ j → j < n → sp_canB n W (sp_ix W (30 + j)) = false) ∨ (∃ x, x < n ∧ ¬ W (50 + 14 * x + 4) = nI 4 ∧ (sp_lay n c i W l v).1 (50 + 14 * x + 4) = nI 4 ∧ (lmN W n = 0 → (sp_lay n c i W l v).1 5 = W 2)) := by
  intro c
  induction c with
  | zero => intro i W l v ho e hl; exact Or.inl ⟨rfl, fun j j1 j2 => by omega⟩
  | succ c ih =>
    intro i W l v ho e hl
    obtain ⟨b, hb, eb, ib⟩ := ok_or ho (show i < n by omega)
    have n14 := ho.1.2.1
    simp only [sp_lay, ib]
    rw [if_pos hl]
    by_cases hc : sp_canB n W b = true
    · rw [if_pos hc]
      right
      have h3 := can_3 hc
      have v4 := lay1_v4 (n := n) (W := W) (b := b) ho.2.1 (by omega)
      refine ⟨b, hb, by rw [h3]; decide, ?_, fun h0 => ?_⟩
      · rcases lay_4 hb c (i + 1) (sp_lay1 n W b) (l + Int32.ofInt (-1)) (v + nI 1) (ok_lay1 ho hb) (by omega) with y | y
        · rw [y]; exact v4
        · exact y.2
      · have p := lmN_pos (W := sp_lay1 n W b) n hb v4
        rw [lay_5 c (i + 1) _ _ _ (ok_lay1 ho hb) (by omega) (by omega)]
        unfold sp_lay1
        rw [if_pos (by rw [lmany_N, h0]), wr_ne (okb_up (okb_up ho.2.1 (by omega)) (by omega)) (by omega) (by omega), upd_ne (by omega), upd_eq]
    · rw [if_neg hc]
      rcases ih (i + 1) W l v ho (by omega) hl with y | y
      · refine Or.inl ⟨y.1, fun j j1 j2 => ?_⟩
        by_cases ej : j = i
        · subst ej; rw [ib]; exact Bool.eq_false_iff.mpr hc
        · exact y.2 j (by omega) j2
      · exact Or.inr y
theorem lay_no : ∀ (c i : Nat) (W : xw) (l v : Int32), i + c = n → (∀ j, i ≤ j → j < n → sp_canB n W (sp_ix W (30 + j)) = false) → (sp_lay n c i W l v).1 = W
  | 0, _, _, _, _, _, _ => rfl
  | c + 1, i, W, l, v, e, h => by
    simp only [sp_lay]
    split
    · rw [if_neg (by rw [h i (by omega) (by omega)]; decide)]
      exact lay_no c (i + 1) W l v (by omega) (fun j j1 j2 => h j (by omega) j2)
    · rfl
theorem can_cg {b : Nat} (hb : b < 14) (hn : n ≤ 14) (e4 : W' (50 + 14 * b + 4) = W (50 + 14 * b + 4)) (ea : ∀ x, x < n → (W' (50 + 14 * x + 4) = nI 4 ↔ W (50 + 14 * x + 4) = nI 4)) (e : ∀ p, stp p → W' p = W p) : sp_canB n W' b = sp_canB n W b := by
  unfold sp_canB
  rw [e4, e _ (Or.inr (Or.inr (Or.inl ⟨b, 3, hb, by omega, rfl⟩))), sp_lset_cg n 0 _ (fun x _ hx => ea x (by omega)), sp_lean_cg n 0 _ (fun x _ hx => ⟨ea x (by omega), wei_stp (by omega) e⟩), wei_stp hb e, e 20 (by unfold stp; omega)]
theorem V_stp {p : Nat} (ho : ok n ns W) (hp : stp p) : th_V bar n W p = W p := by rw [V_st2 ho (Or.inl hp), H_stp hp]
/-- all that is at the dome or laid stays where it is, up to the laying -/
theorem V_stay {x : Nat} (ho : ok n ns W) (hx : x < n) (h : ¬ W (50 + 14 * x + 4) = nI 0 ∧ ¬ W (50 + 14 * x + 4) = nI 1 ∧ ¬ W (50 + 14 * x + 4) = nI 2) : th_V bar n W (50 + 14 * x + 4) = W (50 + 14 * x + 4) := by
  have h4 : th_H W (50 + 14 * x + 4) = W (50 + 14 * x + 4) := H_fr (by omega) (by omega) (by omega)
  have hC : th_C bar n W (50 + 14 * x + 4) = W (50 + 14 * x + 4) := by
    rcases cut_4 (bar := bar) hx n 0 (th_H W) (th_H W 13) (ok_H ho) (by omega) with y | y
    · rw [th_C, y, h4]
    · rw [h4] at y; exact absurd y.1 h.1
  rw [th_V, hauls_4 hx n 0 _ _ _ (ok_C ho) (by omega) (by rw [hC]; exact h.2.1) (by rw [hC]; exact h.2.2), hC]
theorem fall_no (hn : n ≤ 14) (h : W 21 = nI 0 ∨ lmN W n = 0) : sp_falls n W = W := by
  unfold sp_falls
  rw [if_pos]
  rcases h with h | h
  · exact Or.inr (Or.inr (Or.inl h))
  · exact Or.inl (by rw [lmany_N, h])
theorem stk_step (ho : ok n ns W) (h : th_stk n W) : th_stk n (sp_week false bar n W).1 := by
  obtain ⟨h1, h2, h3, h4⟩ := h
  have n14 := ho.1.2.1
  have v4 : ∀ x, x < n → th_V bar n W (50 + 14 * x + 4) = W (50 + 14 * x + 4) := fun x hx => V_stay ho hx (h1 x hx)
  have va : ∀ x, x < n → (th_V bar n W (50 + 14 * x + 4) = nI 4 ↔ W (50 + 14 * x + 4) = nI 4) := fun x hx => by rw [v4 x hx]
  have vo : ∀ i, i < n → sp_ix (th_V bar n W) (30 + i) = sp_ix W (30 + i) := fun i hi => by rw [sp_ix, V_stp ho (by unfold stp; omega), sp_ix]
  have vc : ∀ i, i < n → sp_canB n (th_V bar n W) (sp_ix (th_V bar n W) (30 + i)) = false := by
    intro i hi
    obtain ⟨b, hb, eb, ib⟩ := ok_or ho hi
    have := h2 i hi
    rw [vo i hi, ib]
    rw [ib] at this
    rw [can_cg (by omega) n14 (v4 b hb) va (fun p hp => V_stp ho hp)]
    exact this
  have eU : th_U bar n W = th_V bar n W := lay_no n 0 _ _ _ (by omega) (fun j _ hj => vc j hj)
  have hl : lmN (sp_wait n n 0 (th_V bar n W)) n = lmN W n := by rw [lm_cg n (fun x hx => by rw [wait_4]), lmN_V ho]
  have e21 : sp_wait n n 0 (th_V bar n W) 21 = W 21 := by rw [wait_fr (fun x j hx j1 j2 => by omega) n 0 _ (by omega), V_stp ho (by unfold stp; omega)]
  have ew : (sp_week false bar n W).1 = sp_turn (sp_wait n n 0 (th_V bar n W)) := by
    rw [th_wkU, eU, fall_no n14 (by rw [e21, hl]; exact h3)]
  have w4 : ∀ x, x < n → (sp_week false bar n W).1 (50 + 14 * x + 4) = W (50 + 14 * x + 4) := fun x hx => by
    rw [ew, stp_turn (by omega) (by omega), wait_4, v4 x hx]
  have wa : ∀ x, x < n → ((sp_week false bar n W).1 (50 + 14 * x + 4) = nI 4 ↔ W (50 + 14 * x + 4) = nI 4) := fun x hx => by rw [w4 x hx]
  refine ⟨fun x hx => by rw [w4 x hx]; exact h1 x hx, fun i hi => ?_, ?_, ?_⟩
  · obtain ⟨b, hb, eb, ib⟩ := ok_or ho hi
    have := h2 i hi
    rw [ib] at this
    rw [sp_ix, stp_week ho (by unfold stp; omega), show (W (30 + i)).toNatClampNeg = b from ib, can_cg (by omega) n14 (w4 b hb) wa (fun p hp => stp_week ho hp)]
    exact this
  · rw [stp_week ho (by unfold stp; omega), lm_cg n wa]; exact h3
  · rw [lm_cg n wa]; exact h4
theorem bt_stk {c k kw : Nat} (ho : ok n ns W) (ek : W 2 = nI kw) (hk : kw + c ≤ 19500) (h : th_stk n W) : th_bt n blk idle last c k W = Int32.ofInt (-1) := by
  refine th_bt_none (ns := ns) (fun _ W => th_stk n W) ?_ c k kw W ho ek hk h
  intro c kw W bar ho ek hk h1 hP
  have := stk_step (bar := bar) ho hP
  exact ⟨this, by have := this.2.2.2; omega⟩
theorem stk_in (ho : ok n ns W) (h1 : sp_lset W n 0 (nI 0) = sp_lset (sp_week false bar n W).1 n 0 (nI 0)) (h2 : xq_rem (W 2) (nI 52) < W 19) (h3 : ∀ x, x < n → ¬ (sp_week false bar n W).1 (50 + 14 * x + 4) < nI 3) (h4 : ¬ nI 0 < W 21 ∨ sp_lset (sp_week false bar n W).1 n 0 (nI 0) = nI 0) (h14 : ¬ W 14 = nI 0) (hl : lmN (sp_week false bar n W).1 n < n) : th_stk n (sp_week false bar n W).1 := by
  have n14 := ho.1.2.1
  have p14 := pow14 n14
  have hoU := ok_U (bar := bar) ho
  have fro : sp_frost (th_V bar n W) = false := by
    unfold sp_frost
    rw [V_st2 ho (by unfold st2; omega), V_stp ho (by unfold stp; omega), H_fr (by omega) (by omega) (by omega), decide_eq_true h2]
    rfl
  obtain ⟨m, hm, em⟩ := ok_tl ho (i := 4) (by omega)
  have em : W 14 = nI m := em
  have hm : m ≤ 9 := hm
  have hl0 : nI 0 < th_V bar n W 14 := by
    rw [wk_14 ho, em, xn_lt (by omega) (by omega)]
    rcases Nat.eq_zero_or_pos m with y | y
    · rw [y] at em; exact absurd em h14
    · exact y
  obtain ⟨q, hq, eq⟩ := ok_tl ho (i := 11) (by omega)
  have eq : W 21 = nI q := eq
  have hq : q ≤ 520 := hq
  have eU : th_U bar n W = (sp_lay n n 0 (th_V bar n W) (th_V bar n W 14) (nI 0)).1 := by
    rw [th_U, fro]; rfl
  have x21 : sp_wait n n 0 (th_U bar n W) 21 = W 21 := by rw [wait_fr (fun x j hx j1 j2 => by omega) n 0 _ (by omega), U_stp ho (by unfold stp; omega)]
  have xl : lmN (sp_wait n n 0 (th_U bar n W)) n = lmN (th_U bar n W) n := lm_cg n (fun x hx => by rw [wait_4])
  have ls0 : ∀ V : xw, (sp_lset V n 0 (nI 0) = nI 0 ↔ lmN V n = 0) := fun V => by
    rw [lset_0 n14, lmany_N, xn_eq (by have := lmN_le (W := V) n; omega) (by omega)]
  have w21 : (sp_week false bar n W).1 21 = nI 0 ∨ lmN (sp_week false bar n W).1 n = 0 := by
    rcases h4 with y | y
    · left
      rw [stp_week ho (by unfold stp; omega), eq]
      rw [eq, xn_lt (by omega) (by omega)] at y
      rw [show q = 0 by omega]
    · exact Or.inr ((ls0 _).mp y)
  have done : (∀ x, x < n → (sp_week false bar n W).1 (50 + 14 * x + 4) = th_V bar n W (50 + 14 * x + 4)) → (∀ j, j < n → sp_canB n (th_V bar n W) (sp_ix (th_V bar n W) (30 + j)) = false) → th_stk n (sp_week false bar n W).1 := by
    intro w4 vc
    refine ⟨fun x hx => ?_, fun i hi => ?_, w21, hl⟩
    · have := h3 x hx
      refine ⟨fun y => this ?_, fun y => this ?_, fun y => this ?_⟩ <;> (rw [y]; decide)
    · obtain ⟨b, hb, eb, ib⟩ := ok_or ho hi
      have := vc i hi
      rw [sp_ix, V_stp ho (by unfold stp; omega), show (W (30 + i)).toNatClampNeg = b from ib] at this
      rw [sp_ix, stp_week ho (by unfold stp; omega), show (W (30 + i)).toNatClampNeg = b from ib, can_cg (W := th_V bar n W) (by omega) n14 (w4 b hb) (fun x hx => by rw [w4 x hx]) (fun p hp => by rw [stp_week ho hp, V_stp ho hp])]
      exact this
  have nofall : (W 21 = nI 0 ∨ lmN (th_U bar n W) n = 0) → ∀ x, x < n → (sp_week false bar n W).1 (50 + 14 * x + 4) = th_U bar n W (50 + 14 * x + 4) := by
    intro y x hx
    rw [th_wkU, fall_no n14 (by rw [x21, xl]; exact y), stp_turn (by omega) (by omega), wait_4]
  have q0 : ¬ nI 0 < W 21 → W 21 = nI 0 := by
    intro y
    rw [eq, xn_lt (by omega) (by omega)] at y
    rw [eq, show q = 0 by omega]
  rcases lay_ca n 0 (th_V bar n W) (th_V bar n W 14) (nI 0) (ok_V ho) (by omega) hl0 with y | y
  · obtain ⟨y1, y2⟩ := y
    rw [← eU] at y1
    refine done (fun x hx => ?_) (fun j hj => y2 j (by omega) hj)
    rw [nofall ?_ x hx, y1]
    rcases h4 with q4 | q4
    · exact Or.inl (q0 q4)
    · right
      rw [q4] at h1
      rw [y1, lmN_V ho]
      exact (ls0 W).mp h1
  · exfalso
    obtain ⟨x, hx, x1, x2, x3⟩ := y
    rw [← eU] at x2 x3
    have up : ∀ x, x < n → th_V bar n W (50 + 14 * x + 4) = nI 4 → th_U bar n W (50 + 14 * x + 4) = nI 4 := by
      intro x hx v
      rcases lay_4 hx n 0 (th_V bar n W) (th_V bar n W 14) (nI 0) (ok_V ho) (by omega) with y | y
      · rw [eU, y]; exact v
      · rw [eU]; exact y.2
    have slt := lsN_slt x1 x2 n hx up
    have lV : lsN (th_V bar n W) n = lsN W n := by
      have a : sp_lset (th_V bar n W) n 0 (nI 0) = sp_lset W n 0 (nI 0) := sp_lset_cg n 0 _ (fun x _ hx => V_4 ho (by omega))
      rw [lset_N n14, lset_N n14, xn_eq (by have := lsN_lt (W := th_V bar n W) n; omega) (by have := lsN_lt (W := W) n; omega)] at a
      exact a
    have lU := lsN_lt (W := th_U bar n W) n
    have lW := lsN_lt (W := W) n
    have same : (∀ x, x < n → (sp_week false bar n W).1 (50 + 14 * x + 4) = th_U bar n W (50 + 14 * x + 4)) → False := by
      intro w4
      have a : sp_lset (sp_week false bar n W).1 n 0 (nI 0) = sp_lset (th_U bar n W) n 0 (nI 0) := sp_lset_cg n 0 _ (fun x _ hx => by rw [w4 x (by omega)])
      rw [a, lset_N n14, lset_N n14, xn_eq (by omega) (by omega)] at h1
      omega
    by_cases c21 : W 21 = nI 0
    · exact same (nofall (Or.inl c21))
    · have hs0 : sp_lset (sp_week false bar n W).1 n 0 (nI 0) = nI 0 := h4.resolve_left (fun y => c21 (q0 y))
      rw [hs0] at h1
      have l0 := (ls0 W).mp h1
      have u5 := x3 (by rw [lmN_V ho]; exact l0)
      refine same (fun x hx => ?_)
      have key : sp_falls n (sp_wait n n 0 (th_U bar n W)) = sp_wait n n 0 (th_U bar n W) := by
        unfold sp_falls
        rw [if_pos]
        right; right; right
        rw [x21, wait_fr (p := 2) (fun x j hx j1 j2 => by omega) n 0 _ (by omega), wait_fr (p := 5) (fun x j hx j1 j2 => by omega) n 0 _ (by omega), u5, U_st2 ho (by unfold st2; omega), V_st2 ho (by unfold st2; omega), H_fr (by omega) (by omega) (by omega), eq, Int32.sub_self]
        have : ¬ q = 0 := fun y => c21 (by rw [eq, y])
        exact (xn_lt (a := 0) (by omega) (by omega)).mpr (by omega)
      rw [th_wkU, key, stp_turn (by omega) (by omega), wait_4]
end xk_pu4
