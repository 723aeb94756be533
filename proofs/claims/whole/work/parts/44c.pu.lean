/-! thoughts that cannot close: by a week -/
def th_bt (n : Nat) (blk : Int32) (idle : Nat) (last : Int32) : Nat → Nat → xw → Int32
  | 0, _, _ => Int32.ofInt (-1)
  | c + 1, k, W => if last < W 2 then Int32.ofInt (-1) else if lmN (sp_week false (if k < idle then blk else Int32.ofInt (-1)) n W).1 n = n then W 2 else th_bt n blk idle last c (k + 1) (sp_week false (if k < idle then blk else Int32.ofInt (-1)) n W).1
def th_lim (last v : Int32) : Int32 := if v = Int32.ofInt (-1) ∨ last < v then Int32.ofInt (-1) else v
def th_by (n : Nat) (blk : Int32) (idle : Nat) (last : Int32) (W : xw) : Int32 := th_lim last (th_close n blk idle W)
def th_ws (W : xw) : Nat → Nat → Int32 → Int32
  | 0, _, v => v
  | c + 1, b, v => th_ws W c (b + 1) (v + sp_wei W b)
def th_bal (n : Nat) (W : xw) (v : Int32) : Prop := ¬ v < -(W 20) ∧ ¬ W 20 < v
section xk_pu3
variable {n ns : Nat} {W W' N : xw} {bar blk last : Int32} {idle b k t f : Nat} {z : Int32}
theorem nI_m1 {k : Nat} (h : k < 2147483648) : ¬ nI k = Int32.ofInt (-1) := fun e => by
  have := congrArg Int32.toInt e
  rw [nI_toInt (by omega)] at this
  have h2 : (Int32.ofInt (-1)).toInt = -1 := by decide
  omega
theorem th_lim_1 : th_lim last (Int32.ofInt (-1)) = Int32.ofInt (-1) := by rw [th_lim, if_pos (Or.inl rfl)]
theorem th_bt_it : ∀ (c k kw : Nat) (W : xw), ok n ns W → W 2 = nI kw → kw + c ≤ 19500 → th_bt n blk idle last c k W = th_lim last (th_it n blk idle c k W)
  | 0, _, _, _, _, _, _ => th_lim_1.symm
  | c + 1, k, kw, W, ho, ek, hk => by
    have ih := fun W => th_bt_it c (k + 1) (kw + 1) W
    simp only [th_bt, th_it]
    generalize (if k < idle then blk else Int32.ofInt (-1)) = bar
    have how := ok_sweek (truly := false) (bar := bar) ho (show kw < 20000 by omega) ek
    have ew := th_wk (bar := bar) ho ek
    by_cases h1 : last < W 2
    · rw [if_pos h1]
      split
      · rw [th_lim, if_pos (Or.inr h1)]
      · rcases th_it_val (blk := blk) (idle := idle) c (k + 1) (kw + 1) _ how ew (by omega) with h | ⟨j, hj, e⟩
        · rw [h]; exact th_lim_1.symm
        · rw [e, th_lim, if_pos]
          right
          rw [ek] at h1
          have a := Int32.lt_iff_toInt_lt.mp h1
          rw [nI_toInt (by omega)] at a
          rw [Int32.lt_iff_toInt_lt, nI_toInt (by omega)]
          omega
    · rw [if_neg h1]
      split
      · rw [th_lim, if_neg]
        rintro (y | y)
        · rw [ek] at y; exact nI_m1 (by omega) y
        · exact h1 y
      · exact ih _ how ew (by omega)
theorem th_bt_none (Pr : Nat → xw → Prop) (hs : ∀ (c kw : Nat) (W : xw) (bar : Int32), ok n ns W → W 2 = nI kw → kw < 20000 → ¬ last < W 2 → Pr (c + 1) W → Pr c (sp_week false bar n W).1 ∧ ¬ lmN (sp_week false bar n W).1 n = n) : ∀ (c k kw : Nat) (W : xw), ok n ns W → W 2 = nI kw → kw + c ≤ 19500 → Pr c W → th_bt n blk idle last c k W = Int32.ofInt (-1)
  | 0, _, _, _, _, _, _, _ => rfl
  | c + 1, k, kw, W, ho, ek, hk, hP => by
    simp only [th_bt]
    generalize (if k < idle then blk else Int32.ofInt (-1)) = bar
    by_cases h1 : last < W 2
    · rw [if_pos h1]
    · rw [if_neg h1]
      obtain ⟨p1, p2⟩ := hs c kw W bar ho ek (by omega) h1 hP
      rw [if_neg p2]
      exact th_bt_none Pr hs c (k + 1) (kw + 1) _ (ok_sweek (truly := false) (bar := bar) ho (show kw < 20000 by omega) ek) (th_wk ho ek) (by omega) p1
theorem bt_rock {c k kw : Nat} (hb : b < n) (ho : ok n ns W) (ek : W 2 = nI kw) (hk : kw + c ≤ 19500) (h0 : W (50 + 14 * b + 4) = nI 0) (h : W 13 = nI 0 ∨ W (24 + sp_ix W (50 + 14 * b + 1)) = nI 0) : th_bt n blk idle last c k W = Int32.ofInt (-1) := by
  refine th_bt_none (ns := ns) (fun _ W => W (50 + 14 * b + 4) = nI 0 ∧ (W 13 = nI 0 ∨ W (24 + sp_ix W (50 + 14 * b + 1)) = nI 0)) ?_ c k kw W ho ek hk ⟨h0, h⟩
  intro c kw W bar ho ek hk h1 hP
  have r := th_rock (bar := bar) ho hb hP.1 hP.2
  obtain ⟨v, hv, ev, iv⟩ := ok_ve ho hb
  refine ⟨⟨r, ?_⟩, ?_⟩
  · have i2 : sp_ix (sp_week false bar n W).1 (50 + 14 * b + 1) = v := by rw [sp_ix, th_ve ho hb]; exact iv
    have h2 := hP.2
    rw [iv] at h2
    rw [i2, stp_week ho (by unfold stp; omega), stp_week ho (by unfold stp; omega)]
    exact h2
  · have := lmN_ne (W := (sp_week false bar n W).1) n hb (by rw [r]; decide)
    omega
theorem on_4 {k : Int32} (h : okb W) (hb : b < 14) : sp_on W b k (50 + 14 * b + 4) = nI 2 ∨ sp_on W b k (50 + 14 * b + 4) = nI 3 := by
  unfold sp_on
  split
  · right; rw [wr_ne (okb_up (okb_up (okb_up h (by omega)) (by omega)) (by omega)) (by omega) (by omega), upd_ne (by omega), upd_ne (by omega), upd_eq]
  · left; rw [upd_ne (by omega), upd_ne (by omega), upd_eq]
theorem on_n4 {k : Int32} (h : okb W) (hb : b < 14) : ¬ sp_on W b k (50 + 14 * b + 4) = nI 4 := by
  rcases on_4 (k := k) h hb with y | y <;> (rw [y]; decide)
theorem goes_n4 {fr : Int32} (h : okb W) (hb : b < 14) (h4 : ¬ W (50 + 14 * b + 4) = nI 4) : ¬ (sp_goes z W N fr b).1 (50 + 14 * b + 4) = nI 4 := by
  have w : sp_went W b z (50 + 14 * b + 4) = W (50 + 14 * b + 4) := upd_ne (by omega)
  unfold sp_goes
  split
  · rw [show (sp_wt W b 0, N, fr).1 = sp_wt W b 0 from rfl, sp_wt, upd_ne (by omega)]; exact h4
  · split
    · rw [show (sp_wt W b 1, N, fr).1 = sp_wt W b 1 from rfl, sp_wt, upd_ne (by omega)]; exact h4
    · dsimp only
      split
      · exact on_n4 (okb_wr h) hb
      · split
        · rw [w]; exact h4
        · exact on_n4 (okb_wr (okb_up h (by omega))) hb
theorem okb_on {k : Int32} (h : okb W) : okb (sp_on W b k) := by
  unfold sp_on
  split
  · exact okb_wr (okb_up (okb_up (okb_up h (by omega)) (by omega)) (by omega))
  · exact okb_up (okb_up (okb_up h (by omega)) (by omega)) (by omega)
theorem h1_n4 {fr : Int32} (h : okb W) (hb : b < 14) (h4 : ¬ W (50 + 14 * b + 4) = nI 4) : ¬ (sp_h1 z W N fr b).1 (50 + 14 * b + 4) = nI 4 := by
  unfold sp_h1
  split
  · split
    · exact goes_n4 (okb_on h) hb (on_n4 h hb)
    · exact on_n4 h hb
  · split
    · exact goes_n4 h hb h4
    · exact h4
theorem hauls_n4 {x : Nat} (hx : x < n) : ∀ (c i : Nat) (W N : xw) (fr : Int32), ok n ns W → i + c = n → ¬ W (50 + 14 * x + 4) = nI 4 → ¬ (sp_hauls z c i W N fr).1 (50 + 14 * x + 4) = nI 4 := by
  intro c
  induction c with
  | zero => intro i W N fr ho e h; exact h
  | succ c ih =>
    intro i W N fr ho e h
    obtain ⟨b, hb, eb, ib⟩ := ok_or ho (show i < n by omega)
    have n14 := ho.1.2.1
    simp only [sp_hauls, ib]
    refine ih (i + 1) _ _ _ (ok_h1 ho hb) (by omega) ?_
    by_cases ex : b = x
    · subst ex; exact h1_n4 ho.2.1 (by omega) h
    · rw [h1_fr ho.2.1 (by omega) (by omega) (by omega) (fun j j1 j2 => by omega)]; exact h
/-- before the laying nothing is laid or taken up -/
theorem V_4 {x : Nat} (ho : ok n ns W) (hx : x < n) : th_V bar n W (50 + 14 * x + 4) = nI 4 ↔ W (50 + 14 * x + 4) = nI 4 := by
  have h4 : th_H W (50 + 14 * x + 4) = W (50 + 14 * x + 4) := H_fr (by omega) (by omega) (by omega)
  have hC : (th_C bar n W (50 + 14 * x + 4) = nI 4 ↔ W (50 + 14 * x + 4) = nI 4) := by
    rcases cut_4 (bar := bar) hx n 0 (th_H W) (th_H W 13) (ok_H ho) (by omega) with y | y
    · rw [th_C, y, h4]
    · rw [h4] at y
      rw [th_C, y.2.2.2, y.1]
      exact ⟨fun q => absurd q (by decide), fun q => absurd q (by decide)⟩
  rw [← hC]
  constructor
  · intro q
    exact Classical.byContradiction fun y => hauls_n4 hx n 0 _ _ _ (ok_C ho) (by omega) y q
  · intro q
    rw [th_V, hauls_4 hx n 0 _ _ _ (ok_C ho) (by omega) (by rw [q]; decide) (by rw [q]; decide)]; exact q
theorem lmN_V (ho : ok n ns W) : lmN (th_V bar n W) n = lmN W n := lm_cg n (fun x hx => V_4 ho hx)
theorem lmN_fin (ho : ok n ns W) (hn : 0 < n) : lmN (sp_turn (sp_falls n (sp_wait n n 0 W))) n = n ↔ lmN W n = n := by
  have ht : ∀ V : xw, lmN (sp_turn V) n = lmN V n := fun V => lm_cg n (fun x hx => by rw [stp_turn (by omega) (by omega)])
  rw [ht, falls_4 (ok_wait n 0 W ho (by omega)) hn, lm_cg n (fun x hx => by rw [wait_4])]
theorem lmN_wk (ho : ok n ns W) (hn : 0 < n) : lmN (sp_week false bar n W).1 n = n ↔ lmN (th_U bar n W) n = n := by
  rw [th_wkU]; exact lmN_fin (ok_U ho) hn
theorem wk_14 (ho : ok n ns W) : th_V bar n W 14 = W 14 := by
  rw [V_st2 ho (by unfold st2 stp; omega), H_fr (by omega) (by omega) (by omega)]
theorem bt_mas {c k kw : Nat} (ho : ok n ns W) (ek : W 2 = nI kw) (hk : kw + c ≤ 19500) (hl : lmN W n < n) (h : W 14 = nI 0) : th_bt n blk idle last c k W = Int32.ofInt (-1) := by
  refine th_bt_none (ns := ns) (fun _ W => W 14 = nI 0 ∧ lmN W n < n) ?_ c k kw W ho ek hk ⟨h, hl⟩
  intro c kw W bar ho ek hk h1 hP
  have hn : 0 < n := by have := hP.2; omega
  have eU : th_U bar n W = th_V bar n W := by
    have : (if sp_frost (th_V bar n W) then nI 0 else th_V bar n W 14) = nI 0 := by rw [wk_14 ho, hP.1]; split <;> rfl
    rw [th_U, this, lay_0]
  have hne : ¬ lmN (sp_week false bar n W).1 n = n := by
    rw [lmN_wk ho hn, eU, lmN_V ho]; have := hP.2; omega
  have le := lmN_le (W := (sp_week false bar n W).1) n
  exact ⟨⟨by rw [stp_week ho (by unfold stp; omega)]; exact hP.1, by omega⟩, hne⟩
/-! the halves -/
theorem lay1_fr {p : Nat} (ho : okb W) (h5 : ¬ p = 5) (h6 : ¬ p = 6) (hp : p < 270 ∨ 1075 ≤ p) (h4 : ¬ p = 50 + 14 * b + 4) : sp_lay1 n W b p = W p := by
  unfold sp_lay1
  rw [wr_ne (okb_up (by split; exact okb_up ho (by omega); exact ho) (by omega)) h6 hp, upd_ne h4]
  split
  · exact upd_ne h5
  · rfl
theorem lay1_v4 (ho : okb W) (hb : b < 14) : sp_lay1 n W b (50 + 14 * b + 4) = nI 4 := by
  unfold sp_lay1
  rw [wr_ne (okb_up (by split; exact okb_up ho (by omega); exact ho) (by omega)) (by omega) (by omega), upd_eq]
theorem lay1_lean (ho : ok n ns W) (hb : b < n) (o4 : ¬ W (50 + 14 * b + 4) = nI 4) : sp_lean (sp_lay1 n W b) n 0 (nI 0) = sp_lean W n 0 (nI 0) + sp_wei W b := by
  have n14 := ho.1.2.1
  have e : sp_lean (sp_lay1 n W b) n 0 (nI 0) = sp_lean (upd W (50 + 14 * b + 4) (nI 4)) n 0 (nI 0) := by
    refine sp_lean_cg n 0 _ (fun x _ hx => ⟨?_, ?_⟩)
    · by_cases ex : x = b
      · subst ex; rw [lay1_v4 ho.2.1 (by omega), upd_eq]
      · rw [lay1_fr ho.2.1 (by omega) (by omega) (by omega) (by omega), upd_ne (by omega)]
    · rw [sp_wei, sp_wei, lay1_fr ho.2.1 (by omega) (by omega) (by omega) (by omega), lay1_fr ho.2.1 (by omega) (by omega) (by omega) (by omega), upd_ne (by omega), upd_ne (by omega)]
  rw [e, lean_put o4 (fun x hx => by rw [upd_ne (by omega)]) (fun x => by rw [sp_wei, sp_wei, upd_ne (by omega), upd_ne (by omega)]) upd_eq n 0 _ (by omega) (by omega)]
theorem lay_bal : ∀ (c i : Nat) (W : xw) (l v : Int32), ok n ns W → i + c = n → (lmN W n = n → th_bal n W (sp_lean W n 0 (nI 0))) → (lmN (sp_lay n c i W l v).1 n = n → th_bal n (sp_lay n c i W l v).1 (sp_lean (sp_lay n c i W l v).1 n 0 (nI 0))) := by
  intro c
  induction c with
  | zero => intro i W l v ho e h; exact h
  | succ c ih =>
    intro i W l v ho e h
    obtain ⟨b, hb, eb, ib⟩ := ok_or ho (show i < n by omega)
    have n14 := ho.1.2.1
    simp only [sp_lay, ib]
    split
    · split
      · rename_i hc
        have h3 := can_3 hc
        refine ih (i + 1) _ _ _ (ok_lay1 ho hb) (by omega) (fun _ => ?_)
        unfold th_bal
        rw [lay1_lean ho hb (by rw [h3]; decide), lay1_fr ho.2.1 (by omega) (by omega) (by omega) (by omega)]
        unfold sp_canB at hc
        simp only [Bool.and_eq_true, Bool.not_eq_true', decide_eq_false_iff_not] at hc
        exact ⟨hc.1.2, hc.2⟩
      · exact ih (i + 1) W l v ho (by omega) h
    · exact h
theorem lean_all : ∀ (c b : Nat) (v : Int32), (∀ x, b ≤ x → x < b + c → W (50 + 14 * x + 4) = nI 4) → sp_lean W c b v = th_ws W c b v
  | 0, _, _, _ => rfl
  | c + 1, b, v, h => by
    simp only [sp_lean, th_ws, if_pos (h b (by omega) (by omega))]
    exact lean_all c (b + 1) _ (fun x h1 h2 => h x (by omega) (by omega))
theorem ws_cg : ∀ (c b : Nat) (v : Int32), (∀ x, b ≤ x → x < b + c → sp_wei W' x = sp_wei W x) → th_ws W' c b v = th_ws W c b v
  | 0, _, _, _ => rfl
  | c + 1, b, v, h => by
    simp only [th_ws, h b (by omega) (by omega)]
    exact ws_cg c (b + 1) _ (fun x h1 h2 => h x (by omega) (by omega))
theorem wei_stp {x : Nat} (hx : x < 14) (e : ∀ p, stp p → W' p = W p) : sp_wei W' x = sp_wei W x := by
  rw [sp_wei, sp_wei, e _ (Or.inr (Or.inr (Or.inl ⟨x, 2, hx, by omega, rfl⟩))), e _ (Or.inr (Or.inr (Or.inl ⟨x, 0, hx, by omega, rfl⟩)))]
theorem H_stp {p : Nat} (hp : stp p) : th_H W p = W p := by
  have := stp_ne hp
  exact H_fr this.2.1 this.2.2.1 this.2.2.2
theorem U_stp {p : Nat} (ho : ok n ns W) (hp : stp p) : th_U bar n W p = W p := by rw [U_st2 ho (Or.inl hp), H_stp hp]
theorem bt_bal {c k kw : Nat} (ho : ok n ns W) (ek : W 2 = nI kw) (hk : kw + c ≤ 19500) (hl : lmN W n < n) (h : ¬ th_bal n W (th_ws W n 0 (nI 0))) : th_bt n blk idle last c k W = Int32.ofInt (-1) := by
  refine th_bt_none (ns := ns) (fun _ W => (¬ th_bal n W (th_ws W n 0 (nI 0))) ∧ lmN W n < n) ?_ c k kw W ho ek hk ⟨h, hl⟩
  intro c kw W bar ho ek hk h1 hP
  have hn : 0 < n := by have := hP.2; omega
  have n14 := ho.1.2.1
  have e20 : ∀ V : xw, (∀ p, stp p → V p = W p) → (th_bal n V (th_ws V n 0 (nI 0)) ↔ th_bal n W (th_ws W n 0 (nI 0))) := by
    intro V hV
    unfold th_bal
    rw [hV 20 (by unfold stp; omega), ws_cg n 0 (nI 0) (fun x _ hx => wei_stp (by omega) hV)]
  have hne : ¬ lmN (sp_week false bar n W).1 n = n := by
    rw [lmN_wk ho hn]
    intro y
    have b1 := lay_bal n 0 (th_V bar n W) (if sp_frost (th_V bar n W) then nI 0 else th_V bar n W 14) (nI 0) (ok_V ho) (by omega) (fun q => by rw [lmN_V ho] at q; have := hP.2; omega) y
    have b2 : th_bal n (th_U bar n W) (sp_lean (th_U bar n W) n 0 (nI 0)) := b1
    rw [lean_all n 0 _ (fun x _ hx => lmN_all n y x (by omega)), e20 _ (fun p hp => U_stp ho hp)] at b2
    exact hP.1 b2
  have le := lmN_le (W := (sp_week false bar n W).1) n
  exact ⟨⟨by rw [e20 _ (fun p hp => stp_week ho hp)]; exact hP.1, by omega⟩, hne⟩
theorem bt_need {c k kw : Nat} {j : Nat} (ho : ok n ns W) (ek : W 2 = nI kw) (hk : kw + c ≤ 19500) (hb : b < n) (hj : j < ns) (hnb : th_nb b j W) (h : th_hb last (th_tm W b j) c W) : th_bt n blk idle last c k W = Int32.ofInt (-1) := by
  obtain ⟨t, ht, et⟩ := tm_N (k := j) ho hb
  rw [et] at h
  refine th_bt_none (ns := ns) (fun c W => th_nb b j W ∧ th_tm W b j = nI t ∧ th_hb last (nI t) c W) ?_ c k kw W ho ek hk ⟨hnb, et, h⟩
  intro c kw W bar ho ek hk h1 hP
  obtain ⟨p1, p2, p3⟩ := hP
  have n14 := ho.1.2.1
  have s8 := ho.1.2.2.2
  simp only [th_hb] at p3
  obtain ⟨q1, q2⟩ := p3.resolve_left h1
  obtain ⟨f, hf, ef⟩ := ok_tl (ok_H ho) (i := 0) (by omega)
  have hf : f ≤ 99 := hf
  have ef : th_H W 10 = nI f := ef
  rw [← H_10, ef, xn_lt (by omega) (by omega)] at q1
  have nb := th_nbw (bar := bar) ho hb hj p1 p2 ht ef q1
  refine ⟨⟨nb, ?_, ?_⟩, ?_⟩
  · rw [tm_cg, p2]
    · exact stp_week ho (by unfold stp; omega)
    · exact stp_week ho (Or.inr (Or.inr (Or.inl ⟨b, 0, by omega, by omega, rfl⟩)))
  · exact hb_cg c _ _ (th_hd ho 2 (by omega)) (th_hd ho 10 (by omega)) (th_hd ho 11 (by omega)) (th_hd ho 12 (by omega)) q2
  · have : ¬ (sp_week false bar n W).1 (50 + 14 * b + 4) = nI 4 := by
      rcases nb with q | q | q
      · rw [q]; decide
      · rw [q]; decide
      · rw [q.1]; decide
    have := lmN_ne n hb this
    omega
end xk_pu3
