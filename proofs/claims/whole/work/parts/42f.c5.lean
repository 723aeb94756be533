/-! the class: laying, waiting, splitting, falling -/
def cFro (R : Nat → xw) : Bool := !decide (xq_rem (R 0 10) (nI 52) < R 1 9)
def cAll (I R : Nat → xw) : Bool := decide (R 0 13 = nI 1 <<< (I 2 0 &&& 31) - nI 1)
section yk_c5f
variable {d : Nat} {g : xq_V} {J : Nat → Nat → Int64} {I : Nat → Nat → Int32} {Q : Option Value → xq_S → Prop} {q : Bool} {n ns : Nat} {R R' : Nat → xw} {W W' : xw}
theorem yl_88 (hp : Q (some (.int (sp_b2 (cFro R)))) (xq_s g J (xc q I R))) : xq_wp d 88 (xq_s g J (xc q I R)) 0 [.ref (xid q 0)] [] Q := by
  unfold cFro at hp
  refine yu_88 ⟨fun z => ?_, fun z => ?_⟩
  · simpa only [z, decide_true, Bool.not_true, sp_b2, if_true, Bool.false_eq_true, if_false] using hp
  · simpa only [z, decide_false, Bool.not_false, sp_b2, if_true, Bool.false_eq_true, if_false] using hp
theorem yl_93 (hp : Q (some (.int (sp_b2 (cAll I R)))) (xq_s g J (xc q I R))) : xq_wp (d + 1) 93 (xq_s g J (xc q I R)) 0 [.ref (xid q 9)] [] Q := by
  unfold cAll at hp
  refine yu_93 ⟨fun z => ?_, fun z => ?_⟩
  · simpa only [z, decide_true, sp_b2, if_true, Bool.false_eq_true, if_false] using hp
  · simpa only [z, decide_false, sp_b2, if_true, Bool.false_eq_true, if_false] using hp
theorem CR_fro (h : CR q n ns I R W) : cFro R = sp_frost W := by
  unfold cFro sp_frost
  rw [(CR_0 h).1, CR_1 h 9 (by omega)]
theorem CR_all (ho : ok n ns W) (h : CR q n ns I R W) : cAll I R = decide (sp_lmany W n 0 (nI 0) = nI n) := by
  unfold cAll
  rw [(CR_L h).1, (CR_G h).1, (ok_n ho).1]
  exact decide_eq_decide.mpr (lset_1 (ok_n ho).2)
/-- what is laid and the book change -/
theorem CR_gen (ho : ok n ns W) (h : CR q n ns I R W) (eW : ∀ p, ¬ p = 4 → ¬ p = 5 → ¬ p = 6 → ¬ (270 ≤ p ∧ p < 1075) → (∀ x, x < n → ¬ p = 50 + 14 * x + 4) → W' p = W p) (eR : ∀ i, (1 ≤ i ∧ i ≤ 3) ∨ (5 ≤ i ∧ i ≤ 8) → R' i = R i) (e9 : R' 9 4 = R 9 4) (e0 : R' 0 8 = R 0 8 ∧ R' 0 9 = R 0 9 ∧ R' 0 10 = R 0 10) (h11 : R' 0 11 = W' 4) (h12 : R' 0 12 = W' 5) (h4 : cT4 n R' W') (hA : ∀ b, b < n → W' (50 + 14 * b + 4) = nI 2 → W (50 + 14 * b + 4) = nI 2) (hB : cB q R' W') (hL : cL n R' W') (hS : cS n W') : CR q n ns I R' W' := by
  have n14 := ho.1.2.1
  have ns8 := ho.1.2.2.2
  obtain ⟨g1, g2, g3, g4, g5, g6, g7, g8, g9, g10, g11, g12, g13, g14⟩ := h
  have es : ∀ p, p < 50 ∨ (246 ≤ p ∧ p < 270) ∨ 1075 ≤ p → ¬ p = 4 → ¬ p = 5 → ¬ p = 6 → W' p = W p := fun p h1 h2 h3 h4 => eW p h2 h3 h4 (by omega) (fun x hx => by omega)
  have eb : ∀ b k, b < 14 → k < 14 → ¬ k = 4 → W' (50 + 14 * b + k) = W (50 + 14 * b + k) := fun b k hb hk h4 => eW _ (by omega) (by omega) (by omega) (by omega) (fun x hx => by omega)
  refine ⟨⟨?_, ?_, fun b hb => ?_, fun k hk => ?_⟩, cLaw_fr ho.2.2.2.2.2.2.2.2.2.2 g2 (fun p h1 h2 => es p (by omega) (by omega) (by omega) (by omega)), e9.trans g3, ⟨?_, ?_, h11, h12, ?_⟩, fun i hi => ?_, fun i hi => ?_, fun i hi => ?_, h4, fun b hb z => ?_, fun b hb => ?_, fun hq b k hb hk => ?_, hB, hL, hS⟩
  · rw [es _ (by omega) (by omega) (by omega) (by omega)]; exact g1.1
  · rw [es _ (by omega) (by omega) (by omega) (by omega)]; exact g1.2.1
  · rw [eb _ _ (by omega) (by omega) (by omega), eb _ _ (by omega) (by omega) (by omega), eb _ _ (by omega) (by omega) (by omega), eb _ _ (by omega) (by omega) (by omega)]; exact g1.2.2.1 b hb
  · rw [es _ (by omega) (by omega) (by omega) (by omega), es _ (by omega) (by omega) (by omega) (by omega)]; exact g1.2.2.2 k hk
  · rw [e0.2.2, es _ (by omega) (by omega) (by omega) (by omega)]; exact g4.1
  · rw [e0.2.1, es _ (by omega) (by omega) (by omega) (by omega)]; exact g4.2.1
  · rw [e0.1, es _ (by omega) (by omega) (by omega) (by omega)]; exact g4.2.2.2.2
  · rw [eR _ (by omega), es _ (by omega) (by omega) (by omega) (by omega)]; exact g5 i hi
  · rw [eR _ (by omega), es _ (by omega) (by omega) (by omega) (by omega)]; exact g6 i hi
  · rw [eR _ (by omega), es _ (by omega) (by omega) (by omega) (by omega)]; exact g7 i hi
  · rw [eR _ (by omega), eR _ (by omega), eb _ _ (by omega) (by omega) (by omega), eb _ _ (by omega) (by omega) (by omega)]; exact g9 b hb (hA b hb z)
  · rw [eR _ (by omega), eb _ _ (by omega) (by omega) (by omega)]; exact g10 b hb
  · rw [eR _ (by omega), eb _ _ (by omega) (by omega) (by omega)]; exact g11 hq b k hb hk
theorem cB_fr (h : cB q R W) (e : ∀ i, 11 ≤ i → i < 16 → R' i = R i) (e6 : W' 6 = W 6) (eb : ∀ p, 270 ≤ p → p < 1075 → W' p = W p) (ho : okb W) : cB q R' W' := by
  obtain ⟨l, hl, el⟩ := ho
  unfold cB sp_ix
  rw [e 11 (by omega) (by omega), e 12 (by omega) (by omega), e 13 (by omega) (by omega), e 14 (by omega) (by omega), e 15 (by omega) (by omega), e6]
  refine ⟨fun hq => ⟨(h.1 hq).1, (h.1 hq).2.1, fun i hi => ?_⟩, h.2⟩
  have hi2 : i < 200 := by
    rw [el, nI_clamp (by omega)] at hi; omega
  rw [eb _ (by omega) (by omega), eb _ (by omega) (by omega), eb _ (by omega) (by omega), eb _ (by omega) (by omega)]
  exact (h.1 hq).2.2 i hi
theorem can_3 {b : Nat} (h : sp_canB n W b = true) : W (50 + 14 * b + 4) = nI 3 := by
  unfold sp_canB at h
  simp only [Bool.and_eq_true, decide_eq_true_eq] at h
  exact h.1.1.1
theorem CR_lay1 {b : Nat} {s : Int32} (ho : ok n ns W) (h : CR q n ns I R W) (hb : b < n) (h3 : W (50 + 14 * b + 4) = nI 3) (hs : s = if R 0 12 = Int32.ofInt (-1) then R 0 10 else R 0 12) : CR q n ns I (cw (xq_w (xq_w (xq_w (xq_w R 4 b (nI 4)) 0 13 (R 0 13 ||| (nI 1 <<< (nI b &&& 31)))) 0 14 (R 0 14 + cwei I b)) 0 12 s) (R 0 10) (nI b) (nI 3) (nI 0)) (sp_lay1 n W b) := by
  have n14 := ho.1.2.1
  have o4 : ¬ W (50 + 14 * b + 4) = nI 4 := by rw [h3]; decide
  unfold sp_lay1
  have h0 := CR_0 h
  obtain ⟨k, hk, ek⟩ := ho.2.2.1
  -- the row behind the first write
  have key : ∀ W1 : xw, (∀ p, ¬ p = 5 → W1 p = W p) → W1 5 = s → ¬ s = Int32.ofInt (-1) → CR q n ns I (xq_w (xq_w (xq_w (xq_w R 4 b (nI 4)) 0 13 (R 0 13 ||| (nI 1 <<< (nI b &&& 31)))) 0 14 (R 0 14 + cwei I b)) 0 12 s) (upd W1 (50 + 14 * b + 4) (nI 4)) := by
    intro W1 e1 e5 hs1
    have eW : ∀ p, ¬ p = 5 → ¬ p = 50 + 14 * b + 4 → upd W1 (50 + 14 * b + 4) (nI 4) p = W p := fun p z1 z2 => by rw [upd_ne z2, e1 p z1]
    have hx : ∀ x, ¬ x = b → (upd W1 (50 + 14 * b + 4) (nI 4) (50 + 14 * x + 4) = nI 4 ↔ W (50 + 14 * x + 4) = nI 4) := fun x hx => by rw [eW _ (by omega) (by omega)]
    have hw : ∀ x, sp_wei (upd W1 (50 + 14 * b + 4) (nI 4)) x = sp_wei W x := fun x => by rw [sp_wei, sp_wei, eW _ (by omega) (by omega), eW _ (by omega) (by omega)]
    have n4 : upd W1 (50 + 14 * b + 4) (nI 4) (50 + 14 * b + 4) = nI 4 := upd_eq
    refine CR_gen ho h (fun p z1 z2 z3 z4 z5 => eW p z2 (z5 b hb)) (fun i hi => ?_) ?_ ⟨?_, ?_, ?_⟩ ?_ ?_ (fun x hx' => ?_) (fun x hx' z => ?_) (cB_fr (CR_B h) (fun i i1 i2 => ?_) (eW _ (by omega) (by omega)) (fun p p1 p2 => eW p (by omega) (by omega)) ho.2.1) ⟨?_, ?_⟩ ?_
    · rw [xw_i (by omega), xw_i (by omega), xw_i (by omega), xw_i (by omega)]
    · rw [xw_i (by omega), xw_i (by omega), xw_i (by omega), xw_i (by omega)]
    · rw [xw_x (by omega), xw_x (by omega), xw_x (by omega), xw_i (by omega)]
    · rw [xw_x (by omega), xw_x (by omega), xw_x (by omega), xw_i (by omega)]
    · rw [xw_x (by omega), xw_x (by omega), xw_x (by omega), xw_i (by omega)]
    · rw [xw_x (by omega), xw_x (by omega), xw_x (by omega), xw_i (by omega), eW _ (by omega) (by omega)]; exact h0.2.2.1
    · rw [xw_v, upd_ne (by omega), e5]
    · rw [xw_i (by omega), xw_i (by omega), xw_i (by omega)]
      by_cases e : x = b
      · subst e; rw [xw_v, n4]
      · rw [xw_x e, eW _ (by omega) (by omega)]; exact CR_4 h x hx'
    · by_cases e : x = b
      · subst e; rw [n4] at z; exact absurd z (by decide)
      · rw [eW _ (by omega) (by omega)] at z; exact z
    · rw [xw_i (by omega), xw_i (by omega), xw_i (by omega), xw_i (by omega)]
    · rw [xw_x (by omega), xw_x (by omega), xw_v, lset_put o4 hx n4 n 0 _ (by omega) (by omega), (CR_L h).1]
    · rw [xw_x (by omega), xw_v, lean_put o4 hx hw n4 n 0 _ (by omega) (by omega), (CR_L h).2, CR_wei h hb]
    · unfold cS
      rw [upd_ne (by omega), e5, lmany_N, lmN_put o4 hx n4, if_pos hb, xn_eq (by have := lmN_le (W := W) n; omega) (by omega)]
      exact ⟨fun z => absurd z hs1, fun z => by omega⟩
  have hS := CR_S h
  unfold cS at hS
  rw [h0.2.2.2.1] at hs
  by_cases z : sp_lmany W n 0 (nI 0) = nI 0
  · rw [if_pos z]
    rw [if_pos (hS.mpr z), h0.1, ek] at hs
    have k1 := key (upd W 5 (W 2)) (fun p hp => upd_ne hp) (by rw [upd_eq, hs, ek]) (by rw [hs]; intro y; have y := congrArg Int32.toInt y; rw [nI_toInt (by omega), fb_ofI (by omega) (by omega)] at y; omega)
    refine CR_wr ?_ k1 (by rw [upd_ne (by omega), upd_ne (by omega)]; exact h0.1)
    exact ok_wh (ok_free ho (by omega)) hb (by omega) (by omega)
  · rw [if_neg z]
    rw [if_neg (fun y => z (hS.mp y))] at hs
    have k1 := key W (fun p hp => rfl) hs.symm (by rw [hs]; exact fun y => z (hS.mp y))
    exact CR_wr (ok_wh ho hb (by omega) (by omega)) k1 (by rw [upd_ne (by omega)]; exact h0.1)
theorem yl_89_4 {m : Nat} (hm : m ≤ 9) : ∀ (c i cnt : Nat) (R : Nat → xw) (W : xw) (bl : Value), ok n ns W → CR q n ns I R W → W 14 = nI m → cnt ≤ m → i + c = n → (∀ (R' : Nat → xw) (v : Nat), v ≤ 9 → (sp_lay n c i W (nI (m - cnt)) (nI cnt)).2 = nI v → CR q n ns I R' (sp_lay n c i W (nI (m - cnt)) (nI cnt)).1 → R' 9 = R 9 → Q (some (.int (nI v))) (xq_s g J (xc q I R'))) → xq_wp (d + 2) 89 (xq_s g J (xc q I R)) 4 [.ref (xid q 9), .int (nI cnt), .int (nI i), bl] [] Q := by
  intro c
  induction c with
  | zero =>
    intro i cnt R W bl ho h e14 hc e hp
    have hn := ok_n ho
    exact yu_89 (n := n) (b := 0) (m := m) ⟨(CR_G h).1.trans hn.1, by omega, by omega, fun z => by omega, fun _ => hp R cnt (by omega) rfl h rfl⟩
  | succ c ih =>
    intro i cnt R W bl ho h e14 hc e hp
    have hn := ok_n ho
    have e4 : R 1 4 = nI m := (CR_1 h 4 (by omega)).trans e14
    obtain ⟨b, hb, eb, ib⟩ := ok_or ho (show i < n by omega)
    simp only [sp_lay, ib] at hp
    by_cases hlt : cnt < m
    · have hpos : nI 0 < nI (m - cnt) := (xn_lt (by omega) (by omega)).mpr (by omega)
      simp only [if_pos hpos] at hp
      have step : ∀ s : Int32, s = (if R 0 12 = Int32.ofInt (-1) then R 0 10 else R 0 12) → sp_canB n W b = true → bok q (xq_w (xq_w (xq_w (xq_w R 4 b (nI 4)) 0 13 (R 0 13 ||| (nI 1 <<< (nI b &&& 31)))) 0 14 (R 0 14 + cwei I b)) 0 12 s) ∧ xq_wp (d + 2) 89 (xq_s g J (xc q I (cw (xq_w (xq_w (xq_w (xq_w R 4 b (nI 4)) 0 13 (R 0 13 ||| (nI 1 <<< (nI b &&& 31)))) 0 14 (R 0 14 + cwei I b)) 0 12 s) (R 0 10) (nI b) (nI 3) (nI 0)))) 4 [.ref (xid q 9), .int (nI (cnt + 1)), .int (nI (i + 1)), .int (nI b)] [] Q := by
        intro s hs z
        refine ⟨bok_row (bok_cB (CR_B h) ho.2.1) (by rw [xw_i (by omega), xw_i (by omega), xw_i (by omega), xw_i (by omega)]), ?_⟩
        have h3 := can_3 z
        refine ih (i + 1) (cnt + 1) _ _ _ (ok_lay1 ho hb) (CR_lay1 ho h hb h3 hs) ?_ (by omega) (by omega) (fun R' v hv ev C' r9 => hp R' v hv ?_ ?_ ?_)
        · have := st2_lay (n := n) (ns := ns) (p := 14) (by unfold st2 stp; omega) 1 i W (nI 1) (nI 0)
          unfold sp_lay1
          rw [wr_ne (by apply okb_up _ (by omega); split; exact okb_up ho.2.1 (by omega); exact ho.2.1) (by omega) (by omega), upd_ne (by omega)]
          split
          · rw [upd_ne (by omega)]; exact e14
          · exact e14
        · rw [if_pos z, xn_dec (by omega), nI_add, Nat.sub_sub]; exact ev
        · rw [if_pos z, xn_dec (by omega), nI_add, Nat.sub_sub]; exact C'
        · rw [r9, cw_row 9 (by omega), xw_i (by omega), xw_i (by omega), xw_i (by omega), xw_i (by omega)]
      have ec := CR_can ho h hb
      refine yu_89 (n := n) (b := b) (m := m) ⟨(CR_G h).1.trans hn.1, by omega, by omega, fun _ => ⟨e4, by omega, by omega, fun _ => ⟨by omega, (CR_3 h i (by omega)).trans eb, by omega, fun z => ?_, fun z => ?_⟩, fun z => absurd hlt z⟩, fun z => by omega⟩
      · rw [ec, sp_b20] at z
        exact ih (i + 1) cnt R W _ ho h e14 hc (by omega) (fun R' v hv ev C' r9 => hp R' v hv (by rw [z, if_neg (by decide)]; exact ev) (by rw [z, if_neg (by decide)]; exact C') r9)
      · rw [ec] at z
        have z := sp_b21 z
        unfold cwei at step
        refine ⟨fun y1 => ⟨fun y2 => ?_, fun y2 => ?_⟩, fun y1 => ⟨fun y2 => ?_, fun y2 => ?_⟩⟩
        · have := step _ (by rw [if_pos y2]) z; rw [if_pos y1] at this; exact this
        · have := step _ (by rw [if_neg y2]) z; rw [if_pos y1] at this; exact this
        · have := step _ (by rw [if_pos y2]) z; rw [if_neg y1] at this; exact this
        · have := step _ (by rw [if_neg y2]) z; rw [if_neg y1] at this; exact this
    · have hnp : ¬ nI 0 < nI (m - cnt) := by rw [xn_lt (by omega) (by omega)]; omega
      simp only [if_neg hnp] at hp
      exact yu_89 (n := n) (b := b) (m := m) ⟨(CR_G h).1.trans hn.1, by omega, by omega, fun _ => ⟨e4, by omega, by omega, fun z => absurd z hlt, fun _ => hp R cnt (by omega) rfl h rfl⟩, fun z => by omega⟩
theorem yl_89 (ho : ok n ns W) (h : CR q n ns I R W) (hp : ∀ (R' : Nat → xw) (v : Nat), v ≤ 9 → (sp_lay n n 0 W (W 14) (nI 0)).2 = nI v → CR q n ns I R' (sp_lay n n 0 W (W 14) (nI 0)).1 → R' 9 = R 9 → Q (some (.int (nI v))) (xq_s g J (xc q I R'))) : xq_wp (d + 2) 89 (xq_s g J (xc q I R)) 0 [.ref (xid q 9), xq_un, xq_un, xq_un] [] Q := by
  obtain ⟨m, hm, em⟩ := ok_tl ho (show 4 < 12 by omega)
  have em : W 14 = nI m := em
  have hm : m ≤ 9 := hm
  rw [em] at hp
  have key := yl_89_4 (d := d) (g := g) (J := J) (Q := Q) hm n 0 0 R W xq_un ho h em (by omega) (by omega) hp
  cases q
  · exact xq_wp.go (k := 4) (fun F => rfl) key
  · exact xq_wp.go (k := 4) (fun F => rfl) key
theorem fro_wt {b e : Nat} (he : e < 5) : sp_frost (sp_wt W b e) = sp_frost W := by
  unfold sp_frost sp_wt
  rw [upd_ne (by omega), upd_ne (by omega)]
theorem yl_95_2 : ∀ (c b e : Nat) (R : Nat → xw) (W : xw), ok n ns W → CR q n ns I R W → e = (if sp_frost W then 2 else 3) → b + c = n → (∀ R', CR q n ns I R' (sp_wait n c b W) → R' 9 = R 9 → Q none (xq_s g J (xc q I R'))) → xq_wp (d + 2) 95 (xq_s g J (xc q I R)) 2 [.ref (xid q 9), .int (nI e), .int (nI b)] [] Q := by
  intro c
  induction c with
  | zero =>
    intro b e R W ho h he hb hp
    have hn := ok_n ho
    exact yu_95 (n := n) ⟨(CR_G h).1.trans hn.1, by omega, by omega, fun z => by omega, fun _ => hp R h rfl⟩
  | succ c ih =>
    intro b e R W ho h he hb hp
    have hn := ok_n ho
    have hbn : b < n := by omega
    have e5 : e < 5 := by subst he; split <;> omega
    have r4 : R 4 b = W (50 + 14 * b + 4) := CR_4 h b hbn
    have ec := CR_can ho h hbn
    simp only [sp_wait] at hp
    refine yu_95 (n := n) ⟨(CR_G h).1.trans hn.1, by omega, by omega, fun _ => ⟨by omega, fun z => ⟨fun y => ⟨by omega, ?_⟩, fun y => ⟨by omega, ?_⟩⟩, fun z => ?_⟩, fun z => by omega⟩
    · rw [ec, sp_b20] at y
      rw [r4] at z
      rw [if_pos z, if_neg (by rw [y]; decide)] at hp
      exact ih (b + 1) e _ _ (ok_wt ho hbn (by omega)) (CR_wt ho h hbn (by omega)) (by rw [fro_wt (by omega)]; exact he) (by omega) (fun R' C' r9 => hp R' C' (by rw [r9, xw_i (by omega)]))
    · rw [ec] at y
      rw [r4] at z
      rw [if_pos z, if_pos (sp_b21 y), ← he] at hp
      exact ih (b + 1) e _ _ (ok_wt ho hbn e5) (CR_wt ho h hbn e5) (by rw [fro_wt e5]; exact he) (by omega) (fun R' C' r9 => hp R' C' (by rw [r9, xw_i (by omega)]))
    · rw [r4] at z
      rw [if_neg z] at hp
      exact ih (b + 1) e R W ho h he (by omega) hp
theorem yl_95 {e : Nat} (ho : ok n ns W) (h : CR q n ns I R W) (he : e = (if sp_frost W then 2 else 3)) (hp : ∀ R', CR q n ns I R' (sp_wait n n 0 W) → R' 9 = R 9 → Q none (xq_s g J (xc q I R'))) : xq_wp (d + 2) 95 (xq_s g J (xc q I R)) 0 [.ref (xid q 9), .int (nI e), xq_un] [] Q := by
  have key := yl_95_2 (d := d) (g := g) (J := J) (Q := Q) n 0 e R W ho h he (by omega) hp
  cases q
  · exact xq_wp.go (k := 2) (fun F => rfl) key
  · exact xq_wp.go (k := 2) (fun F => rfl) key
/-- in thought nothing is counted -/
theorem CR_wtF {b e : Nat} (ho : ok n ns W) (h : CR false n ns I R W) (hb : b < n) (he : e < 5) : CR false n ns I R (sp_wt W b e) := by
  have n14 := ho.1.2.1
  refine CR_oth (F := fun p => p = 50 + 14 * b + (7 + e)) ho h (fun p hp => upd_ne hp) (fun p hp => ?_) rfl rfl rfl rfl rfl rfl rfl rfl rfl rfl ⟨rfl, rfl⟩ ?_ (fun i hi => ?_) (fun i hi => ?_) (fun b' hb' => ?_) (fun hq b' k hb' hk => by cases hq)
  · exact Or.inr (Or.inr (Or.inr (Or.inr (Or.inr (Or.inr ⟨b, 7 + e, by omega, by omega, hp⟩)))))
  · unfold cT0 sp_wt
    rw [upd_ne (by omega), upd_ne (by omega), upd_ne (by omega), upd_ne (by omega), upd_ne (by omega)]
    exact CR_0 h
  · rw [sp_wt, upd_ne (by omega)]; exact CR_1 h i hi
  · rw [sp_wt, upd_ne (by omega)]; exact CR_2 h i hi
  · rw [sp_wt, upd_ne (by omega)]; exact CR_7 h b' hb'
theorem CR_waitF : ∀ (c b : Nat) (W : xw), ok n ns W → CR false n ns I R W → b + c = n → CR false n ns I R (sp_wait n c b W) := by
  intro c
  induction c with
  | zero => intro b W ho h e; exact h
  | succ c ih =>
    intro b W ho h e
    simp only [sp_wait]
    split
    · have : (if sp_canB n W b = true then if sp_frost W = true then 2 else 3 else 4) < 5 := by
        split
        · split <;> omega
        · omega
      exact ih (b + 1) _ (ok_wt ho (by omega) this) (CR_wtF ho h (by omega) this) (by omega)
    · exact ih (b + 1) W ho h (by omega)
theorem CR_drw {v : Int32} (ho : ok n ns W) (h : CR q n ns I R W) (e : v = sp_dr W) : CR q n ns I (xq_w R 0 8 v) (sp_draw W) := by
  have h0 := CR_0 h
  refine CR_oth (F := fun p => p = 7) ho h (fun p hp => upd_ne hp) (fun p hp => by omega) (xw_i (by omega)) (xw_i (by omega)) (xw_i (by omega)) (xw_i (by omega)) (by rw [xw_i (by omega)]) (xw_i (by omega)) (xw_i (by omega)) (xw_i (by omega)) (xw_i (by omega)) (xw_i (by omega)) ⟨by rw [xw_x (by omega)], by rw [xw_x (by omega)]⟩ ⟨?_, ?_, ?_, ?_, ?_⟩ (fun i hi => ?_) (fun i hi => ?_) (fun b' hb' => ?_) (fun hq b' k hb' hk => ?_)
  · rw [xw_x (by omega), sp_draw, upd_ne (by omega)]; exact h0.1
  · rw [xw_x (by omega), sp_draw, upd_ne (by omega)]; exact h0.2.1
  · rw [xw_x (by omega), sp_draw, upd_ne (by omega)]; exact h0.2.2.1
  · rw [xw_x (by omega), sp_draw, upd_ne (by omega)]; exact h0.2.2.2.1
  · rw [xw_v, sp_draw, upd_eq, e]
  · rw [xw_i (by omega), sp_draw, upd_ne (by omega)]; exact CR_1 h i hi
  · rw [xw_i (by omega), sp_draw, upd_ne (by omega)]; exact CR_2 h i hi
  · rw [xw_i (by omega), sp_draw, upd_ne (by omega)]; exact CR_7 h b' hb'
  · rw [xw_i (by omega), sp_draw, upd_ne (by omega)]; exact CR_8 h hq b' k hb' hk
theorem CR_vn {b : Nat} {v : Int32} (ho : ok n ns W) (h : CR q n ns I R W) (hb : b < n) : CR q n ns I (xq_w R 7 b v) (upd W (50 + 14 * b + 1) v) := by
  have n14 := ho.1.2.1
  have h0 := CR_0 h
  refine CR_oth (F := fun p => p = 50 + 14 * b + 1) ho h (fun p hp => upd_ne hp) (fun p hp => ?_) (xw_i (by omega)) (xw_i (by omega)) (xw_i (by omega)) (xw_i (by omega)) (by rw [xw_i (by omega)]) (xw_i (by omega)) (xw_i (by omega)) (xw_i (by omega)) (xw_i (by omega)) (xw_i (by omega)) ⟨by rw [xw_i (by omega)], by rw [xw_i (by omega)]⟩ ?_ (fun i hi => ?_) (fun i hi => ?_) (fun b' hb' => ?_) (fun hq b' k hb' hk => ?_)
  · exact Or.inr (Or.inr (Or.inr (Or.inr (Or.inr (Or.inr ⟨b, 1, by omega, by omega, hp⟩)))))
  · unfold cT0
    rw [xw_i (by omega), upd_ne (by omega), upd_ne (by omega), upd_ne (by omega), upd_ne (by omega), upd_ne (by omega)]; exact h0
  · rw [xw_i (by omega), upd_ne (by omega)]; exact CR_1 h i hi
  · rw [xw_i (by omega), upd_ne (by omega)]; exact CR_2 h i hi
  · by_cases e : b' = b
    · subst e; rw [xw_v, upd_eq]
    · rw [xw_x e, upd_ne (by omega)]; exact CR_7 h b' hb'
  · rw [xw_i (by omega), upd_ne (by omega)]; exact CR_8 h hq b' k hb' hk
theorem yl_96_2 : ∀ (c b : Nat) (R : Nat → xw) (W : xw) (hl : Value), ok n ns W → CR q n ns I R W → b + c = n → (∀ R', CR q n ns I R' (sp_split c b W) → R' 9 = R 9 → Q none (xq_s g J (xc q I R'))) → xq_wp (d + 1) 96 (xq_s g J (xc q I R)) 2 [.ref (xid q 9), .int (nI b), hl] [] Q := by
  intro c
  induction c with
  | zero =>
    intro b R W hl ho h e hp
    have hn := ok_n ho
    exact yu_96 (n := n) ⟨(CR_G h).1.trans hn.1, by omega, by omega, fun z => by omega, fun _ => hp R h rfl⟩
  | succ c ih =>
    intro b R W hl ho h e hp
    have hn := ok_n ho
    have hb : b < n := by omega
    have r4 : R 4 b = W (50 + 14 * b + 4) := CR_4 h b hb
    simp only [sp_split] at hp
    refine yu_96 (n := n) ⟨(CR_G h).1.trans hn.1, by omega, by omega, fun _ => ⟨by omega, fun z => ?_, fun z => ⟨fun z2 => ?_, fun z2 => ?_⟩⟩, fun z => by omega⟩
    · rw [r4] at z
      rw [if_pos (Or.inl z)] at hp
      exact ih (b + 1) R W _ ho h (by omega) hp
    · rw [r4] at z2
      rw [if_pos (Or.inr z2)] at hp
      exact ih (b + 1) R W _ ho h (by omega) hp
    · rw [r4] at z z2
      rw [if_neg (fun y => y.elim z z2)] at hp
      intro dv ds ed es
      rw [(CR_dr h).1] at ed
      rw [(CR_dr h).2] at es
      have r18 : R 1 8 = W 18 := CR_1 h 8 (by omega)
      have C1 := CR_drw ho h ed
      have hod := ok_draw ho
      refine ⟨fun y => ⟨bok_row (bok_cB (CR_B h) ho.2.1) (by rw [xw_i (by omega), xw_i (by omega), xw_i (by omega)]), ?_⟩, fun y => ?_⟩
      · rw [es, r18] at y
        rw [if_pos y] at hp
        have w4 : sp_draw W (50 + 14 * b + 4) = W (50 + 14 * b + 4) := upd_ne (by omega)
        have w1 : sp_draw W (50 + 14 * b + 1) = W (50 + 14 * b + 1) := upd_ne (by omega)
        have C2 := CR_wh hod C1 hb (by rw [w4]; exact z2) (show 0 < 2 ∨ 0 = 3 by omega)
        have ho2 := ok_wh hod hb (show 0 < 5 by omega) (show 0 ≠ 2 by omega)
        have C3 := CR_vn (v := xq_rem (R 7 b + nI 1) (nI 4)) ho2 C2 hb
        have e7 : R 7 b = sp_draw W (50 + 14 * b + 1) := by rw [w1]; exact CR_7 h b hb
        obtain ⟨v, hv, ev, iv⟩ := ok_ve hod hb
        have ho3 := ok_split1 hod hb
        refine ih (b + 1) _ _ _ ho3 ?_ (by omega) (fun R' C' r9 => hp R' C' ?_)
        · unfold sp_split1
          rw [← e7]
          refine CR_wr ?_ C3 ?_
          · have hvv : xq_rem (R 7 b + nI 1) (nI 4) = nI ((v + 1) % 4) := by rw [e7, ev, nI_add, xq_rem, pk_rem (by omega) (by omega) (by omega)]
            rw [hvv]
            obtain ⟨g1, g2, g3, g4, g5, g6, g7, g8, g9, g10, g11⟩ := ho2
            have ns8 := g1.2.2.2
            refine ⟨ok1_fr g1 (upd_ne (by omega)) (upd_ne (by omega)), okb_fr g2 (upd_ne (by omega)), ok2_fr g3 (upd_ne (by omega)), ok3_fr g4 (fun i hi => upd_ne (by omega)), fun b' hb' => ?_, ok5_fr g6 (fun b' hb' => ⟨upd_ne (by omega), upd_ne (by omega)⟩), ok6_fr g7 (fun i hi => upd_ne (by omega)), ok7_fr g8 (fun i hi => upd_ne (by omega)), ok8_fr g9 (fun b' k hb' hk => upd_ne (by omega)), ok9_fr g10 (fun k hk => upd_ne (by omega)), sp_law_fr g11 (fun p h1 h2 => upd_ne (by omega))⟩
            by_cases ebb : b' = b
            · subst ebb; exact ⟨(v + 1) % 4, by omega, upd_eq⟩
            · rw [upd_ne (by omega)]; exact g5 b' hb'
          · rw [upd_ne (by omega), upd_ne (by omega), sp_draw, upd_ne (by omega)]; exact (CR_0 h).1
        · rw [r9, cw_row 9 (by omega), xw_i (by omega), xw_i (by omega), xw_i (by omega)]
      · rw [es, r18] at y
        rw [if_neg y] at hp
        exact ih (b + 1) _ _ _ hod C1 (by omega) (fun R' C' r9 => hp R' C' (by rw [r9, xw_i (by omega)]))
theorem yl_96 (ho : ok n ns W) (h : CR q n ns I R W) (hp : ∀ R', CR q n ns I R' (sp_split n 0 W) → R' 9 = R 9 → Q none (xq_s g J (xc q I R'))) : xq_wp (d + 1) 96 (xq_s g J (xc q I R)) 0 [.ref (xid q 9), xq_un, xq_un] [] Q := by
  have key := yl_96_2 (d := d) (g := g) (J := J) (Q := Q) n 0 R W xq_un ho h (by omega) hp
  cases q
  · exact xq_wp.go (k := 2) (fun F => rfl) key
  · exact xq_wp.go (k := 2) (fun F => rfl) key
theorem fall_fr {p : Nat} (h6 : ¬ p = 6) (hp : p < 270 ∨ 1075 ≤ p) : ∀ (c b : Nat) (W : xw), ok n ns W → b + c = n → (∀ x, x < n → ¬ p = 50 + 14 * x + 4) → sp_fall c b W p = W p := by
  intro c
  induction c with
  | zero => intro b W ho e h4; rfl
  | succ c ih =>
    intro b W ho e h4
    simp only [sp_fall]
    split
    · rw [ih (b + 1) _ (ok_wr (ok_wh ho (by omega) (by omega) (by omega))) (by omega) h4, wr_ne (okb_up ho.2.1 (by omega)) h6 hp, upd_ne (h4 b (by omega))]
    · exact ih (b + 1) _ ho (by omega) h4
theorem fall_val {x : Nat} (hx : x < n) : ∀ (c b : Nat) (W : xw), ok n ns W → b + c = n → sp_fall c b W (50 + 14 * x + 4) = if b ≤ x ∧ W (50 + 14 * x + 4) = nI 4 then nI 3 else W (50 + 14 * x + 4) := by
  intro c
  induction c with
  | zero => intro b W ho e; simp only [sp_fall]; rw [if_neg (by omega)]
  | succ c ih =>
    intro b W ho e
    have n14 := ho.1.2.1
    simp only [sp_fall]
    split
    · rename_i z
      rw [ih (b + 1) _ (ok_wr (ok_wh ho (by omega) (by omega) (by omega))) (by omega), wr_ne (okb_up ho.2.1 (by omega)) (by omega) (by omega)]
      by_cases ex : x = b
      · subst ex
        rw [upd_eq, if_neg (by omega), if_pos ⟨by omega, z⟩]
      · rw [upd_ne (by omega)]
        by_cases y : b + 1 ≤ x ∧ W (50 + 14 * x + 4) = nI 4
        · rw [if_pos y, if_pos ⟨by omega, y.2⟩]
        · rw [if_neg y, if_neg (fun w => y ⟨by omega, w.2⟩)]
    · rename_i z
      rw [ih (b + 1) _ ho (by omega)]
      by_cases ex : x = b
      · subst ex
        rw [if_neg (by omega), if_neg (fun w => z w.2)]
      · by_cases y : b + 1 ≤ x ∧ W (50 + 14 * x + 4) = nI 4
        · rw [if_pos y, if_pos ⟨by omega, y.2⟩]
        · rw [if_neg y, if_neg (fun w => y ⟨by omega, w.2⟩)]
theorem lmN_none : ∀ c, (∀ x, x < c → ¬ W (50 + 14 * x + 4) = nI 4) → lmN W c = 0 ∧ lsN W c = 0
  | 0, _ => ⟨rfl, rfl⟩
  | c + 1, h => by
    have := lmN_none c (fun x hx => h x (by omega))
    unfold lmN lsN
    rw [if_neg (h c (by omega)), if_neg (h c (by omega))]
    omega
theorem lean_none : ∀ (c b : Nat) (v : Int32), (∀ x, b ≤ x → x < b + c → ¬ W (50 + 14 * x + 4) = nI 4) → sp_lean W c b v = v
  | 0, _, _, _ => rfl
  | c + 1, b, v, h => by
    simp only [sp_lean]
    rw [if_neg (h b (by omega) (by omega))]
    exact lean_none c (b + 1) v (fun x h1 h2 => h x (by omega) (by omega))
theorem yl_97_54 {cl : Value} : ∀ (c b : Nat) (R : Nat → xw) (W : xw), ok n ns W → I 2 0 = nI n → cT4 n R W → cB q R W → R 0 10 = W 2 → b + c = n → (∀ R' : Nat → xw, cT4 n R' (sp_fall c b W) → cB q R' (sp_fall c b W) → (∀ i, i < 11 → ¬ i = 4 → R' i = R i) → Q none (xq_s g J (xc q I (xq_w (xq_w (xq_w (xq_w R' 0 13 (nI 0)) 0 14 (nI 0)) 0 11 (R' 0 11 + nI 1)) 0 12 (Int32.ofInt (-1)))))) → xq_wp (d + 1) 97 (xq_s g J (xc q I R)) 54 [.ref (xid q 9), cl, .int (nI b)] [] Q := by
  intro c
  induction c with
  | zero =>
    intro b R W ho h0 h4 hB h2 e hp
    have hn := ok_n ho
    exact yu_97_54 (n := n) ⟨h0, by omega, by omega, fun z => by omega, fun _ => hp R h4 hB (fun _ _ _ => rfl)⟩
  | succ c ih =>
    intro b R W ho h0 h4 hB h2 e hp
    have hn := ok_n ho
    have hb : b < n := by omega
    have r4 : R 4 b = W (50 + 14 * b + 4) := h4 b hb
    simp only [sp_fall] at hp
    refine yu_97_54 (n := n) ⟨h0, by omega, by omega, fun _ => ⟨by omega, fun z => ⟨bok_row (bok_cB hB ho.2.1) (xw_i (by omega)), ?_⟩, fun z => ?_⟩, fun z => by omega⟩
    · rw [r4] at z
      rw [if_pos z] at hp
      have hb1 : cB q (xq_w R 4 b (nI 3)) (upd W (50 + 14 * b + 4) (nI 3)) := cB_fr hB (fun i i1 i2 => xw_i (by omega)) (upd_ne (by omega)) (fun p p1 p2 => upd_ne (by omega)) ho.2.1
      have ob := okb_up (v := nI 3) (p := 50 + 14 * b + 4) ho.2.1 (by omega)
      refine ih (b + 1) _ _ (ok_wr (ok_wh ho hb (by omega) (by omega))) h0 (fun x hx => ?_) (cB_wr hb1 ob (by rw [upd_ne (by omega)]; exact h2)) ?_ (by omega) (fun R' z1 z2 z3 => hp R' z1 z2 (fun i i1 i2 => ?_))
      · rw [cw_row 4 (by omega), wr_ne ob (by omega) (by omega)]
        by_cases ex : x = b
        · subst ex; rw [xw_v, upd_eq]
        · rw [xw_x ex, upd_ne (by omega)]; exact h4 x hx
      · rw [cw_row 0 (by omega), xw_i (by omega), wr_ne ob (by omega) (by omega), upd_ne (by omega)]; exact h2
      · rw [z3 i i1 i2, cw_row i i1, xw_i i2]
    · rw [r4] at z
      rw [if_neg z] at hp
      exact ih (b + 1) R W ho h0 h4 hB h2 (by omega) hp
theorem yl_97 (ho : ok n ns W) (h : CR q n ns I R W) (hp : ∀ R', CR q n ns I R' (sp_falls n W) → R' 9 = R 9 → Q none (xq_s g J (xc q I R'))) : xq_wp (d + 2) 97 (xq_s g J (xc q I R)) 0 [.ref (xid q 9), xq_un, xq_un] [] Q := by
  have hn := ok_n ho
  have h0 := CR_0 h
  have e11 : R 1 11 = W 21 := CR_1 h 11 (by omega)
  have z0 : R 0 13 = nI 0 ↔ sp_lmany W n 0 (nI 0) = nI 0 := by rw [(CR_L h).1]; exact lset_0 hn.2
  have z1 : R 0 13 = nI 1 <<< (I 2 0 &&& 31) - nI 1 ↔ sp_lmany W n 0 (nI 0) = W 0 := by rw [(CR_L h).1, (CR_G h).1, hn.1]; exact lset_1 hn.2
  unfold sp_falls at hp
  refine yu_97 ⟨fun y => ?_, fun y => ⟨fun y2 => ?_, fun y2 => ⟨fun y3 => ?_, fun y3 => ⟨fun y4 => ?_, fun y4 => ?_⟩⟩⟩⟩
  · rw [if_pos (Or.inl (z0.mp y))] at hp; exact hp R h rfl
  · rw [if_pos (Or.inr (Or.inl (z1.mp y2)))] at hp; exact hp R h rfl
  · rw [e11] at y3; rw [if_pos (Or.inr (Or.inr (Or.inl y3)))] at hp; exact hp R h rfl
  · rw [e11, h0.1, h0.2.2.2.1] at y4; rw [if_pos (Or.inr (Or.inr (Or.inr y4)))] at hp; exact hp R h rfl
  · rw [e11] at y3
    rw [e11, h0.1, h0.2.2.2.1] at y4
    rw [z0] at y
    rw [z1] at y2
    rw [if_neg (by rintro (w | w | w | w); exact y w; exact y2 w; exact y3 w; exact y4 w)] at hp
    refine yl_97_54 n 0 R W ho ((CR_G h).1.trans hn.1) (CR_4 h) (CR_B h) h0.1 (by omega) (fun R' C4 CB r => hp _ ?_ ?_)
    · have hno : ∀ x, x < n → ¬ sp_fall n 0 W (50 + 14 * x + 4) = nI 4 := by
        intro x hx
        rw [fall_val hx n 0 W ho (by omega)]
        split
        · decide
        · rename_i w; exact fun w2 => w ⟨by omega, w2⟩
      have eW : ∀ p, ¬ p = 6 → p < 270 ∨ 1075 ≤ p → (∀ x, x < n → ¬ p = 50 + 14 * x + 4) → sp_fall n 0 W p = W p := fun p p1 p2 p3 => fall_fr p1 p2 n 0 W ho (by omega) p3
      have e4 : ∀ x, upd (upd (sp_fall n 0 W) 4 (sp_fall n 0 W 4 + nI 1)) 5 (Int32.ofInt (-1)) (50 + 14 * x + 4) = sp_fall n 0 W (50 + 14 * x + 4) := fun x => by rw [upd_ne (by omega), upd_ne (by omega)]
      have nol := lmN_none (W := upd (upd (sp_fall n 0 W) 4 (sp_fall n 0 W 4 + nI 1)) 5 (Int32.ofInt (-1))) n (fun x hx => by rw [e4]; exact hno x hx)
      refine CR_gen ho h (fun p p4 p5 p6 p7 p8 => ?_) (fun i hi => ?_) ?_ ⟨?_, ?_, ?_⟩ ?_ ?_ (fun x hx => ?_) (fun x hx w => ?_) (cB_fr CB (fun i i1 i2 => ?_) ?_ (fun p p1 p2 => ?_) (ok_fall n 0 W ho (by omega)).2.1) ⟨?_, ?_⟩ ?_
      · rw [upd_ne p5, upd_ne p4]; exact eW p p6 (by omega) p8
      · rw [xw_i (by omega), xw_i (by omega), xw_i (by omega), xw_i (by omega)]; exact r i (by omega) (by omega)
      · rw [xw_i (by omega), xw_i (by omega), xw_i (by omega), xw_i (by omega), r 9 (by omega) (by omega)]
      · rw [xw_x (by omega), xw_x (by omega), xw_x (by omega), xw_x (by omega), r 0 (by omega) (by omega)]
      · rw [xw_x (by omega), xw_x (by omega), xw_x (by omega), xw_x (by omega), r 0 (by omega) (by omega)]
      · rw [xw_x (by omega), xw_x (by omega), xw_x (by omega), xw_x (by omega), r 0 (by omega) (by omega)]
      · rw [xw_x (by omega), xw_v, upd_ne (by omega), upd_eq, r 0 (by omega) (by omega), h0.2.2.1, eW 4 (by omega) (by omega) (fun x hx => by omega)]
      · rw [xw_v, upd_eq]
      · rw [xw_i (by omega), xw_i (by omega), xw_i (by omega), xw_i (by omega), e4]; exact C4 x hx
      · rw [e4, fall_val hx n 0 W ho (by omega)] at w
        split at w
        · exact absurd w (by decide)
        · exact w
      · rw [xw_i (by omega), xw_i (by omega), xw_i (by omega), xw_i (by omega)]
      · rw [upd_ne (by omega), upd_ne (by omega)]
      · rw [upd_ne (by omega), upd_ne (by omega)]
      · rw [xw_x (by omega), xw_x (by omega), xw_x (by omega), xw_v, lset_N hn.2, nol.2]
      · rw [xw_x (by omega), xw_x (by omega), xw_v, lean_none n 0 _ (fun x _ hx => by rw [e4]; exact hno x (by omega))]
      · unfold cS
        rw [upd_eq, lmany_N, nol.1]
        exact ⟨fun _ => rfl, fun _ => rfl⟩
    · rw [xw_i (by omega), xw_i (by omega), xw_i (by omega), xw_i (by omega), r 9 (by omega) (by omega)]
end yk_c5f
