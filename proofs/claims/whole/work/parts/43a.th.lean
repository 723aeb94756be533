/-! in thought: the model's rows, lying and the orders too -/
def xt (I : Nat → xw) (A W P F N Y X B : xw) : Nat → xw := xm (va_up (va_up (va_up I 130 Y) 139 X) 140 B) A W P F N
theorem xt_self (I : Nat → xw) : xt I (I 126) (I 127) (I 136) (I 137) (I 138) (I 130) (I 139) (I 140) = I := by
  funext a
  simp only [xt, xm, va_up]
  repeat' split
  all_goals simp_all
section xq_xt
variable {I : Nat → xw} {A W P F N Y X B : xw} {j : Nat} {v : Int32}
theorem xt_127 : xq_w (xt I A W P F N Y X B) 127 j v = xt I A (upd W j v) P F N Y X B := xm_127
theorem xt_126 : xq_w (xt I A W P F N Y X B) 126 j v = xt I (upd A j v) W P F N Y X B := xm_126
theorem xt_130 : xq_w (xt I A W P F N Y X B) 130 j v = xt I A W P F N (upd Y j v) X B := by
  funext a; simp only [xq_w, xt, xm, va_up]; repeat' split
  all_goals simp_all
theorem xt_139 : xq_w (xt I A W P F N Y X B) 139 j v = xt I A W P F N Y (upd X j v) B := by
  funext a; simp only [xq_w, xt, xm, va_up]; repeat' split
  all_goals simp_all
theorem xt_140 : xq_w (xt I A W P F N Y X B) 140 j v = xt I A W P F N Y X (upd B j v) := by
  funext a; simp only [xq_w, xt, xm, va_up]; repeat' split
  all_goals simp_all
end xq_xt
/-- the book is full and stays as it is -/
def bkf (W W' : xw) : Prop := W' 6 = nI 200 ∧ ∀ p, 270 ≤ p → p < 1075 → W' p = W p
section xk_bkf
variable {n ns : Nat} {W W' : xw} {N : xw}
theorem bkf_rf (h : W 6 = nI 200) : bkf W W := ⟨h, fun _ _ _ => rfl⟩
theorem bkf_tr {W'' : xw} (h1 : bkf W W') (h2 : bkf W' W'') : bkf W W'' := ⟨h2.1, fun p p1 p2 => (h2.2 p p1 p2).trans (h1.2 p p1 p2)⟩
theorem bkf_up {p : Nat} {v : Int32} (h : W 6 = nI 200) (hp : ¬ p = 6) (hp2 : p < 270 ∨ 1075 ≤ p) : bkf W (upd W p v) := ⟨by rw [upd_ne (fun e => hp e.symm)]; exact h, fun j j1 j2 => upd_ne (by omega)⟩
theorem bkf_wr {b e k : Int32} (h : W 6 = nI 200) : bkf W (sp_wr W b e k) := by
  unfold sp_wr; rw [if_pos h]; exact bkf_rf h
theorem bkf_on {b : Nat} {k : Int32} (hb : b < 14) (h : W 6 = nI 200) : bkf W (sp_on W b k) := by
  unfold sp_on
  split
  · have h1 := bkf_up (p := 50 + 14 * b + 4) (v := nI 3) h (by omega) (by omega)
    have h2 := bkf_up (p := 50 + 14 * b + 5) (v := nI 0) h1.1 (by omega) (by omega)
    have h3 := bkf_up (p := 50 + 14 * b + 6) (v := nI 0) h2.1 (by omega) (by omega)
    exact bkf_tr h1 (bkf_tr h2 (bkf_tr h3 (bkf_wr h3.1)))
  · have h1 := bkf_up (p := 50 + 14 * b + 4) (v := nI 2) h (by omega) (by omega)
    have h2 := bkf_up (p := 50 + 14 * b + 5) (v := k) h1.1 (by omega) (by omega)
    exact bkf_tr h1 (bkf_tr h2 (bkf_up h2.1 (by omega) (by omega)))
theorem bkf_over {b : Nat} (hb : b < 14) (h : W 6 = nI 200) : bkf W (sp_over W b) := by
  unfold sp_over
  have h1 := bkf_wr (b := nI b) (e := nI 1) (k := W (50 + 14 * b + 5)) h
  exact bkf_tr h1 (bkf_on hb h1.1)
theorem bkf_wt {b e : Nat} (hb : b < 14) (he : e < 5) (h : W 6 = nI 200) : bkf W (sp_wt W b e) := bkf_up h (by omega) (by omega)
theorem bkf_went {b : Nat} {z : Int32} (hb : b < 14) (h : W 6 = nI 200) : bkf W (sp_went W b z) := bkf_up h (by omega) (by omega)
theorem bkf_goes {b : Nat} {z fr : Int32} (hb : b < 14) (h : W 6 = nI 200) : bkf W (sp_goes z W N fr b).1 := by
  unfold sp_goes
  split
  · exact bkf_wt hb (by omega) h
  · split
    · exact bkf_wt hb (by omega) h
    · dsimp only
      split
      · exact bkf_over hb h
      · split
        · exact bkf_went hb h
        · exact bkf_tr (bkf_went hb h) (bkf_over hb (bkf_went hb h).1)
theorem bkf_h1 {b : Nat} {z fr : Int32} (hb : b < 14) (h : W 6 = nI 200) : bkf W (sp_h1 z W N fr b).1 := by
  unfold sp_h1
  split
  · split
    · exact bkf_tr (bkf_on hb h) (bkf_goes hb (bkf_on hb h).1)
    · exact bkf_on hb h
  · split
    · exact bkf_goes hb h
    · exact bkf_rf h
theorem bkf_hauls {z : Int32} : ∀ (c i : Nat) (W N : xw) (fr : Int32), ok n ns W → i + c = n → W 6 = nI 200 → bkf W (sp_hauls z c i W N fr).1 := by
  intro c
  induction c with
  | zero => intro i W N fr ho e h; exact bkf_rf h
  | succ c ih =>
    intro i W N fr ho e h
    obtain ⟨b, hb, eb, ib⟩ := ok_or ho (show i < n by omega)
    have hn := ok_n ho
    simp only [sp_hauls, ib]
    have h1 := bkf_h1 (N := N) (z := z) (fr := fr) (show b < 14 by omega) h
    exact bkf_tr h1 (ih (i + 1) _ _ _ (ok_h1 ho hb) (by omega) h1.1)
theorem bkf_cut {bar : Int32} : ∀ (c i : Nat) (W : xw) (left : Int32), ok n ns W → i + c = n → W 6 = nI 200 → bkf W (sp_cut bar c i W left) := by
  intro c
  induction c with
  | zero => intro i W left ho e h; exact bkf_rf h
  | succ c ih =>
    intro i W left ho e h
    obtain ⟨b, hb, eb, ib⟩ := ok_or ho (show i < n by omega)
    have hn := ok_n ho
    simp only [sp_cut, ib]
    split
    · split
      · have h1 := bkf_up (p := 50 + 14 * b + 4) (v := nI 1) h (by omega) (by omega)
        have h2 := bkf_tr h1 (bkf_wr (b := nI b) (e := nI 0) (k := nI 0) h1.1)
        exact bkf_tr h2 (ih (i + 1) _ _ (ok_cut1 ho hb) (by omega) h2.1)
      · exact ih (i + 1) _ _ ho (by omega) h
    · exact bkf_rf h
theorem bkf_lay1 {b : Nat} (hb : b < 14) (h : W 6 = nI 200) : bkf W (sp_lay1 n W b) := by
  unfold sp_lay1
  have h1 : bkf W (if sp_lmany W n 0 (nI 0) = nI 0 then upd W 5 (W 2) else W) := by
    split
    · exact bkf_up h (by omega) (by omega)
    · exact bkf_rf h
  have h2 := bkf_up (p := 50 + 14 * b + 4) (v := nI 4) h1.1 (by omega) (by omega)
  exact bkf_tr h1 (bkf_tr h2 (bkf_wr h2.1))
theorem bkf_lay : ∀ (c i : Nat) (W : xw) (l v : Int32), ok n ns W → i + c = n → W 6 = nI 200 → bkf W (sp_lay n c i W l v).1 := by
  intro c
  induction c with
  | zero => intro i W l v ho e h; exact bkf_rf h
  | succ c ih =>
    intro i W l v ho e h
    obtain ⟨b, hb, eb, ib⟩ := ok_or ho (show i < n by omega)
    have hn := ok_n ho
    simp only [sp_lay, ib]
    split
    · split
      · have h1 := bkf_lay1 (n := n) (show b < 14 by omega) h
        exact bkf_tr h1 (ih (i + 1) _ _ _ (ok_lay1 ho hb) (by omega) h1.1)
      · exact ih (i + 1) _ _ _ ho (by omega) h
    · exact bkf_rf h
theorem bkf_wait : ∀ (c b : Nat) (W : xw), ok n ns W → b + c = n → W 6 = nI 200 → bkf W (sp_wait n c b W) := by
  intro c
  induction c with
  | zero => intro b W ho e h; exact bkf_rf h
  | succ c ih =>
    intro b W ho e h
    have hn := ok_n ho
    simp only [sp_wait]
    split
    · have : (if sp_canB n W b = true then if sp_frost W = true then 2 else 3 else 4) < 5 := by
        split
        · split <;> omega
        · omega
      have h1 := bkf_wt (b := b) (by omega) this h
      exact bkf_tr h1 (ih (b + 1) _ (ok_wt ho (by omega) this) (by omega) h1.1)
    · exact ih (b + 1) W ho (by omega) h
theorem bkf_fall : ∀ (c b : Nat) (W : xw), ok n ns W → b + c = n → W 6 = nI 200 → bkf W (sp_fall c b W) := by
  intro c
  induction c with
  | zero => intro b W ho e h; exact bkf_rf h
  | succ c ih =>
    intro b W ho e h
    have hn := ok_n ho
    simp only [sp_fall]
    split
    · have h1 := bkf_up (p := 50 + 14 * b + 4) (v := nI 3) h (by omega) (by omega)
      have h2 := bkf_tr h1 (bkf_wr (b := nI b) (e := nI 5) (k := nI 0) h1.1)
      exact bkf_tr h2 (ih (b + 1) _ (ok_wr (ok_wh ho (by omega) (by omega) (by omega))) (by omega) h2.1)
    · exact ih (b + 1) W ho (by omega) h
theorem bkf_falls (ho : ok n ns W) (h : W 6 = nI 200) : bkf W (sp_falls n W) := by
  unfold sp_falls
  split
  · exact bkf_rf h
  · have h1 := bkf_fall n 0 W ho (by omega) h
    have h2 := bkf_up (p := 4) (v := sp_fall n 0 W 4 + nI 1) h1.1 (by omega) (by omega)
    exact bkf_tr h1 (bkf_tr h2 (bkf_up h2.1 (by omega) (by omega)))
theorem bkf_turn (h : W 6 = nI 200) : bkf W (sp_turn W) := by
  unfold sp_turn
  have h1 := bkf_up (p := 2) (v := W 2 + nI 1) h (by omega) (by omega)
  split
  · exact bkf_tr h1 (bkf_up h1.1 (by omega) (by omega))
  · exact h1
theorem bkf_herds {wet : Bool} (h : W 6 = nI 200) : bkf W (sp_herds W wet) := by
  unfold sp_herds
  have h1 := bkf_up (p := 11) (v := xq_max (nI 0) (sp_grass W wet - W 10)) h (by omega) (by omega)
  exact bkf_tr h1 (bkf_up h1.1 (by omega) (by omega))
/-- a week in thought, its parts -/
theorem th_week_eq {bar : Int32} : sp_week false bar n W = (sp_turn (sp_falls n (sp_lays n (sp_hauls (nI 0) n 0 (sp_cut bar n 0 (sp_herds (sp_mud false W) false) (sp_herds (sp_mud false W) false 13)) (fun _ => nI 0) ((sp_cut bar n 0 (sp_herds (sp_mud false W) false) (sp_herds (sp_mud false W) false 13)) 10)).1).1), (sp_lays n (sp_hauls (nI 0) n 0 (sp_cut bar n 0 (sp_herds (sp_mud false W) false) (sp_herds (sp_mud false W) false 13)) (fun _ => nI 0) ((sp_cut bar n 0 (sp_herds (sp_mud false W) false) (sp_herds (sp_mud false W) false 13)) 10)).1).2) := by
  rw [sp_week_eq]
  have e1 : sp_wet false W = false := rfl
  have e2 : sp_we1 false W = W := by rw [sp_we1, if_neg (fun y => by cases y.1)]
  have e3 : ∀ V : xw, sp_fld false V = false := fun V => rfl
  have e4 : ∀ V : xw, sp_we2 false V = V := fun V => by rw [sp_we2, if_neg (fun y => by cases y.1)]
  have e5 : ∀ V : xw, sp_end n false V = sp_turn (sp_falls n V) := fun V => by rw [sp_end, if_neg (fun y => by cases y.1)]
  rw [e1, e2, e3, e4, sp_wk2, e5]
  rfl
theorem bkf_week {bar : Int32} (ho : ok n ns W) (h : W 6 = nI 200) : bkf W (sp_week false bar n W).1 := by
  rw [th_week_eq]
  dsimp only
  have h0 : bkf W (sp_mud false W) := bkf_up h (by omega) (by omega)
  have o0 := ok_mud (t := false) ho
  have h1 := bkf_herds (wet := false) h0.1
  have o1 := ok_herds (wet := false) o0
  have h2 := bkf_cut (bar := bar) n 0 _ (sp_herds (sp_mud false W) false 13) o1 (by omega) h1.1
  have o2 := ok_cut (bar := bar) n 0 _ (sp_herds (sp_mud false W) false 13) o1 (by omega)
  have h3 := bkf_hauls (z := nI 0) n 0 _ (fun _ => nI 0) (sp_cut bar n 0 (sp_herds (sp_mud false W) false) (sp_herds (sp_mud false W) false 13) 10) o2 (by omega) h2.1
  have o3 := ok_hauls (z := nI 0) n 0 _ (fun _ => nI 0) (sp_cut bar n 0 (sp_herds (sp_mud false W) false) (sp_herds (sp_mud false W) false 13) 10) o2 (by omega)
  refine bkf_tr h0 (bkf_tr h1 (bkf_tr h2 (bkf_tr h3 ?_)))
  have h4 : bkf _ (sp_lays n _).1 := bkf_tr (bkf_lay n 0 _ _ _ o3 (by omega) h3.1) (bkf_wait n 0 _ (ok_lay n 0 _ _ _ o3 (by omega)) (by omega) (bkf_lay n 0 _ _ _ o3 (by omega) h3.1).1)
  have h5 := bkf_falls (ok_lays o3) h4.1
  exact bkf_tr h4 (bkf_tr h5 (bkf_turn h5.1))
/-- what lies behind the blocks stays -/
theorem th_hi {bar : Int32} (ho : ok n ns W) (h : W 6 = nI 200) : ∀ p, 246 ≤ p → (sp_week false bar n W).1 p = W p := by
  intro p hp
  by_cases z : 270 ≤ p ∧ p < 1075
  · exact (bkf_week ho h).2 p z.1 z.2
  · exact stp_week ho (by unfold stp; omega)
end xk_bkf
/-! when it closes -/
def th_it (n : Nat) (blk : Int32) (idle : Nat) : Nat → Nat → xw → Int32
  | 0, _, _ => Int32.ofInt (-1)
  | c + 1, k, W => if lmN (sp_week false (if k < idle then blk else Int32.ofInt (-1)) n W).1 n = n then W 2 else th_it n blk idle c (k + 1) (sp_week false (if k < idle then blk else Int32.ofInt (-1)) n W).1
def th_close (n : Nat) (blk : Int32) (idle : Nat) (W : xw) : Int32 := if n = 0 then Int32.ofInt (-1) else if lmN W n = n then xq_max (nI 0) (W 2 - nI 1) else th_it n blk idle 300 0 W
