/-! the book only grows in a week -/
def bme (W W' : xw) : Prop := sp_ix W 6 ≤ sp_ix W' 6 ∧ (bkw W → bkw W')
section xk_bm
variable {n ns : Nat} {W W' W'' N : xw}
theorem bme_rf : bme W W := ⟨Nat.le_refl _, id⟩
theorem bme_tr (h1 : bme W W') (h2 : bme W' W'') : bme W W'' := ⟨Nat.le_trans h1.1 h2.1, fun h => h2.2 (h1.2 h)⟩
theorem bme_up {p : Nat} {v : Int32} (h : okb W) (hp : ¬ p = 6) (hp2 : p < 270 ∨ 1075 ≤ p) : bme W (upd W p v) := by
  have e6 : upd W p v 6 = W 6 := upd_ne (fun e => hp e.symm)
  refine ⟨by unfold sp_ix; rw [e6]; exact Nat.le_refl _, fun hb => bkw_fr h hb e6 (fun j j1 j2 => upd_ne (by omega))⟩
theorem bme_wr {b e k : Int32} (h : okb W) (h2 : ok2 W) (hk : e = nI 0 → k = nI 0) : bme W (sp_wr W b e k) := by
  unfold sp_wr
  split
  · exact bme_rf
  · rename_i q
    obtain ⟨l, hl, el⟩ := h
    obtain ⟨w, hw, ew⟩ := h2
    have hl2 : l < 200 := by
      rcases Nat.lt_or_ge l 200 with z | z
      · exact z
      · exact absurd (by rw [el, show l = 200 by omega]) q
    have ei : sp_ix W 6 = l := xk_ix el (by omega)
    rw [ei, el, nI_add]
    have e6 : sp_ix (upd (upd (upd (upd (upd W (270 + 4 * l) (W 2)) (270 + 4 * l + 1) b) (270 + 4 * l + 2) e) (270 + 4 * l + 3) k) 6 (nI (l + 1))) 6 = l + 1 := by rw [sp_ix, upd_eq, nI_clamp (by omega)]
    refine ⟨by rw [e6, ei]; omega, fun hb i hi => ?_⟩
    rw [e6] at hi
    by_cases ej : i = l
    · subst ej
      refine ⟨⟨w, hw, ?_⟩, fun z => ?_⟩
      · rw [upd_ne (by omega), upd_ne (by omega), upd_ne (by omega), upd_ne (by omega), upd_eq]; exact ew
      · rw [upd_ne (by omega), upd_ne (by omega), upd_eq] at z
        rw [upd_ne (by omega), upd_eq]; exact hk z
    · have := hb i (by rw [ei]; omega)
      have u : ∀ p, 270 + 4 * i ≤ p → p < 270 + 4 * i + 4 → upd (upd (upd (upd (upd W (270 + 4 * l) (W 2)) (270 + 4 * l + 1) b) (270 + 4 * l + 2) e) (270 + 4 * l + 3) k) 6 (nI (l + 1)) p = W p := fun p p1 p2 => by
        rw [upd_ne (by omega), upd_ne (by omega), upd_ne (by omega), upd_ne (by omega), upd_ne (by omega)]
      rw [u _ (by omega) (by omega), u _ (by omega) (by omega), u _ (by omega) (by omega)]
      exact this
theorem bme_on {b : Nat} {k : Int32} (hb : b < n) (h : ok n ns W) : bme W (sp_on W b k) := by
  have n14 := h.1.2.1
  have u1 := bme_up (W := W) (p := 50 + 14 * b + 4) (v := nI 3) h.2.1 (by omega) (by omega)
  unfold sp_on
  split
  · have h1 := bme_up (p := 50 + 14 * b + 4) (v := nI 3) h.2.1 (by omega) (by omega)
    have k1 := okb_up (p := 50 + 14 * b + 4) (v := nI 3) h.2.1 (by omega)
    have h2 := bme_up (p := 50 + 14 * b + 5) (v := nI 0) k1 (by omega) (by omega)
    have k2 := okb_up (p := 50 + 14 * b + 5) (v := nI 0) k1 (by omega)
    have h3 := bme_up (p := 50 + 14 * b + 6) (v := nI 0) k2 (by omega) (by omega)
    have k3 := okb_up (p := 50 + 14 * b + 6) (v := nI 0) k2 (by omega)
    refine bme_tr h1 (bme_tr h2 (bme_tr h3 (bme_wr k3 (ok2_fr h.2.2.1 ?_) (fun z => absurd z (by decide)))))
    rw [upd_ne (by omega), upd_ne (by omega), upd_ne (by omega)]
  · have h1 := bme_up (p := 50 + 14 * b + 4) (v := nI 2) h.2.1 (by omega) (by omega)
    have k1 := okb_up (p := 50 + 14 * b + 4) (v := nI 2) h.2.1 (by omega)
    have h2 := bme_up (p := 50 + 14 * b + 5) (v := k) k1 (by omega) (by omega)
    have k2 := okb_up (p := 50 + 14 * b + 5) (v := k) k1 (by omega)
    exact bme_tr h1 (bme_tr h2 (bme_up k2 (by omega) (by omega)))
theorem bme_over {b : Nat} (hb : b < n) (h : ok n ns W) : bme W (sp_over W b) := by
  unfold sp_over
  exact bme_tr (bme_wr h.2.1 h.2.2.1 (fun z => absurd z (by decide))) (bme_on hb (ok_wr h))
theorem bme_wt {b e : Nat} (hb : b < n) (he : e < 5) (h : ok n ns W) : bme W (sp_wt W b e) := by
  have n14 := h.1.2.1
  exact bme_up h.2.1 (by omega) (by omega)
theorem bme_goes {b : Nat} {z fr : Int32} (hb : b < n) (h : ok n ns W) : bme W (sp_goes z W N fr b).1 := by
  have n14 := h.1.2.1
  have w : bme W (sp_went W b z) := bme_up h.2.1 (by omega) (by omega)
  unfold sp_goes
  split
  · exact bme_wt hb (by omega) h
  · split
    · exact bme_wt hb (by omega) h
    · dsimp only
      split
      · exact bme_over hb h
      · split
        · exact w
        · exact bme_tr w (bme_over hb (ok_went h hb))
theorem bme_h1 {b : Nat} {z fr : Int32} (hb : b < n) (h : ok n ns W) : bme W (sp_h1 z W N fr b).1 := by
  unfold sp_h1
  split
  · split
    · exact bme_tr (bme_on hb h) (bme_goes hb (ok_on h hb))
    · exact bme_on hb h
  · split
    · exact bme_goes hb h
    · exact bme_rf
theorem bme_hauls {z : Int32} : ∀ (c i : Nat) (W N : xw) (fr : Int32), ok n ns W → i + c = n → bme W (sp_hauls z c i W N fr).1 := by
  intro c
  induction c with
  | zero => intros; exact bme_rf
  | succ c ih =>
    intro i W N fr ho e
    obtain ⟨b, hb, eb, ib⟩ := ok_or ho (show i < n by omega)
    simp only [sp_hauls, ib]
    exact bme_tr (bme_h1 hb ho) (ih (i + 1) _ _ _ (ok_h1 ho hb) (by omega))
theorem bme_flood : ∀ (c i : Nat) (W : xw), ok n ns W → i + c = n → bme W (sp_flood c i W) := by
  intro c
  induction c with
  | zero => intros; exact bme_rf
  | succ c ih =>
    intro i W ho e
    obtain ⟨b, hb, eb, ib⟩ := ok_or ho (show i < n by omega)
    simp only [sp_flood, ib]
    split
    · exact bme_tr (bme_over hb ho) (ih (i + 1) _ (ok_over ho hb) (by omega))
    · exact ih (i + 1) W ho (by omega)
theorem bme_cut {bar : Int32} : ∀ (c i : Nat) (W : xw) (left : Int32), ok n ns W → i + c = n → bme W (sp_cut bar c i W left) := by
  intro c
  induction c with
  | zero => intros; exact bme_rf
  | succ c ih =>
    intro i W left ho e
    obtain ⟨b, hb, eb, ib⟩ := ok_or ho (show i < n by omega)
    have n14 := ho.1.2.1
    simp only [sp_cut, ib]
    split
    · split
      · have h1 := bme_up (p := 50 + 14 * b + 4) (v := nI 1) ho.2.1 (by omega) (by omega)
        have k1 := ok_wh (w := 1) ho hb (by omega) (by omega)
        exact bme_tr (bme_tr h1 (bme_wr k1.2.1 k1.2.2.1 (fun _ => rfl))) (ih (i + 1) _ _ (ok_cut1 ho hb) (by omega))
      · exact ih (i + 1) _ _ ho (by omega)
    · exact bme_rf
theorem bme_lay1 {b : Nat} (hb : b < n) (h : ok n ns W) : bme W (sp_lay1 n W b) := by
  have n14 := h.1.2.1
  unfold sp_lay1
  have h1 : bme W (if sp_lmany W n 0 (nI 0) = nI 0 then upd W 5 (W 2) else W) ∧ okb (if sp_lmany W n 0 (nI 0) = nI 0 then upd W 5 (W 2) else W) ∧ ok2 (if sp_lmany W n 0 (nI 0) = nI 0 then upd W 5 (W 2) else W) := by
    split
    · exact ⟨bme_up h.2.1 (by omega) (by omega), okb_up h.2.1 (by omega), ok2_fr h.2.2.1 (upd_ne (by omega))⟩
    · exact ⟨bme_rf, h.2.1, h.2.2.1⟩
  have h2 := bme_up (p := 50 + 14 * b + 4) (v := nI 4) h1.2.1 (by omega) (by omega)
  exact bme_tr h1.1 (bme_tr h2 (bme_wr (okb_up h1.2.1 (by omega)) (ok2_fr h1.2.2 (upd_ne (by omega))) (fun z => absurd z (by decide))))
theorem bme_lay : ∀ (c i : Nat) (W : xw) (l v : Int32), ok n ns W → i + c = n → bme W (sp_lay n c i W l v).1 := by
  intro c
  induction c with
  | zero => intros; exact bme_rf
  | succ c ih =>
    intro i W l v ho e
    obtain ⟨b, hb, eb, ib⟩ := ok_or ho (show i < n by omega)
    simp only [sp_lay, ib]
    split
    · split
      · exact bme_tr (bme_lay1 hb ho) (ih (i + 1) _ _ _ (ok_lay1 ho hb) (by omega))
      · exact ih (i + 1) _ _ _ ho (by omega)
    · exact bme_rf
theorem bme_wait : ∀ (c b : Nat) (W : xw), ok n ns W → b + c = n → bme W (sp_wait n c b W) := by
  intro c
  induction c with
  | zero => intros; exact bme_rf
  | succ c ih =>
    intro b W ho e
    simp only [sp_wait]
    split
    · have : (if sp_canB n W b = true then if sp_frost W = true then 2 else 3 else 4) < 5 := by
        split
        · split <;> omega
        · omega
      exact bme_tr (bme_wt (show b < n by omega) this ho) (ih (b + 1) _ (ok_wt ho (by omega) this) (by omega))
    · exact ih (b + 1) W ho (by omega)
theorem bme_split : ∀ (c b : Nat) (W : xw), ok n ns W → b + c = n → bme W (sp_split c b W) := by
  intro c
  induction c with
  | zero => intros; exact bme_rf
  | succ c ih =>
    intro b W ho e
    have n14 := ho.1.2.1
    simp only [sp_split]
    split
    · exact ih (b + 1) W ho (by omega)
    · have hd : bme W (sp_draw W) := bme_up ho.2.1 (by omega) (by omega)
      have od := ok_draw ho
      split
      · refine bme_tr hd (bme_tr ?_ (ih (b + 1) _ (ok_split1 od (by omega)) (by omega)))
        unfold sp_split1
        have h1 := bme_up (p := 50 + 14 * b + 4) (v := nI 0) od.2.1 (by omega) (by omega)
        have k1 := okb_up (p := 50 + 14 * b + 4) (v := nI 0) od.2.1 (by omega)
        have h2 := bme_up (p := 50 + 14 * b + 1) (v := xq_rem (sp_draw W (50 + 14 * b + 1) + nI 1) (nI 4)) k1 (by omega) (by omega)
        have k2 := okb_up (p := 50 + 14 * b + 1) (v := xq_rem (sp_draw W (50 + 14 * b + 1) + nI 1) (nI 4)) k1 (by omega)
        exact bme_tr h1 (bme_tr h2 (bme_wr k2 (ok2_fr od.2.2.1 (by rw [upd_ne (by omega), upd_ne (by omega)])) (fun z => absurd z (by decide))))
      · exact bme_tr hd (ih (b + 1) _ od (by omega))
theorem bme_fall : ∀ (c b : Nat) (W : xw), ok n ns W → b + c = n → bme W (sp_fall c b W) := by
  intro c
  induction c with
  | zero => intros; exact bme_rf
  | succ c ih =>
    intro b W ho e
    have n14 := ho.1.2.1
    simp only [sp_fall]
    split
    · have h1 := bme_up (p := 50 + 14 * b + 4) (v := nI 3) ho.2.1 (by omega) (by omega)
      have k1 := ok_wh (w := 3) ho (show b < n by omega) (by omega) (by omega)
      exact bme_tr (bme_tr h1 (bme_wr k1.2.1 k1.2.2.1 (fun z => absurd z (by decide)))) (ih (b + 1) _ (ok_wr k1) (by omega))
    · exact ih (b + 1) W ho (by omega)
theorem bme_falls (ho : ok n ns W) : bme W (sp_falls n W) := by
  unfold sp_falls
  split
  · exact bme_rf
  · have h1 := bme_fall n 0 W ho (by omega)
    have o1 := ok_fall n 0 W ho (by omega)
    have h2 := bme_up (p := 4) (v := sp_fall n 0 W 4 + nI 1) o1.2.1 (by omega) (by omega)
    exact bme_tr h1 (bme_tr h2 (bme_up (okb_up o1.2.1 (by omega)) (by omega) (by omega)))
theorem bme_turn (ho : okb W) : bme W (sp_turn W) := by
  unfold sp_turn
  have h1 := bme_up (p := 2) (v := W 2 + nI 1) ho (by omega) (by omega)
  split
  · exact bme_tr h1 (bme_up (okb_up ho (by omega)) (by omega) (by omega))
  · exact h1
theorem bme_herds {wet : Bool} (ho : okb W) : bme W (sp_herds W wet) := by
  unfold sp_herds
  exact bme_tr (bme_up (p := 11) (v := xq_max (nI 0) (sp_grass W wet - W 10)) ho (by omega) (by omega)) (bme_up (okb_up ho (by omega)) (by omega) (by omega))
theorem bme_we1 {t : Bool} (ho : okb W) : bme W (sp_we1 t W) := by
  unfold sp_we1
  split
  · exact bme_up ho (by omega) (by omega)
  · exact bme_rf
theorem bme_we2 {t : Bool} (ho : okb W) : bme W (sp_we2 t W) := by
  unfold sp_we2
  split
  · exact bme_up ho (by omega) (by omega)
  · exact bme_rf
theorem bme_week {truly : Bool} {bar : Int32} (ho : ok n ns W) : bme W (sp_week truly bar n W).1 := by
  rw [sp_week_eq]
  have h1 := bme_we1 (t := truly) ho.2.1
  have o1 := ok_we1 (t := truly) ho
  have h2 : bme (sp_we1 truly W) (sp_mud (sp_wet truly W) (sp_we1 truly W)) := bme_up o1.2.1 (by omega) (by omega)
  have o2 := ok_mud (t := sp_wet truly W) o1
  generalize sp_mud (sp_wet truly W) (sp_we1 truly W) = W2 at *
  have h3 := bme_we2 (t := truly) o2.2.1
  have o3 := ok_we2 (t := truly) o2
  generalize sp_fld truly W2 = flood
  generalize sp_wet truly W = wet
  refine bme_tr h1 (bme_tr h2 (bme_tr h3 ?_))
  generalize sp_we2 truly W2 = W3 at *
  unfold sp_wk2
  dsimp only
  have h4 := bme_herds (wet := wet) o3.2.1
  have o4 := ok_herds (wet := wet) o3
  refine bme_tr h4 ?_
  generalize sp_herds W3 wet = W4 at *
  have h5 := bme_cut (bar := bar) n 0 W4 (W4 13) o4 (by omega)
  have o5 := ok_cut (bar := bar) n 0 W4 (W4 13) o4 (by omega)
  refine bme_tr h5 ?_
  generalize sp_cut bar n 0 W4 (W4 13) = W5 at *
  have o6 := ok_haulw (wet := wet) (flood := flood) o5
  have h6 : bme W5 (sp_haulw n wet flood W5) := by
    unfold sp_haulw
    have a := bme_hauls (z := sp_b2 wet) n 0 W5 (fun _ => nI 0) (W5 10) o5 (by omega)
    split
    · exact bme_tr a (bme_flood n 0 _ (ok_hauls n 0 _ _ _ o5 (by omega)) (by omega))
    · exact a
  refine bme_tr h6 ?_
  generalize sp_haulw n wet flood W5 = W6 at *
  have o7 := ok_lays o6
  have h7 : bme W6 (sp_lays n W6).1 := bme_tr (bme_lay n 0 W6 _ _ o6 (by omega)) (bme_wait n 0 _ (ok_lay n 0 W6 _ _ o6 (by omega)) (by omega))
  refine bme_tr h7 ?_
  generalize (sp_lays n W6).1 = W7 at *
  unfold sp_end
  have go : ∀ W8 : xw, ok n ns W8 → bme W8 (sp_turn (sp_falls n W8)) := fun W8 o8 => bme_tr (bme_falls o8) (bme_turn (ok_falls o8).2.1)
  split
  · exact bme_tr (bme_split n 0 W7 o7 (by omega)) (go _ (ok_split n 0 W7 o7 (by omega)))
  · exact go _ o7
end xk_bm
