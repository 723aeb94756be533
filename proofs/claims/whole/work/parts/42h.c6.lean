/-! the class: a week -/
section yk_c6
variable {d : Nat} {g : xq_V} {J : Nat → Nat → Int64} {I : Nat → Nat → Int32} {Q : Option Value → xq_S → Prop} {q : Bool} {n ns : Nat} {R R' : Nat → xw} {W W' : xw}
theorem CR_num (ho : ok n ns W) (h : CR q n ns I R W) (eW : ∀ p, ¬ p = 2 → ¬ p = 3 → ¬ (10 ≤ p ∧ p < 22) → W' p = W p) (eR : ∀ i, (2 ≤ i ∧ i < 9) ∨ (11 ≤ i ∧ i < 16) → R' i = R i) (e9 : R' 9 4 = R 9 4) (e0 : ∀ j, ¬ j = 9 → ¬ j = 10 → R' 0 j = R 0 j) (h9 : R' 0 9 = W' 3) (h10 : R' 0 10 = W' 2) (h1 : cT1 R' W') : CR q n ns I R' W' := by
  have n14 := ho.1.2.1
  have h0 := CR_0 h
  refine CR_oth (F := fun p => p = 2 ∨ p = 3 ∨ (10 ≤ p ∧ p < 22)) ho h (fun p hp => eW p (fun z => hp (Or.inl z)) (fun z => hp (Or.inr (Or.inl z))) (fun z => hp (Or.inr (Or.inr z)))) (fun p hp => by omega) (eR _ (by omega)) (eR _ (by omega)) (eR _ (by omega)) (eR _ (by omega)) e9 (eR _ (by omega)) (eR _ (by omega)) (eR _ (by omega)) (eR _ (by omega)) (eR _ (by omega)) ⟨e0 _ (by omega) (by omega), e0 _ (by omega) (by omega)⟩ ⟨h10, h9, ?_, ?_, ?_⟩ h1 (fun i hi => ?_) (fun b' hb' => ?_) (fun hq b' k hb' hk => ?_)
  · rw [e0 _ (by omega) (by omega), eW _ (by omega) (by omega) (by omega)]; exact h0.2.2.1
  · rw [e0 _ (by omega) (by omega), eW _ (by omega) (by omega) (by omega)]; exact h0.2.2.2.1
  · rw [e0 _ (by omega) (by omega), eW _ (by omega) (by omega) (by omega)]; exact h0.2.2.2.2
  · rw [eR _ (by omega), eW _ (by omega) (by omega) (by omega)]; exact CR_2 h i hi
  · rw [eR _ (by omega), eW _ (by omega) (by omega) (by omega)]; exact CR_7 h b' hb'
  · rw [eR _ (by omega), eW _ (by omega) (by omega) (by omega)]; exact CR_8 h hq b' k hb' hk
theorem CR_mud {v : Int32} (ho : ok n ns W) (h : CR q n ns I R W) : CR q n ns I (xq_w R 0 9 v) (upd W 3 v) :=
  CR_num ho h (fun p p1 p2 p3 => upd_ne p2) (fun i hi => xw_i (by omega)) (by rw [xw_i (by omega)]) (fun j j1 j2 => xw_x j1) (by rw [xw_v, upd_eq]) (by rw [xw_x (by omega), upd_ne (by omega)]; exact (CR_0 h).1) (fun i hi => by rw [xw_i (by omega), upd_ne (by omega)]; exact CR_1 h i hi)
theorem CR_r9 {j : Nat} {v : Int32} (h : CR q n ns I R W) (hj : ¬ j = 4) : CR q n ns I (xq_w R 9 j v) W :=
  CR_scr h (fun i hi => xw_i (by omega)) (xw_x (by omega))
theorem CR_real (h : CR q n ns I R W) : R 9 4 = sp_b2 q := h.2.2.1
/-- the weather's second half -/
theorem yl_73_59 (ho : ok n ns W) (h : CR q n ns I R W) (hp : ∀ R', CR q n ns I R' (sp_we2 q W) → R' 9 8 = sp_b2 (sp_fld q W) → (∀ j, ¬ j = 8 → R' 9 j = R 9 j) → Q none (xq_s g J (xc q I R'))) : xq_wp (d + 1) 73 (xq_s g J (xc q I R)) 59 [.ref (xid q 9), .ref (xid q 1)] [] Q := by
  have e17 : R 1 7 = W 17 := CR_1 h 7 (by omega)
  unfold sp_we2 sp_fld at hp
  refine yu_73_59 ⟨fun z => ?_, fun z => ⟨fun z2 => ?_, fun z2 => ?_⟩⟩
  · rw [CR_real h, sp_b20] at z
    subst z
    refine hp _ ?_ (by rw [xw_v]; rfl) (fun j hj => xw_x hj)
    rw [if_neg (fun y => by cases y.1)]
    exact CR_r9 h (by omega)
  · rw [CR_real h] at z
    have z := sp_b21 z
    rw [e17] at z2
    intro dv ds ed es
    rw [(CR_dr h).1] at ed
    rw [(CR_dr h).2] at es
    rw [if_pos ⟨z, z2⟩] at hp
    have C1 := CR_drw ho h ed
    simp only [z, z2, decide_true, Bool.true_and] at hp
    rw [z] at C1 ⊢
    rw [es, e17]
    refine ⟨fun y => ?_, fun y => ?_⟩
    · refine hp _ (CR_r9 C1 (by omega)) ?_ (fun j hj => by rw [xw_x hj, xw_i (by omega)])
      rw [xw_v, decide_eq_true y]; rfl
    · refine hp _ (CR_r9 C1 (by omega)) ?_ (fun j hj => by rw [xw_x hj, xw_i (by omega)])
      rw [xw_v, decide_eq_false y]; rfl
  · rw [e17] at z2
    refine hp _ ?_ ?_ (fun j hj => xw_x hj)
    · rw [if_neg (fun y => z2 y.2)]; exact CR_r9 h (by omega)
    · rw [xw_v, decide_eq_false z2]; simp [sp_b2]
theorem sp_mud_eq {wet : Bool} {m : Int32} (e : m = W 3) (v : Int32) (hv : v = if wet then xq_min (nI 9) (m + nI 2) else xq_max (nI 0) (m - nI 1)) : sp_mud wet W = upd W 3 v := by
  subst e hv; rfl
theorem yl_73 (ho : ok n ns W) (h : CR q n ns I R W) (hp : ∀ R', CR q n ns I R' (sp_we2 q (sp_mud (sp_wet q W) (sp_we1 q W))) → R' 9 7 = sp_b2 (sp_wet q W) → R' 9 8 = sp_b2 (sp_fld q (sp_mud (sp_wet q W) (sp_we1 q W))) → (∀ j, ¬ j = 7 → ¬ j = 8 → R' 9 j = R 9 j) → Q none (xq_s g J (xc q I R'))) : xq_wp (d + 2) 73 (xq_s g J (xc q I R)) 0 [.ref (xid q 9), xq_un] [] Q := by
  have e16 : R 1 6 = W 16 := CR_1 h 6 (by omega)
  have e3 : R 0 9 = W 3 := (CR_0 h).2.1
  -- the first half done
  have go : ∀ (wet : Bool) (R1 : Nat → xw) (W1 : xw) (v : Int32), wet = sp_wet q W → W1 = sp_we1 q W → ok n ns W1 → CR q n ns I R1 W1 → R1 9 = R 9 → W1 3 = R 0 9 → v = (if wet then xq_min (nI 9) (R 0 9 + nI 2) else xq_max (nI 0) (R 0 9 - nI 1)) → xq_wp (d + 2) 73 (xq_s g J (xc q I (xq_w (xq_w R1 9 7 (sp_b2 wet)) 0 9 v))) 59 [.ref (xid q 9), .ref (xid q 1)] [] Q := by
    intro wet R1 W1 v e1 e2 ho1 h1 r9 e4 ev
    have em : sp_mud wet W1 = upd W1 3 v := sp_mud_eq e4.symm v ev
    rw [← e1, ← e2, em] at hp
    refine yl_73_59 (W := upd W1 3 v) (by rw [← em]; exact ok_mud ho1) (CR_mud ho1 (CR_r9 h1 (by omega))) (fun R' C' r8 r => hp R' C' ?_ r8 (fun j j1 j2 => ?_))
    · rw [r 7 (by omega), xw_i (by omega), xw_v]
    · rw [r j j2, xw_i (by omega), xw_x j1, r9]
  refine yu_73 ⟨fun z => ?_, fun z => ⟨fun z2 => ?_, fun z2 => ?_⟩⟩
  · rw [CR_real h, sp_b20] at z
    have k := go false R W (xq_max (nI 0) (R 0 9 - nI 1)) (by rw [z]; rfl) (by rw [z, sp_we1, if_neg (fun y => by cases y.1)]) ho h rfl e3.symm rfl
    exact k
  · rw [CR_real h] at z
    have z := sp_b21 z
    rw [e16] at z2
    intro dv ds ed es
    rw [(CR_dr h).1] at ed
    rw [(CR_dr h).2] at es
    have C1 := CR_drw ho h ed
    have eu : sp_draw W = sp_we1 q W := by rw [sp_we1, if_pos ⟨z, z2⟩]
    rw [es, e16]
    refine ⟨fun y => ?_, fun y => ?_⟩
    · exact go true (xq_w R 0 8 dv) (sp_draw W) _ (by rw [sp_wet, z, decide_eq_true z2, decide_eq_true y]; rfl) eu (ok_draw ho) C1 (xw_i (by omega)) (by rw [sp_draw, upd_ne (by omega)]; exact e3.symm) rfl
    · exact go false (xq_w R 0 8 dv) (sp_draw W) _ (by rw [sp_wet, z, decide_eq_true z2, decide_eq_false y]; rfl) eu (ok_draw ho) C1 (xw_i (by omega)) (by rw [sp_draw, upd_ne (by omega)]; exact e3.symm) rfl
  · rw [e16] at z2
    exact go false R W _ (by rw [sp_wet, decide_eq_false z2]; simp) (by rw [sp_we1, if_neg (fun y => z2 y.2)]) ho h rfl e3.symm rfl
theorem one_mulI (x : Int32) : nI 1 * x = x := Int32.one_mul x
theorem CR_herds {wet : Bool} {a b : Int32} (ho : ok n ns W) (h : CR q n ns I R W) (ea : a = xq_max (nI 0) (sp_grass W wet - W 10)) (eb : b = W 10 - (xq_max (nI 0) (W 10 - sp_grass W wet) + nI 1) / nI 2) : CR q n ns I (xq_w (xq_w R 1 1 a) 1 0 b) (sp_herds W wet) := by
  refine CR_num ho h (fun p p1 p2 p3 => ?_) (fun i hi => by rw [xw_i (by omega), xw_i (by omega)]) (by rw [xw_i (by omega), xw_i (by omega)]) (fun j j1 j2 => by rw [xw_i (by omega), xw_i (by omega)]) ?_ ?_ (fun i hi => ?_)
  · exact stp_herds (by omega) (by omega)
  · rw [xw_i (by omega), xw_i (by omega), stp_herds (by omega) (by omega)]; exact (CR_0 h).2.1
  · rw [xw_i (by omega), xw_i (by omega), stp_herds (by omega) (by omega)]; exact (CR_0 h).1
  · by_cases e0 : i = 0
    · subst e0; rw [xw_v, sp_herds, upd_eq, eb]
    · rw [xw_x e0]
      by_cases e1 : i = 1
      · subst e1; rw [xw_v, sp_herds, upd_ne (by omega), upd_eq, ea]
      · rw [xw_x e1, stp_herds (by omega) (by omega)]; exact CR_1 h i hi
theorem yl_76 {wet : Bool} (ho : ok n ns W) (h : CR q n ns I R W) (hp : ∀ R', CR q n ns I R' (sp_herds W wet) → R' 9 = R 9 → Q none (xq_s g J (xc q I R'))) : xq_wp (d + 1) 76 (xq_s g J (xc q I R)) 0 [.ref (xid q 0), .int (sp_b2 wet), xq_un, xq_un] [] Q := by
  have e0 : R 1 0 = W 10 := CR_1 h 0 (by omega)
  have e1 : R 1 1 = W 11 := CR_1 h 1 (by omega)
  have e2 : R 1 2 = W 12 := CR_1 h 2 (by omega)
  refine yu_76 ⟨fun z => hp _ (CR_herds ho h ?_ ?_) (by rw [xw_i (by omega), xw_i (by omega)]), fun z => hp _ (CR_herds ho h ?_ ?_) (by rw [xw_i (by omega), xw_i (by omega)])⟩
  · rw [sp_b20] at z; rw [e0, e1, e2, sp_grass, z]; simp only [Bool.false_eq_true, if_false, one_mulI]
  · rw [sp_b20] at z; rw [e0, e1, e2, sp_grass, z]; simp only [Bool.false_eq_true, if_false, one_mulI]
  · have z := sp_b21 z; rw [e0, e1, e2, sp_grass, z]; rfl
  · have z := sp_b21 z; rw [e0, e1, e2, sp_grass, z]; rfl
theorem yl_98 (ho : ok n ns W) (h : CR q n ns I R W) (hp : ∀ R', CR q n ns I R' (sp_turn W) → R' 9 = R 9 → Q none (xq_s g J (xc q I R'))) : xq_wp (d + 1) 98 (xq_s g J (xc q I R)) 0 [.ref (xid q 0)] [] Q := by
  have e0 : R 1 0 = W 10 := CR_1 h 0 (by omega)
  have e2 : R 0 10 = W 2 := (CR_0 h).1
  unfold sp_turn at hp
  refine yu_98 ⟨fun z => ?_, fun z => ?_⟩
  · rw [e2] at z
    rw [if_pos z] at hp
    refine hp _ (CR_num ho h (fun p p1 p2 p3 => by rw [upd_ne (by omega), upd_ne p1]) (fun i hi => by rw [xw_i (by omega), xw_i (by omega)]) (by rw [xw_i (by omega), xw_i (by omega)]) (fun j j1 j2 => by rw [xw_i (by omega), xw_x j2]) ?_ ?_ (fun i hi => ?_)) (by rw [xw_i (by omega), xw_i (by omega)])
    · rw [xw_i (by omega), xw_x (by omega), upd_ne (by omega), upd_ne (by omega)]; exact (CR_0 h).2.1
    · rw [xw_i (by omega), xw_v, upd_ne (by omega), upd_eq, e2]
    · by_cases ei : i = 0
      · subst ei; rw [xw_v, upd_eq, e0]
      · rw [xw_x ei, xw_i (by omega), upd_ne (by omega), upd_ne (by omega)]; exact CR_1 h i hi
  · rw [e2] at z
    rw [if_neg z] at hp
    refine hp _ (CR_num ho h (fun p p1 p2 p3 => upd_ne p1) (fun i hi => xw_i (by omega)) (by rw [xw_i (by omega)]) (fun j j1 j2 => xw_x j2) ?_ ?_ (fun i hi => ?_)) (xw_i (by omega))
    · rw [xw_x (by omega), upd_ne (by omega)]; exact (CR_0 h).2.1
    · rw [xw_v, upd_eq, e2]
    · rw [xw_i (by omega), upd_ne (by omega)]; exact CR_1 h i hi
/-! who is laid at a week's end -/
theorem lm_cg : ∀ c, (∀ x, x < c → (W' (50 + 14 * x + 4) = nI 4 ↔ W (50 + 14 * x + 4) = nI 4)) → lmN W' c = lmN W c
  | 0, _ => rfl
  | c + 1, h => by
    have := lm_cg c (fun x hx => h x (by omega))
    unfold lmN
    simp only [this, h c (by omega)]
theorem wait_4 {x : Nat} : ∀ (c b : Nat) (W : xw), sp_wait n c b W (50 + 14 * x + 4) = W (50 + 14 * x + 4)
  | 0, _, _ => rfl
  | c + 1, b, W => by
    simp only [sp_wait]
    rw [wait_4 c (b + 1)]
    split
    · unfold sp_wt
      rw [upd_ne]
      split
      · split <;> omega
      · omega
    · rfl
theorem split_4 {x : Nat} (hx : x < n) : ∀ (c b : Nat) (W : xw), ok n ns W → b + c = n → (sp_split c b W (50 + 14 * x + 4) = nI 4 ↔ W (50 + 14 * x + 4) = nI 4)
  | 0, _, _, _, _ => Iff.rfl
  | c + 1, b, W, ho, e => by
    have n14 := ho.1.2.1
    simp only [sp_split]
    split
    · exact split_4 hx c (b + 1) W ho (by omega)
    · rename_i z
      split
      · rw [split_4 hx c (b + 1) _ (ok_split1 (ok_draw ho) (by omega)) (by omega)]
        unfold sp_split1
        rw [wr_ne (okb_up (okb_up (ok_draw ho).2.1 (by omega)) (by omega)) (by omega) (by omega), upd_ne (by omega)]
        by_cases ex : x = b
        · subst ex
          rw [upd_eq]
          exact ⟨fun y => absurd y (by decide), fun y => absurd (Or.inr y) z⟩
        · rw [upd_ne (by omega), sp_draw, upd_ne (by omega)]
      · rw [split_4 hx c (b + 1) _ (ok_draw ho) (by omega), sp_draw, upd_ne (by omega)]
theorem falls_4 (ho : ok n ns W) (hn : 0 < n) : lmN (sp_falls n W) n = n ↔ lmN W n = n := by
  have n14 := ho.1.2.1
  have hle := lmN_le (W := W) n
  unfold sp_falls
  split
  · exact Iff.rfl
  · rename_i z
    have h1 : ¬ lmN W n = n := fun y => z (Or.inr (Or.inl (by rw [lmany_N, y, ho.1.1])))
    have h2 := lmN_none (W := upd (upd (sp_fall n 0 W) 4 (sp_fall n 0 W 4 + nI 1)) 5 (Int32.ofInt (-1))) n (fun x hx => by
      rw [upd_ne (by omega), upd_ne (by omega), fall_val hx n 0 W ho (by omega)]
      split
      · decide
      · rename_i w; exact fun w2 => w ⟨by omega, w2⟩)
    rw [h2.1]
    exact ⟨fun y => by omega, fun y => absurd y h1⟩
theorem end_4 {wet : Bool} (ho : ok n ns W) (hn : 0 < n) : lmN (sp_end n wet W) n = n ↔ lmN W n = n := by
  unfold sp_end
  have ht : ∀ V : xw, lmN (sp_turn V) n = lmN V n := fun V => lm_cg n (fun x hx => by rw [stp_turn (by omega) (by omega)])
  rw [ht]
  split
  · rw [falls_4 (ok_split n 0 W ho (by omega)) hn, lm_cg n (fun x hx => split_4 hx n 0 W ho (by omega))]
  · exact falls_4 ho hn
/-- a week of the class is a week of the row -/
theorem yl_72 {bar : Int32} (ho : ok n ns W) (h : CR q n ns I R W) (hbar : ∀ b, b < n → (nI b = bar ↔ nI b = R 9 10 ∧ W 2 < R 9 11)) (hp : ∀ (R' : Nat → xw) (v : Nat), v ≤ 9 → (sp_week q bar n W).2 = nI v → CR q n ns I R' (sp_week q bar n W).1 → R' 9 10 = R 9 10 → R' 9 11 = R 9 11 → R' 9 9 = (if 0 < v ∧ lmN (sp_week q bar n W).1 n = n then W 2 else R 9 9) → Q (some (.int (nI v))) (xq_s g J (xc q I R'))) : xq_wp (d + 4) 72 (xq_s g J (xc q I R)) 0 [.ref (xid q 9), xq_un, xq_un] [] Q := by
  rw [sp_week_eq] at hp
  refine yu_72 (yl_73 (d := d + 1) ho h (fun R1 C1 r17 r18 r1 => ?_))
  generalize ew : sp_wet q W = wet at *
  have ho1 : ok n ns (sp_we2 q (sp_mud wet (sp_we1 q W))) := ok_we2 (ok_mud (ok_we1 ho))
  have w1 : sp_we2 q (sp_mud wet (sp_we1 q W)) 2 = W 2 := by
    rw [st2_we2 (Or.inr (Or.inl rfl)), sp_mud, upd_ne (by omega), st2_we1 (Or.inr (Or.inl rfl))]
  generalize sp_fld q (sp_mud wet (sp_we1 q W)) = flood at *
  generalize sp_we2 q (sp_mud wet (sp_we1 q W)) = W1 at *
  unfold sp_wk2 at hp
  refine yu_72_4 ?_
  rw [r17]
  refine yl_76 (d := d + 2) ho1 C1 (fun R2 C2 r2 => ?_)
  have ho2 := ok_herds (wet := wet) ho1
  have w2 : sp_herds W1 wet 2 = W 2 := by rw [stp_herds (by omega) (by omega), w1]
  generalize sp_herds W1 wet = W2 at *
  refine yu_72_15 (yl_77 (bar := bar) (d := d + 2) ho2 C2 (fun b hb => ?_) (fun R3 C3 r3 => ?_))
  · rw [r2, r1 10 (by omega) (by omega), r1 11 (by omega) (by omega), w2]; exact hbar b hb
  have ho3 : ok n ns (sp_cut bar n 0 W2 (W2 13)) := ok_cut n 0 W2 _ ho2 (by omega)
  have w3 : sp_cut bar n 0 W2 (W2 13) 2 = W 2 := by rw [st2_cut (Or.inr (Or.inl rfl)) n 0 W2 _ ho2 (by omega), w2]
  generalize sp_cut bar n 0 W2 (W2 13) = W3 at *
  refine yu_72_19 (yl_80 (d := d) (wet := wet) ho3 C3 (by rw [r3, r2, r17]) (fun R4 C4 r4 => ?_))
  have ho4 : ok n ns (sp_hauls (sp_b2 wet) n 0 W3 (fun _ => nI 0) (W3 10)).1 := ok_hauls n 0 W3 _ _ ho3 (by omega)
  refine yu_72_23 (yl_87 (d := d + 1) (flood := flood) ho4 C4 (by rw [r4 8 (by omega), r3, r2, r18]) (fun R5 C5 r5 => ?_))
  have ho5 : ok n ns (sp_haulw n wet flood W3) := ok_haulw ho3
  have w5 : sp_haulw n wet flood W3 2 = W 2 := by rw [st2_haulw ho3 (Or.inr (Or.inl rfl)), w3]
  have C5 : CR q n ns I R5 (sp_haulw n wet flood W3) := C5
  generalize sp_haulw n wet flood W3 = W5 at *
  have r59 : ∀ j, ¬ j = 6 → ¬ j = 7 → ¬ j = 8 → R5 9 j = R 9 j := fun j j6 j7 j8 => by rw [r5, r4 j j6, r3, r2, r1 j j7 j8]
  have r57 : R5 9 7 = sp_b2 wet := by rw [r5, r4 7 (by omega), r3, r2, r17]
  -- behind the laying
  have fin : ∀ (R6 : Nat → xw) (W6 : xw) (v : Nat) (u2 : Value), v ≤ 9 → ok n ns W6 → CR q n ns I R6 W6 → R6 9 = R5 9 → W6 2 = W 2 → sp_frost W6 = sp_frost W5 → (sp_lays n W5).2 = nI v → (sp_lays n W5).1 = sp_wait n n 0 W6 → xq_wp (d + 4) 72 (xq_s g J (xc q I R6)) 47 [.ref (xid q 9), .int (sp_b2 (sp_frost W5)), u2] [.int (nI v)] Q := by
    intro R6 W6 v u2 hv ho6 C6 r6 w6 f6 ev eL
    rw [eL, ev] at hp
    have e4 : lmN (sp_wait n n 0 W6) n = lmN W6 n := lm_cg n (fun x hx => by rw [wait_4])
    have hoW := ok_wait n 0 W6 ho6 (by omega)
    -- behind closedIn
    have fin2 : ∀ R7 : Nat → xw, CR q n ns I R7 W6 → R7 9 9 = (if 0 < v ∧ lmN W6 n = n then W 2 else R 9 9) → R7 9 10 = R 9 10 → R7 9 11 = R 9 11 → R7 9 7 = sp_b2 wet → xq_wp (d + 4) 72 (xq_s g J (xc q I R7)) 70 [.ref (xid q 9), .int (sp_b2 (sp_frost W5)), .int (nI v)] [] Q := by
      intro R7 C7 k9 k10 k11 k7
      have fin3 : ∀ R8 : Nat → xw, CR q n ns I R8 (sp_wait n n 0 W6) → R8 9 = R7 9 → xq_wp (d + 4) 72 (xq_s g J (xc q I R8)) 90 [.ref (xid q 9), .int (sp_b2 (sp_frost W5)), .int (nI v)] [] Q := by
        intro R8 C8 r8
        have eF : sp_frost (sp_wait n n 0 W6) = sp_frost W5 := by
          rw [← f6]
          unfold sp_frost
          rw [st2_wait (Or.inr (Or.inl rfl)) n 0 W6 ho6 (by omega), st2_wait (by unfold st2 stp; omega) n 0 W6 ho6 (by omega)]
        have e18 : R8 1 8 = sp_wait n n 0 W6 18 := CR_1 C8 8 (by omega)
        have fin4 : ∀ (R9 : Nat → xw) (W9 : xw), ok n ns W9 → CR q n ns I R9 W9 → R9 9 = R7 9 → W9 = (if wet = true ∧ sp_frost (sp_wait n n 0 W6) = true ∧ nI 0 < sp_wait n n 0 W6 18 then sp_split n 0 (sp_wait n n 0 W6) else sp_wait n n 0 W6) → xq_wp (d + 4) 72 (xq_s g J (xc q I R9)) 118 [.ref (xid q 9), .int (sp_b2 (sp_frost W5)), .int (nI v)] [] Q := by
          intro R9 W9 ho9 C9 r9 e9
          refine yu_72_118 (yl_97 (d := d + 1) ho9 C9 (fun R10 C10 r10 => ?_))
          refine yu_72_122 (yl_98 (d := d + 2) (ok_falls ho9) C10 (fun R11 C11 r11 => ?_))
          have ee : sp_turn (sp_falls n W9) = sp_end n wet (sp_wait n n 0 W6) := by rw [sp_end, ← e9]
          rw [ee] at C11
          have key := hp R11 v hv rfl C11 (by rw [r11, r10, r9, k10]) (by rw [r11, r10, r9, k11]) (by
            rw [r11, r10, r9, k9]
            by_cases hn0 : 0 < n
            · simp only [end_4 hoW hn0, e4]
            · have n0 : n = 0 := by omega
              subst n0
              rfl)
          cases q
          · exact xq_wp.ret (k := 2) (fun F => rfl) key
          · exact xq_wp.ret (k := 2) (fun F => rfl) key
        refine yu_72_90 ⟨fun z => ?_, fun z => ⟨fun z2 => ?_, fun z2 => ⟨fun z3 => ?_, fun z3 => ?_⟩⟩⟩
        · rw [sp_b20] at z
          exact fin4 R8 _ hoW C8 r8 (by rw [if_neg (fun y => by rw [eF, z] at y; cases y.2.1)])
        · rw [r8, k7, sp_b20] at z2
          exact fin4 R8 _ hoW C8 r8 (by rw [if_neg (fun y => by rw [z2] at y; cases y.1)])
        · rw [r8, k7] at z2
          rw [e18] at z3
          refine yl_96 (d := d + 2) hoW C8 (fun R9 C9 r9 => ?_)
          exact fin4 R9 _ (ok_split n 0 _ hoW (by omega)) C9 (by rw [r9, r8]) (by rw [if_pos ⟨sp_b21 z2, by rw [eF]; exact sp_b21 z, z3⟩])
        · rw [e18] at z3
          exact fin4 R8 _ hoW C8 r8 (by rw [if_neg (fun y => z3 y.2.2)])
      refine yu_72_70 ⟨fun z => ?_, fun z => ⟨fun z2 => ?_, fun z2 => ?_⟩⟩
      · rw [CR_real C7, sp_b20] at z
        subst z
        exact fin3 R7 (CR_waitF n 0 W6 ho6 C7 (by omega)) rfl
      · rw [sp_b20] at z2
        exact yl_95 (e := 3) (d := d + 1) ho6 C7 (by rw [f6, z2]; rfl) (fun R8 C8 r8 => fin3 R8 C8 r8)
      · exact yl_95 (e := 2) (d := d + 1) ho6 C7 (by rw [f6, sp_b21 z2]; rfl) (fun R8 C8 r8 => fin3 R8 C8 r8)
    have q9 : ∀ j, ¬ j = 6 → ¬ j = 7 → ¬ j = 8 → R6 9 j = R 9 j := fun j j6 j7 j8 => by rw [r6, r59 j j6 j7 j8]
    have eA := CR_all ho6 C6
    rw [lmany_N] at eA
    have lmle := lmN_le (W := W6) n
    have n14 := ho.1.2.1
    refine yu_72_47 ⟨by omega, fun z => ⟨fun z2 => ?_, fun z2 => ?_⟩, fun z => ?_⟩
    · rw [eA, sp_b20, decide_eq_false_iff_not, xn_eq (by omega) (by omega)] at z2
      exact fin2 R6 C6 (by rw [if_neg (fun y => z2 y.2), q9 9 (by omega) (by omega) (by omega)]) (q9 10 (by omega) (by omega) (by omega)) (q9 11 (by omega) (by omega) (by omega)) (by rw [r6, r57])
    · rw [eA] at z2
      have z2 := sp_b21 z2
      rw [decide_eq_true_eq, xn_eq (by omega) (by omega)] at z2
      exact fin2 _ (CR_r9 C6 (by omega)) (by rw [xw_v, if_pos ⟨z, z2⟩, (CR_0 C6).1, w6]) (by rw [xw_x (by omega)]; exact q9 10 (by omega) (by omega) (by omega)) (by rw [xw_x (by omega)]; exact q9 11 (by omega) (by omega) (by omega)) (by rw [xw_x (by omega), r6, r57])
    · exact fin2 R6 C6 (by rw [if_neg (fun y => z y.1), q9 9 (by omega) (by omega) (by omega)]) (q9 10 (by omega) (by omega) (by omega)) (q9 11 (by omega) (by omega) (by omega)) (by rw [r6, r57])
  have eF := CR_fro C5
  refine yu_72_27 ⟨fun z => ?_, fun z => ?_⟩
  · rw [eF] at z ⊢
    have z' := sp_b20.mp z
    refine yl_89 (d := d + 1) ho5 C5 (fun R6 v hv ev C6 r6 => ?_)
    have hoL : ok n ns (sp_lay n n 0 W5 (W5 14) (nI 0)).1 := ok_lay n 0 W5 _ _ ho5 (by omega)
    refine fin R6 _ v _ hv hoL C6 r6 (by rw [st2_lay (Or.inr (Or.inl rfl)) n 0 W5 _ _ ho5 (by omega), w5]) ?_ ?_ ?_
    · unfold sp_frost
      rw [st2_lay (Or.inr (Or.inl rfl)) n 0 W5 _ _ ho5 (by omega), st2_lay (by unfold st2 stp; omega) n 0 W5 _ _ ho5 (by omega)]
    · rw [sp_lays, z']; exact ev
    · rw [sp_lays, z']; rfl
  · rw [eF] at z ⊢
    have z' := sp_b21 z
    have e0 : ∀ c i, sp_lay n c i W5 (nI 0) (nI 0) = (W5, nI 0) := by
      intro c i
      cases c with
      | zero => rfl
      | succ c => simp only [sp_lay]; rw [if_neg (by decide)]
    refine fin R5 W5 0 _ (by omega) ho5 C5 rfl w5 rfl ?_ ?_
    · rw [sp_lays, z']; simp only [if_true, e0]
    · rw [sp_lays, z']; simp only [if_true, e0]
end yk_c6
