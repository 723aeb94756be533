/-! the class's thoughts: the herd, help -/
section yk_ans2
variable {d : Nat} {g : xq_V} {J : Nat → Nat → Int64} {I I' : Nat → Nat → Int32} {Q : Option Value → xq_S → Prop} {q : Bool} {n ns : Nat} {R R' : Nat → xw} {W W' V : xw} {last blk wk : Int32} {idle b k : Nat}
theorem e5_wk {bar : Int32} (ho : ok n ns V) (h : e5 W V) : e5 (sp_turn (th_H W)) (sp_week false bar n V).1 := by
  obtain ⟨h2, h3, h10, h11, h12⟩ := h
  have m : ∀ (U : xw) p, ¬ p = 3 → sp_mud false U p = U p := fun U p hp => upd_ne hp
  have hh := herds_cg (W := sp_mud false V) (W' := sp_mud false W) (by rw [m _ _ (by omega), m _ _ (by omega), h10]) (by rw [m _ _ (by omega), m _ _ (by omega), h11]) (by rw [m _ _ (by omega), m _ _ (by omega), h12])
  have t2 : th_H W 2 = th_H V 2 := by rw [H_fr (by omega) (by omega) (by omega), H_fr (by omega) (by omega) (by omega), h2]
  have t12 : th_H W 12 = th_H V 12 := by rw [H_fr (by omega) (by omega) (by omega), H_fr (by omega) (by omega) (by omega), h12]
  have t10 : th_H W 10 = th_H V 10 := hh.1
  have t11 : th_H W 11 = th_H V 11 := hh.2
  have t3 : th_H W 3 = th_H V 3 := by
    rw [th_H, stp_herds (by omega) (by omega), th_H, stp_herds (by omega) (by omega), sp_mud, upd_eq, sp_mud, upd_eq, h3]
  have k : ∀ p, st2 p → th_H W p = th_H V p → sp_turn (th_H W) p = (sp_week false bar n V).1 p := by
    intro p hp e
    rw [th_wkU]
    refine turn_cg ?_ ?_ ?_
    · rw [X_st2 ho (by unfold st2; omega)]; exact t2
    · rw [X_st2 ho (by unfold st2; omega)]; exact t10
    · rw [X_st2 ho hp]; exact e
  exact ⟨k 2 (by unfold st2; omega) t2, k 3 (by unfold st2; omega) t3, k 10 (by unfold st2; omega) t10, k 11 (by unfold st2; omega) t11, k 12 (by unfold st2 stp; omega) t12⟩
theorem yl_146_6 {m ve : Nat} (hm : m ≤ 100) (hv : ve < 3) : ∀ (c k kw : Nat) (R : Nat → xw) (W V : xw), ok n ns W → ok n ns V → CR false n ns I R W → e5 W V → W 2 = nI kw → kw + c ≤ 19500 → k + c = m → (∀ R' : Nat → xw, tk R' → R' 9 = R 9 → Q (some (.int (if ve = 2 then th_wks n c V 3 else th_wks n c V (10 + ve)))) (xq_s g J (xc false I R'))) → xq_wp (d + 2) 146 (xq_s g J (xc false I R)) 6 [.ref 34, .int (nI m), .int (nI ve), .int (nI k)] [] Q := by
  intro c
  induction c with
  | zero =>
    intro k kw R W V ho hoV h e5 ek hk e hp
    have := hp R (tk_CR h) rfl
    refine yt_146_6 (d := d + 1) ⟨by omega, by omega, fun z => by omega, fun _ => yt_146_40 (d := d + 2) ⟨by omega, fun z => ?_, fun z => ⟨fun z2 => ?_, fun z2 => ?_⟩⟩⟩
    · rw [if_pos z] at this
      rw [(CR_0 h).2.1, e5.2.1]; exact this
    · rw [if_neg z, z2] at this
      rw [CR_1 h 0 (by omega), e5.2.2.1]; exact this
    · rw [if_neg z, show ve = 1 by omega] at this
      rw [CR_1 h 1 (by omega), e5.2.2.2.1]; exact this
  | succ c ih =>
    intro k kw R W V ho hoV h e5 ek hk e hp
    refine yt_146_6 (d := d + 1) ⟨by omega, by omega, fun _ => ?_, fun z => by omega⟩
    refine yu_75 (q := false) (wet := false) (d := d) ⟨fun _ => ?_, fun z => absurd rfl z⟩
    have em : sp_mud false W = upd W 3 (xq_max (nI 0) (R 0 9 - nI 1)) := by rw [(CR_0 h).2.1]; rfl
    have C1 := CR_mud (v := xq_max (nI 0) (R 0 9 - nI 1)) ho h
    rw [← em] at C1
    refine yt_146_19 (d := d + 1) ?_
    refine yl_76 (q := false) (wet := false) (d := d) (ok_mud ho) C1 (fun R2 C2 r2 => ?_)
    refine yt_146_27 (d := d + 1) ?_
    have hoH : ok n ns (sp_herds (sp_mud false W) false) := ok_herds (ok_mud ho)
    have kH : sp_herds (sp_mud false W) false 2 = nI kw := by rw [stp_herds (by omega) (by omega), sp_mud, upd_ne (by omega)]; exact ek
    refine yl_98 (q := false) (d := d) hoH C2 (fun R3 C3 r3 => ?_)
    refine yt_146_34 (d := d + 2) ?_
    refine ih (k + 1) (kw + 1) R3 _ _ (ok_turn hoH (by omega) kH) (ok_sweek (truly := false) (bar := Int32.ofInt (-1)) hoV (show kw < 20000 by omega) (by rw [← e5.1]; exact ek)) C3 (e5_wk hoV e5) (by rw [sp_turn2, kH, nI_add]) (by omega) (by omega) (fun R' t' r' => hp R' t' ?_)
    rw [r', r3, r2, xw_i (by omega)]
theorem yl_146 {m ve : Nat} (ho : ok n ns W) (h : CR true n ns I (xcR true I) W) (hw : thw W) (hm : m ≤ 100) (hv : ve < 3) (htk : tk R) (h10 : R 9 10 = Int32.ofInt (-1)) (hp : ∀ R', tk R' → R' 9 10 = Int32.ofInt (-1) → Q (some (.int (th_herd n m ve W))) (xq_s g J (xc false I R'))) : xq_wp (d + 3) 146 (xq_s g J (xc false I R)) 0 [.ref 34, .int (nI m), .int (nI ve), xq_un] [] Q := by
  obtain ⟨kw, hk, ek⟩ := hw
  refine yt_146 (d := d) (n := n) (ns := ns) (W := W) ⟨ho, h, htk, fun R1 C1 r9 r1 => ?_⟩
  exact yl_146_6 (d := d + 1) hm hv m 0 kw R1 (th_0 W) (th_0 W) (ok_0 ho) (ok_0 ho) C1 ⟨rfl, rfl, rfl, rfl, rfl⟩ (by rw [th_0, upd_ne (by omega)]; exact ek) (by omega) (by omega) (fun R' t' r' => hp R' t' (by rw [r', r1 10 (by omega)]; exact h10))
theorem by_less (ho : ok n ns W) (hw : thw W) (hwk : ∃ j, j ≤ 19500 ∧ wk = nI j) : th_by n blk idle (wk - nI 1) W = if th_close n blk idle W = Int32.ofInt (-1) ∨ ¬ th_close n blk idle W < wk then Int32.ofInt (-1) else th_close n blk idle W := by
  obtain ⟨j, hj, ej⟩ := hwk
  unfold th_by th_lim
  rcases th_close_val (blk := blk) (idle := idle) ho hw with y | ⟨c, hc, e⟩
  · rw [if_pos (Or.inl y), if_pos (Or.inl y)]
  · rw [e, ej]
    have a : nI j - nI 1 < nI c ↔ ¬ nI c < nI j := by
      rw [Int32.lt_iff_toInt_lt, pk_sub_toInt (by omega) (by omega), nI_toInt (by omega), xn_lt (by omega) (by omega)]; omega
    simp only [a]
theorem yl_150_5 {z : Int32} (u5 u6 : Value) (wk wh : Int32) (R : Nat → xw) (htk : tk R) (h10 : R 9 10 = Int32.ofInt (-1)) (hp : ∀ R', tk R' → R' 9 10 = Int32.ofInt (-1) → Q (some (.int (th_hv z (th_hp n W 0 6 wk wh)))) (xq_s g J (xc false I R'))) : xq_wp (d + 6) 150 (xq_s g J (xc false I R)) 19 [.ref 34, .int z, .int wk, .int wh, .int (nI 5), u5, u6] [] Q := by
  have := hp R htk h10
  rw [show th_hp n W 0 6 wk wh = (wk, wh) from rfl] at this
  unfold th_hv at this
  refine yt_150_19_5 (d := d + 6) (n := n) (ns := 0) (W := W) ⟨fun y => ?_, fun y => ⟨fun y2 => ?_, fun y2 => ?_⟩⟩
  · rw [if_pos (Or.inr y)] at this; exact this
  · rw [if_pos (Or.inl y2)] at this; exact this
  · rw [if_neg (fun q => q.elim y2 y)] at this; exact this
theorem yl_150_4 {z : Int32} (ho : ok n ns W) (h : CR true n ns I (xcR true I) W) (hw : thw W) (u5 u6 : Value) (wk wh : Int32) (R : Nat → xw) (hwk : wk = Int32.ofInt (-1) ∨ ∃ j, j ≤ 19500 ∧ wk = nI j) (htk : tk R) (h10 : R 9 10 = Int32.ofInt (-1)) (hp : ∀ R', tk R' → R' 9 10 = Int32.ofInt (-1) → Q (some (.int (th_hv z (th_hp n W 1 5 wk wh)))) (xq_s g J (xc false I R'))) : xq_wp (d + 6) 150 (xq_s g J (xc false I R)) 19 [.ref 34, .int z, .int wk, .int wh, .int (nI 4), u5, u6] [] Q := by
  have nx : ∀ (u5 u6 : Value) (wk wh : Int32) (R : Nat → xw), (wk = Int32.ofInt (-1) ∨ ∃ j, j ≤ 19500 ∧ wk = nI j) → tk R → R 9 10 = Int32.ofInt (-1) → (∀ R', tk R' → R' 9 10 = Int32.ofInt (-1) → Q (some (.int (th_hv z (th_hp n W 0 6 wk wh)))) (xq_s g J (xc false I R'))) → xq_wp (d + 6) 150 (xq_s g J (xc false I R)) 19 [.ref 34, .int z, .int wk, .int wh, .int (nI 5), u5, u6] [] Q := fun u5 u6 wk wh R hwk htk h10 hp => yl_150_5 u5 u6 wk wh R htk h10 hp
  obtain ⟨k, hk, ek⟩ := ok_tl ho (i := 5) (by omega)
  have hk : k ≤ 9 := hk
  have em : xq_most (nI 5) = nI 9 := by decide
  refine yt_150_19_4 (d := d + 3) (n := n) (ns := ns) (W := W) ⟨ho, h, htk, fun R1 C1 r9 r1 => ?_⟩
  have e1 : R1 1 5 = W (10 + 5) := by rw [CR_1 C1 5 (by omega), th_0, upd_ne (by omega)]
  rw [e1, ek]
  rw [show th_hp n W 1 5 wk wh = if 5 = 1 ∨ W (10 + 5) = xq_most (nI 5) then th_hp n W 0 6 wk wh else if th_close n (Int32.ofInt (-1)) 0 (upd (th_0 W) (10 + 5) (W (10 + 5) + nI 1)) = Int32.ofInt (-1) ∨ (¬ wk = Int32.ofInt (-1) ∧ ¬ th_close n (Int32.ofInt (-1)) 0 (upd (th_0 W) (10 + 5) (W (10 + 5) + nI 1)) < wk) then th_hp n W 0 6 wk wh else th_hp n W 0 6 (th_close n (Int32.ofInt (-1)) 0 (upd (th_0 W) (10 + 5) (W (10 + 5) + nI 1))) (nI 5) from rfl] at hp
  refine ⟨fun y => ?_, fun y => ?_⟩
  · rw [xn_lt (by omega) (by omega)] at y
    rw [em, ek, if_neg (fun q => q.elim (by omega) (fun q => by rw [xn_eq (by omega) (by omega)] at q; omega)), nI_add] at hp
    rw [nI_add]
    have ho1 : ok n ns (upd (th_0 W) (10 + 5) (nI (k + 1))) := ok_told (i := 5) (ok_0 ho) (by omega) (show k + 1 ≤ 9 by omega)
    have hw1 : thw (upd (th_0 W) (10 + 5) (nI (k + 1))) := thw_up (thw_0 hw) (by omega)
    have C2 : CR false n ns I (xq_w R1 1 5 (nI (k + 1))) (upd (th_0 W) (10 + 5) (nI (k + 1))) := CR_told (ok_0 ho) C1 (by omega)
    have c10 : xq_w R1 1 5 (nI (k + 1)) 9 10 = Int32.ofInt (-1) := by rw [xw_i (by omega), r1 10 (by omega)]; exact h10
    refine ⟨fun z2 => ?_, fun z2 => ?_⟩
    · refine yl_by0 (d := d) ho1 C2 hw1 c10 (fun R2 t2 q2 => ?_)
      rw [lim_big ho1 hw1]
      refine yt_150_93_4 (d := d + 6) ⟨fun y2 => ?_, fun y2 => ?_⟩
      · rw [if_pos (Or.inl y2)] at hp
        exact nx _ _ _ _ R2 hwk t2 q2 hp
      · rw [if_neg (fun q => q.elim y2 (fun q => q.1 z2))] at hp
        exact nx _ _ _ _ R2 (th_close_val ho1 hw1) t2 q2 hp
    · refine yl_by0 (d := d) ho1 C2 hw1 c10 (fun R2 t2 q2 => ?_)
      rw [by_less ho1 hw1 (hwk.resolve_left z2)]
      refine yt_150_93_4 (d := d + 6) ⟨fun y2 => ?_, fun y2 => ?_⟩
      · by_cases q : th_close n (Int32.ofInt (-1)) 0 (upd (th_0 W) (10 + 5) (nI (k + 1))) = Int32.ofInt (-1) ∨ ¬ th_close n (Int32.ofInt (-1)) 0 (upd (th_0 W) (10 + 5) (nI (k + 1))) < wk
        · rw [if_pos (q.imp id (fun q => ⟨z2, q⟩))] at hp
          exact nx _ _ _ _ R2 hwk t2 q2 hp
        · rw [if_neg q] at y2
          exact absurd (Or.inl y2) q
      · by_cases q : th_close n (Int32.ofInt (-1)) 0 (upd (th_0 W) (10 + 5) (nI (k + 1))) = Int32.ofInt (-1) ∨ ¬ th_close n (Int32.ofInt (-1)) 0 (upd (th_0 W) (10 + 5) (nI (k + 1))) < wk
        · rw [if_pos q] at y2
          exact absurd rfl y2
        · rw [if_neg (fun q2 => q (q2.imp id (fun q2 => q2.2)))] at hp
          rw [if_neg q]
          exact nx _ _ _ _ R2 (th_close_val ho1 hw1) t2 q2 hp
  · rw [xn_lt (by omega) (by omega)] at y
    rw [if_pos (Or.inr (by rw [em, ek, show k = 9 by omega]))] at hp
    have tk1 := tk_CR C1
    exact nx _ _ _ _ R1 hwk tk1 ((r1 10 (by omega)).trans h10) hp
theorem yl_150_3 {z : Int32} (ho : ok n ns W) (h : CR true n ns I (xcR true I) W) (hw : thw W) (u5 u6 : Value) (wk wh : Int32) (R : Nat → xw) (hwk : wk = Int32.ofInt (-1) ∨ ∃ j, j ≤ 19500 ∧ wk = nI j) (htk : tk R) (h10 : R 9 10 = Int32.ofInt (-1)) (hp : ∀ R', tk R' → R' 9 10 = Int32.ofInt (-1) → Q (some (.int (th_hv z (th_hp n W 2 4 wk wh)))) (xq_s g J (xc false I R'))) : xq_wp (d + 6) 150 (xq_s g J (xc false I R)) 19 [.ref 34, .int z, .int wk, .int wh, .int (nI 3), u5, u6] [] Q := by
  have nx : ∀ (u5 u6 : Value) (wk wh : Int32) (R : Nat → xw), (wk = Int32.ofInt (-1) ∨ ∃ j, j ≤ 19500 ∧ wk = nI j) → tk R → R 9 10 = Int32.ofInt (-1) → (∀ R', tk R' → R' 9 10 = Int32.ofInt (-1) → Q (some (.int (th_hv z (th_hp n W 1 5 wk wh)))) (xq_s g J (xc false I R'))) → xq_wp (d + 6) 150 (xq_s g J (xc false I R)) 19 [.ref 34, .int z, .int wk, .int wh, .int (nI 4), u5, u6] [] Q := fun u5 u6 wk wh R hwk htk h10 hp => yl_150_4 ho h hw u5 u6 wk wh R hwk htk h10 hp
  obtain ⟨k, hk, ek⟩ := ok_tl ho (i := 4) (by omega)
  have hk : k ≤ 9 := hk
  have em : xq_most (nI 4) = nI 9 := by decide
  refine yt_150_19_3 (d := d + 3) (n := n) (ns := ns) (W := W) ⟨ho, h, htk, fun R1 C1 r9 r1 => ?_⟩
  have e1 : R1 1 4 = W (10 + 4) := by rw [CR_1 C1 4 (by omega), th_0, upd_ne (by omega)]
  rw [e1, ek]
  rw [show th_hp n W 2 4 wk wh = if 4 = 1 ∨ W (10 + 4) = xq_most (nI 4) then th_hp n W 1 5 wk wh else if th_close n (Int32.ofInt (-1)) 0 (upd (th_0 W) (10 + 4) (W (10 + 4) + nI 1)) = Int32.ofInt (-1) ∨ (¬ wk = Int32.ofInt (-1) ∧ ¬ th_close n (Int32.ofInt (-1)) 0 (upd (th_0 W) (10 + 4) (W (10 + 4) + nI 1)) < wk) then th_hp n W 1 5 wk wh else th_hp n W 1 5 (th_close n (Int32.ofInt (-1)) 0 (upd (th_0 W) (10 + 4) (W (10 + 4) + nI 1))) (nI 4) from rfl] at hp
  refine ⟨fun y => ?_, fun y => ?_⟩
  · rw [xn_lt (by omega) (by omega)] at y
    rw [em, ek, if_neg (fun q => q.elim (by omega) (fun q => by rw [xn_eq (by omega) (by omega)] at q; omega)), nI_add] at hp
    rw [nI_add]
    have ho1 : ok n ns (upd (th_0 W) (10 + 4) (nI (k + 1))) := ok_told (i := 4) (ok_0 ho) (by omega) (show k + 1 ≤ 9 by omega)
    have hw1 : thw (upd (th_0 W) (10 + 4) (nI (k + 1))) := thw_up (thw_0 hw) (by omega)
    have C2 : CR false n ns I (xq_w R1 1 4 (nI (k + 1))) (upd (th_0 W) (10 + 4) (nI (k + 1))) := CR_told (ok_0 ho) C1 (by omega)
    have c10 : xq_w R1 1 4 (nI (k + 1)) 9 10 = Int32.ofInt (-1) := by rw [xw_i (by omega), r1 10 (by omega)]; exact h10
    refine ⟨fun z2 => ?_, fun z2 => ?_⟩
    · refine yl_by0 (d := d) ho1 C2 hw1 c10 (fun R2 t2 q2 => ?_)
      rw [lim_big ho1 hw1]
      refine yt_150_93_3 (d := d + 6) ⟨fun y2 => ?_, fun y2 => ?_⟩
      · rw [if_pos (Or.inl y2)] at hp
        exact nx _ _ _ _ R2 hwk t2 q2 hp
      · rw [if_neg (fun q => q.elim y2 (fun q => q.1 z2))] at hp
        exact nx _ _ _ _ R2 (th_close_val ho1 hw1) t2 q2 hp
    · refine yl_by0 (d := d) ho1 C2 hw1 c10 (fun R2 t2 q2 => ?_)
      rw [by_less ho1 hw1 (hwk.resolve_left z2)]
      refine yt_150_93_3 (d := d + 6) ⟨fun y2 => ?_, fun y2 => ?_⟩
      · by_cases q : th_close n (Int32.ofInt (-1)) 0 (upd (th_0 W) (10 + 4) (nI (k + 1))) = Int32.ofInt (-1) ∨ ¬ th_close n (Int32.ofInt (-1)) 0 (upd (th_0 W) (10 + 4) (nI (k + 1))) < wk
        · rw [if_pos (q.imp id (fun q => ⟨z2, q⟩))] at hp
          exact nx _ _ _ _ R2 hwk t2 q2 hp
        · rw [if_neg q] at y2
          exact absurd (Or.inl y2) q
      · by_cases q : th_close n (Int32.ofInt (-1)) 0 (upd (th_0 W) (10 + 4) (nI (k + 1))) = Int32.ofInt (-1) ∨ ¬ th_close n (Int32.ofInt (-1)) 0 (upd (th_0 W) (10 + 4) (nI (k + 1))) < wk
        · rw [if_pos q] at y2
          exact absurd rfl y2
        · rw [if_neg (fun q2 => q (q2.imp id (fun q2 => q2.2)))] at hp
          rw [if_neg q]
          exact nx _ _ _ _ R2 (th_close_val ho1 hw1) t2 q2 hp
  · rw [xn_lt (by omega) (by omega)] at y
    rw [if_pos (Or.inr (by rw [em, ek, show k = 9 by omega]))] at hp
    have tk1 := tk_CR C1
    exact nx _ _ _ _ R1 hwk tk1 ((r1 10 (by omega)).trans h10) hp
theorem yl_150_2 {z : Int32} (ho : ok n ns W) (h : CR true n ns I (xcR true I) W) (hw : thw W) (u5 u6 : Value) (wk wh : Int32) (R : Nat → xw) (hwk : wk = Int32.ofInt (-1) ∨ ∃ j, j ≤ 19500 ∧ wk = nI j) (htk : tk R) (h10 : R 9 10 = Int32.ofInt (-1)) (hp : ∀ R', tk R' → R' 9 10 = Int32.ofInt (-1) → Q (some (.int (th_hv z (th_hp n W 3 3 wk wh)))) (xq_s g J (xc false I R'))) : xq_wp (d + 6) 150 (xq_s g J (xc false I R)) 19 [.ref 34, .int z, .int wk, .int wh, .int (nI 2), u5, u6] [] Q := by
  have nx : ∀ (u5 u6 : Value) (wk wh : Int32) (R : Nat → xw), (wk = Int32.ofInt (-1) ∨ ∃ j, j ≤ 19500 ∧ wk = nI j) → tk R → R 9 10 = Int32.ofInt (-1) → (∀ R', tk R' → R' 9 10 = Int32.ofInt (-1) → Q (some (.int (th_hv z (th_hp n W 2 4 wk wh)))) (xq_s g J (xc false I R'))) → xq_wp (d + 6) 150 (xq_s g J (xc false I R)) 19 [.ref 34, .int z, .int wk, .int wh, .int (nI 3), u5, u6] [] Q := fun u5 u6 wk wh R hwk htk h10 hp => yl_150_3 ho h hw u5 u6 wk wh R hwk htk h10 hp
  obtain ⟨k, hk, ek⟩ := ok_tl ho (i := 3) (by omega)
  have hk : k ≤ 9 := hk
  have em : xq_most (nI 3) = nI 9 := by decide
  refine yt_150_19_2 (d := d + 3) (n := n) (ns := ns) (W := W) ⟨ho, h, htk, fun R1 C1 r9 r1 => ?_⟩
  have e1 : R1 1 3 = W (10 + 3) := by rw [CR_1 C1 3 (by omega), th_0, upd_ne (by omega)]
  rw [e1, ek]
  rw [show th_hp n W 3 3 wk wh = if 3 = 1 ∨ W (10 + 3) = xq_most (nI 3) then th_hp n W 2 4 wk wh else if th_close n (Int32.ofInt (-1)) 0 (upd (th_0 W) (10 + 3) (W (10 + 3) + nI 1)) = Int32.ofInt (-1) ∨ (¬ wk = Int32.ofInt (-1) ∧ ¬ th_close n (Int32.ofInt (-1)) 0 (upd (th_0 W) (10 + 3) (W (10 + 3) + nI 1)) < wk) then th_hp n W 2 4 wk wh else th_hp n W 2 4 (th_close n (Int32.ofInt (-1)) 0 (upd (th_0 W) (10 + 3) (W (10 + 3) + nI 1))) (nI 3) from rfl] at hp
  refine ⟨fun y => ?_, fun y => ?_⟩
  · rw [xn_lt (by omega) (by omega)] at y
    rw [em, ek, if_neg (fun q => q.elim (by omega) (fun q => by rw [xn_eq (by omega) (by omega)] at q; omega)), nI_add] at hp
    rw [nI_add]
    have ho1 : ok n ns (upd (th_0 W) (10 + 3) (nI (k + 1))) := ok_told (i := 3) (ok_0 ho) (by omega) (show k + 1 ≤ 9 by omega)
    have hw1 : thw (upd (th_0 W) (10 + 3) (nI (k + 1))) := thw_up (thw_0 hw) (by omega)
    have C2 : CR false n ns I (xq_w R1 1 3 (nI (k + 1))) (upd (th_0 W) (10 + 3) (nI (k + 1))) := CR_told (ok_0 ho) C1 (by omega)
    have c10 : xq_w R1 1 3 (nI (k + 1)) 9 10 = Int32.ofInt (-1) := by rw [xw_i (by omega), r1 10 (by omega)]; exact h10
    refine ⟨fun z2 => ?_, fun z2 => ?_⟩
    · refine yl_by0 (d := d) ho1 C2 hw1 c10 (fun R2 t2 q2 => ?_)
      rw [lim_big ho1 hw1]
      refine yt_150_93_2 (d := d + 6) ⟨fun y2 => ?_, fun y2 => ?_⟩
      · rw [if_pos (Or.inl y2)] at hp
        exact nx _ _ _ _ R2 hwk t2 q2 hp
      · rw [if_neg (fun q => q.elim y2 (fun q => q.1 z2))] at hp
        exact nx _ _ _ _ R2 (th_close_val ho1 hw1) t2 q2 hp
    · refine yl_by0 (d := d) ho1 C2 hw1 c10 (fun R2 t2 q2 => ?_)
      rw [by_less ho1 hw1 (hwk.resolve_left z2)]
      refine yt_150_93_2 (d := d + 6) ⟨fun y2 => ?_, fun y2 => ?_⟩
      · by_cases q : th_close n (Int32.ofInt (-1)) 0 (upd (th_0 W) (10 + 3) (nI (k + 1))) = Int32.ofInt (-1) ∨ ¬ th_close n (Int32.ofInt (-1)) 0 (upd (th_0 W) (10 + 3) (nI (k + 1))) < wk
        · rw [if_pos (q.imp id (fun q => ⟨z2, q⟩))] at hp
          exact nx _ _ _ _ R2 hwk t2 q2 hp
        · rw [if_neg q] at y2
          exact absurd (Or.inl y2) q
      · by_cases q : th_close n (Int32.ofInt (-1)) 0 (upd (th_0 W) (10 + 3) (nI (k + 1))) = Int32.ofInt (-1) ∨ ¬ th_close n (Int32.ofInt (-1)) 0 (upd (th_0 W) (10 + 3) (nI (k + 1))) < wk
        · rw [if_pos q] at y2
          exact absurd rfl y2
        · rw [if_neg (fun q2 => q (q2.imp id (fun q2 => q2.2)))] at hp
          rw [if_neg q]
          exact nx _ _ _ _ R2 (th_close_val ho1 hw1) t2 q2 hp
  · rw [xn_lt (by omega) (by omega)] at y
    rw [if_pos (Or.inr (by rw [em, ek, show k = 9 by omega]))] at hp
    have tk1 := tk_CR C1
    exact nx _ _ _ _ R1 hwk tk1 ((r1 10 (by omega)).trans h10) hp
theorem yl_150_1 {z : Int32} (ho : ok n ns W) (h : CR true n ns I (xcR true I) W) (hw : thw W) (u5 u6 : Value) (wk wh : Int32) (R : Nat → xw) (hwk : wk = Int32.ofInt (-1) ∨ ∃ j, j ≤ 19500 ∧ wk = nI j) (htk : tk R) (h10 : R 9 10 = Int32.ofInt (-1)) (hp : ∀ R', tk R' → R' 9 10 = Int32.ofInt (-1) → Q (some (.int (th_hv z (th_hp n W 4 2 wk wh)))) (xq_s g J (xc false I R'))) : xq_wp (d + 6) 150 (xq_s g J (xc false I R)) 19 [.ref 34, .int z, .int wk, .int wh, .int (nI 1), u5, u6] [] Q := by
  have nx : ∀ (u5 u6 : Value) (wk wh : Int32) (R : Nat → xw), (wk = Int32.ofInt (-1) ∨ ∃ j, j ≤ 19500 ∧ wk = nI j) → tk R → R 9 10 = Int32.ofInt (-1) → (∀ R', tk R' → R' 9 10 = Int32.ofInt (-1) → Q (some (.int (th_hv z (th_hp n W 3 3 wk wh)))) (xq_s g J (xc false I R'))) → xq_wp (d + 6) 150 (xq_s g J (xc false I R)) 19 [.ref 34, .int z, .int wk, .int wh, .int (nI 2), u5, u6] [] Q := fun u5 u6 wk wh R hwk htk h10 hp => yl_150_2 ho h hw u5 u6 wk wh R hwk htk h10 hp
  obtain ⟨k, hk, ek⟩ := ok_tl ho (i := 2) (by omega)
  have hk : k ≤ 99 := hk
  have em : xq_most (nI 2) = nI 99 := by decide
  refine yt_150_19_1 (d := d + 3) (n := n) (ns := ns) (W := W) ⟨ho, h, htk, fun R1 C1 r9 r1 => ?_⟩
  have e1 : R1 1 2 = W (10 + 2) := by rw [CR_1 C1 2 (by omega), th_0, upd_ne (by omega)]
  rw [e1, ek]
  rw [show th_hp n W 4 2 wk wh = if 2 = 1 ∨ W (10 + 2) = xq_most (nI 2) then th_hp n W 3 3 wk wh else if th_close n (Int32.ofInt (-1)) 0 (upd (th_0 W) (10 + 2) (W (10 + 2) + nI 1)) = Int32.ofInt (-1) ∨ (¬ wk = Int32.ofInt (-1) ∧ ¬ th_close n (Int32.ofInt (-1)) 0 (upd (th_0 W) (10 + 2) (W (10 + 2) + nI 1)) < wk) then th_hp n W 3 3 wk wh else th_hp n W 3 3 (th_close n (Int32.ofInt (-1)) 0 (upd (th_0 W) (10 + 2) (W (10 + 2) + nI 1))) (nI 2) from rfl] at hp
  refine ⟨fun y => ?_, fun y => ?_⟩
  · rw [xn_lt (by omega) (by omega)] at y
    rw [em, ek, if_neg (fun q => q.elim (by omega) (fun q => by rw [xn_eq (by omega) (by omega)] at q; omega)), nI_add] at hp
    rw [nI_add]
    have ho1 : ok n ns (upd (th_0 W) (10 + 2) (nI (k + 1))) := ok_told (i := 2) (ok_0 ho) (by omega) (show k + 1 ≤ 99 by omega)
    have hw1 : thw (upd (th_0 W) (10 + 2) (nI (k + 1))) := thw_up (thw_0 hw) (by omega)
    have C2 : CR false n ns I (xq_w R1 1 2 (nI (k + 1))) (upd (th_0 W) (10 + 2) (nI (k + 1))) := CR_told (ok_0 ho) C1 (by omega)
    have c10 : xq_w R1 1 2 (nI (k + 1)) 9 10 = Int32.ofInt (-1) := by rw [xw_i (by omega), r1 10 (by omega)]; exact h10
    refine ⟨fun z2 => ?_, fun z2 => ?_⟩
    · refine yl_by0 (d := d) ho1 C2 hw1 c10 (fun R2 t2 q2 => ?_)
      rw [lim_big ho1 hw1]
      refine yt_150_93_1 (d := d + 6) ⟨fun y2 => ?_, fun y2 => ?_⟩
      · rw [if_pos (Or.inl y2)] at hp
        exact nx _ _ _ _ R2 hwk t2 q2 hp
      · rw [if_neg (fun q => q.elim y2 (fun q => q.1 z2))] at hp
        exact nx _ _ _ _ R2 (th_close_val ho1 hw1) t2 q2 hp
    · refine yl_by0 (d := d) ho1 C2 hw1 c10 (fun R2 t2 q2 => ?_)
      rw [by_less ho1 hw1 (hwk.resolve_left z2)]
      refine yt_150_93_1 (d := d + 6) ⟨fun y2 => ?_, fun y2 => ?_⟩
      · by_cases q : th_close n (Int32.ofInt (-1)) 0 (upd (th_0 W) (10 + 2) (nI (k + 1))) = Int32.ofInt (-1) ∨ ¬ th_close n (Int32.ofInt (-1)) 0 (upd (th_0 W) (10 + 2) (nI (k + 1))) < wk
        · rw [if_pos (q.imp id (fun q => ⟨z2, q⟩))] at hp
          exact nx _ _ _ _ R2 hwk t2 q2 hp
        · rw [if_neg q] at y2
          exact absurd (Or.inl y2) q
      · by_cases q : th_close n (Int32.ofInt (-1)) 0 (upd (th_0 W) (10 + 2) (nI (k + 1))) = Int32.ofInt (-1) ∨ ¬ th_close n (Int32.ofInt (-1)) 0 (upd (th_0 W) (10 + 2) (nI (k + 1))) < wk
        · rw [if_pos q] at y2
          exact absurd rfl y2
        · rw [if_neg (fun q2 => q (q2.imp id (fun q2 => q2.2)))] at hp
          rw [if_neg q]
          exact nx _ _ _ _ R2 (th_close_val ho1 hw1) t2 q2 hp
  · rw [xn_lt (by omega) (by omega)] at y
    rw [if_pos (Or.inr (by rw [em, ek, show k = 99 by omega]))] at hp
    have tk1 := tk_CR C1
    exact nx _ _ _ _ R1 hwk tk1 ((r1 10 (by omega)).trans h10) hp
theorem hp_skip {wk wh : Int32} : th_hp n W 5 1 wk wh = th_hp n W 4 2 wk wh := by
  rw [th_hp, if_pos (Or.inl rfl)]
theorem yl_150_0 {z : Int32} (ho : ok n ns W) (h : CR true n ns I (xcR true I) W) (hw : thw W) (u5 u6 : Value) (wk wh : Int32) (R : Nat → xw) (hwk : wk = Int32.ofInt (-1) ∨ ∃ j, j ≤ 19500 ∧ wk = nI j) (htk : tk R) (h10 : R 9 10 = Int32.ofInt (-1)) (hp : ∀ R', tk R' → R' 9 10 = Int32.ofInt (-1) → Q (some (.int (th_hv z (th_hp n W 6 0 wk wh)))) (xq_s g J (xc false I R'))) : xq_wp (d + 6) 150 (xq_s g J (xc false I R)) 19 [.ref 34, .int z, .int wk, .int wh, .int (nI 0), u5, u6] [] Q := by
  have nx : ∀ (u5 u6 : Value) (wk wh : Int32) (R : Nat → xw), (wk = Int32.ofInt (-1) ∨ ∃ j, j ≤ 19500 ∧ wk = nI j) → tk R → R 9 10 = Int32.ofInt (-1) → (∀ R', tk R' → R' 9 10 = Int32.ofInt (-1) → Q (some (.int (th_hv z (th_hp n W 4 2 wk wh)))) (xq_s g J (xc false I R'))) → xq_wp (d + 6) 150 (xq_s g J (xc false I R)) 19 [.ref 34, .int z, .int wk, .int wh, .int (nI 1), u5, u6] [] Q := fun u5 u6 wk wh R hwk htk h10 hp => yl_150_1 ho h hw u5 u6 wk wh R hwk htk h10 hp
  obtain ⟨k, hk, ek⟩ := ok_tl ho (i := 0) (by omega)
  have hk : k ≤ 99 := hk
  have em : xq_most (nI 0) = nI 99 := by decide
  refine yt_150_19_0 (d := d + 3) (n := n) (ns := ns) (W := W) ⟨ho, h, htk, fun R1 C1 r9 r1 => ?_⟩
  have e1 : R1 1 0 = W (10 + 0) := by rw [CR_1 C1 0 (by omega), th_0, upd_ne (by omega)]
  rw [e1, ek]
  rw [show th_hp n W 6 0 wk wh = if 0 = 1 ∨ W (10 + 0) = xq_most (nI 0) then th_hp n W 5 1 wk wh else if th_close n (Int32.ofInt (-1)) 0 (upd (th_0 W) (10 + 0) (W (10 + 0) + nI 1)) = Int32.ofInt (-1) ∨ (¬ wk = Int32.ofInt (-1) ∧ ¬ th_close n (Int32.ofInt (-1)) 0 (upd (th_0 W) (10 + 0) (W (10 + 0) + nI 1)) < wk) then th_hp n W 5 1 wk wh else th_hp n W 5 1 (th_close n (Int32.ofInt (-1)) 0 (upd (th_0 W) (10 + 0) (W (10 + 0) + nI 1))) (nI 0) from rfl] at hp
  simp only [hp_skip] at hp
  refine ⟨fun y => ?_, fun y => ?_⟩
  · rw [xn_lt (by omega) (by omega)] at y
    rw [em, ek, if_neg (fun q => q.elim (by omega) (fun q => by rw [xn_eq (by omega) (by omega)] at q; omega)), nI_add] at hp
    rw [nI_add]
    have ho1 : ok n ns (upd (th_0 W) (10 + 0) (nI (k + 1))) := ok_told (i := 0) (ok_0 ho) (by omega) (show k + 1 ≤ 99 by omega)
    have hw1 : thw (upd (th_0 W) (10 + 0) (nI (k + 1))) := thw_up (thw_0 hw) (by omega)
    have C2 : CR false n ns I (xq_w R1 1 0 (nI (k + 1))) (upd (th_0 W) (10 + 0) (nI (k + 1))) := CR_told (ok_0 ho) C1 (by omega)
    have c10 : xq_w R1 1 0 (nI (k + 1)) 9 10 = Int32.ofInt (-1) := by rw [xw_i (by omega), r1 10 (by omega)]; exact h10
    refine ⟨fun z2 => ?_, fun z2 => ?_⟩
    · refine yl_by0 (d := d) ho1 C2 hw1 c10 (fun R2 t2 q2 => ?_)
      rw [lim_big ho1 hw1]
      refine yt_150_93_0 (d := d + 6) ⟨fun y2 => ?_, fun y2 => ?_⟩
      · rw [if_pos (Or.inl y2)] at hp
        exact nx _ _ _ _ R2 hwk t2 q2 hp
      · rw [if_neg (fun q => q.elim y2 (fun q => q.1 z2))] at hp
        exact nx _ _ _ _ R2 (th_close_val ho1 hw1) t2 q2 hp
    · refine yl_by0 (d := d) ho1 C2 hw1 c10 (fun R2 t2 q2 => ?_)
      rw [by_less ho1 hw1 (hwk.resolve_left z2)]
      refine yt_150_93_0 (d := d + 6) ⟨fun y2 => ?_, fun y2 => ?_⟩
      · by_cases q : th_close n (Int32.ofInt (-1)) 0 (upd (th_0 W) (10 + 0) (nI (k + 1))) = Int32.ofInt (-1) ∨ ¬ th_close n (Int32.ofInt (-1)) 0 (upd (th_0 W) (10 + 0) (nI (k + 1))) < wk
        · rw [if_pos (q.imp id (fun q => ⟨z2, q⟩))] at hp
          exact nx _ _ _ _ R2 hwk t2 q2 hp
        · rw [if_neg q] at y2
          exact absurd (Or.inl y2) q
      · by_cases q : th_close n (Int32.ofInt (-1)) 0 (upd (th_0 W) (10 + 0) (nI (k + 1))) = Int32.ofInt (-1) ∨ ¬ th_close n (Int32.ofInt (-1)) 0 (upd (th_0 W) (10 + 0) (nI (k + 1))) < wk
        · rw [if_pos q] at y2
          exact absurd rfl y2
        · rw [if_neg (fun q2 => q (q2.imp id (fun q2 => q2.2)))] at hp
          rw [if_neg q]
          exact nx _ _ _ _ R2 (th_close_val ho1 hw1) t2 q2 hp
  · rw [xn_lt (by omega) (by omega)] at y
    rw [if_pos (Or.inr (by rw [em, ek, show k = 99 by omega]))] at hp
    have tk1 := tk_CR C1
    exact nx _ _ _ _ R1 hwk tk1 ((r1 10 (by omega)).trans h10) hp
theorem yl_150 {z : Int32} (ho : ok n ns W) (h : CR true n ns I (xcR true I) W) (hw : thw W) (htk : tk R) (h10 : R 9 10 = Int32.ofInt (-1)) (hp : ∀ R', tk R' → R' 9 10 = Int32.ofInt (-1) → Q (some (.int (th_help n z W))) (xq_s g J (xc false I R'))) : xq_wp (d + 6) 150 (xq_s g J (xc false I R)) 0 [.ref 34, .int z, xq_un, xq_un, xq_un, xq_un, xq_un] [] Q := by
  refine yt_150 (d := d + 3) ⟨ho, h, htk, fun R1 C1 r9 r1 => yl_by0 (d := d) (ok_0 ho) C1 (thw_0 hw) ((r1 10 (by omega)).trans h10) (fun R2 t2 q2 => ?_)⟩
  rw [lim_big (ok_0 ho) (thw_0 hw)]
  refine yt_150_13 (d := d + 6) ?_
  exact yl_150_0 ho h hw _ _ _ _ R2 (th_close_val (ok_0 ho) (thw_0 hw)) t2 q2 hp
end yk_ans2
