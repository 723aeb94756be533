/-! the class in thought: hopeless, stuck, when it closes -/
section yk_th2
variable {d : Nat} {g : xq_V} {J : Nat → Nat → Int64} {I : Nat → Nat → Int32} {Q : Option Value → xq_S → Prop} {n ns : Nat} {R R' : Nat → xw} {W W' : xw} {last blk : Int32} {idle b k : Nat}
theorem yl_112_54 {now : Int32} {u : Value} (ho : ok n ns W) (h : CR false n ns I R W) (h0 : Q (some (.int (nI 0))) (xq_s g J (xc false I R))) (h1 : (∀ x, x < n → ¬ W (50 + 14 * x + 4) < nI 3) → Q (some (.int (nI 1))) (xq_s g J (xc false I R))) : ∀ (c b : Nat), b + c = n → (∀ x, x < b → ¬ W (50 + 14 * x + 4) < nI 3) → xq_wp d 112 (xq_s g J (xc false I R)) 54 [.ref 46, .int now, u, .int (nI b)] [] Q := by
  have n14 := ho.1.2.1
  have e0 : I 2 0 = nI n := (CR_G h).1.trans ho.1.1
  intro c
  induction c with
  | zero => intro b e hb; exact yt_112_54 (d := d) ⟨e0, by omega, by omega, fun z => by omega, fun _ => h1 (fun x hx => hb x (by omega))⟩
  | succ c ih =>
    intro b e hb
    have e4 := CR_4 h b (by omega)
    refine yt_112_54 (d := d) ⟨e0, by omega, by omega, fun _ => ⟨by omega, fun z => h0, fun z => ih (b + 1) (by omega) (fun x hx => ?_)⟩, fun z => by omega⟩
    rw [e4] at z
    by_cases ex : x = b
    · subst ex; exact z
    · exact hb x (by omega)
theorem yl_112 {now : Int32} (ho : ok n ns W) (h : CR false n ns I R W) (hp : ∀ z, (z = nI 0 ∨ (z = nI 1 ∧ xq_rem now (nI 52) < W 19 ∧ (¬ nI 0 < W 21 ∨ sp_lset W n 0 (nI 0) = nI 0) ∧ ∀ x, x < n → ¬ W (50 + 14 * x + 4) < nI 3)) → Q (some (.int z)) (xq_s g J (xc false I R))) : xq_wp d 112 (xq_s g J (xc false I R)) 0 [.ref 46, .int now, xq_un, xq_un] [] Q := by
  have e9 : R 1 9 = W 19 := CR_1 h 9 (by omega)
  have e11 : R 1 11 = W 21 := CR_1 h 11 (by omega)
  have e13 := (CR_L h).1
  refine yt_112 (d := d) ⟨fun z => ⟨fun z2 => ⟨fun z3 => ?_, fun z3 => hp _ (Or.inl rfl)⟩, fun z2 => ?_⟩, fun z => hp _ (Or.inl rfl)⟩
  · rw [e9] at z
    rw [e13] at z3
    exact yl_112_54 ho h (hp _ (Or.inl rfl)) (fun q => hp _ (Or.inr ⟨rfl, z, Or.inr z3, q⟩)) n 0 (by omega) (fun x hx => by omega)
  · rw [e9] at z
    rw [e11] at z2
    exact yl_112_54 ho h (hp _ (Or.inl rfl)) (fun q => hp _ (Or.inr ⟨rfl, z, Or.inl z2, q⟩)) n 0 (by omega) (fun x hx => by omega)
theorem nd_max {u v : Int32} (h1 : th_nd n ns W u) (h2 : th_nd n ns W v) : th_nd n ns W (xq_max u v) := by
  rcases max_or u v with q | q
  · rw [q]; exact h1
  · rw [q]; exact h2
theorem yl_109_7 (ho : ok n ns W) (h : CR false n ns I R W) (hbad : ∀ b, b < n → W (50 + 14 * b + 4) = nI 0 → (W 13 = nI 0 ∨ W (24 + sp_ix W (50 + 14 * b + 1)) = nI 0) → Q (some (.int (nI 1))) (xq_s g J (xc false I R))) : ∀ (c b : Nat) (wh nd : Int32) (u : Value), b + c = n → th_nd n ns W nd → (∀ (nd' : Int32) (u4 u' : Value), th_nd n ns W nd' → xq_wp (d + 2) 109 (xq_s g J (xc false I R)) 108 [.ref 46, .int last, .int (th_ws W c b wh), .int nd', u4, u'] [] Q) → xq_wp (d + 2) 109 (xq_s g J (xc false I R)) 7 [.ref 46, .int last, .int wh, .int nd, .int (nI b), u] [] Q := by
  have n14 := ho.1.2.1
  have e0 : I 2 0 = nI n := (CR_G h).1.trans ho.1.1
  have e13 : R 1 3 = W 13 := CR_1 h 3 (by omega)
  intro c
  induction c with
  | zero => intro b wh nd u e hnd hp; exact yt_109_7 (d := d + 1) (v := 0) ⟨e0, by omega, by omega, fun z => by omega, fun _ => hp _ _ _ hnd⟩
  | succ c ih =>
    intro b wh nd u e hnd hp
    have hb : b < n := by omega
    have e4 := CR_4 h b hb
    have e7 := CR_7 h b hb
    obtain ⟨v, hv, ev, iv⟩ := ok_ve ho hb
    obtain ⟨g1, ⟨g2, _⟩, g3⟩ := (CR_G h).2.2.1 b hb
    have e2 : R 2 v = W (24 + v) := CR_2 h v hv
    simp only [th_ws] at hp
    have go : ∀ (w : Int32) (u' : Value), w = sp_wei W b → xq_wp (d + 1) 110 (xq_s g J (xc false I R)) 0 [.ref 46, .int (nI b), xq_un, xq_un] [] (fun v x1 => xq_wp (d + 1 + 1) 109 x1 98 [.ref 46, .int last, .int (wh + w), .int nd, .int (nI b), u'] (v.toList ++ [.int nd]) Q) := by
      intro w u' ew
      subst ew
      exact yl_110 (d := d) ho h hb (fun v hv => yt_109_98 (d := d + 1) (ih (b + 1) _ _ _ (by omega) (nd_max hnd hv) hp))
    have w1 : I 5 b = nI 1 → -(I 3 b) = sp_wei W b := fun z => by rw [g2] at z; rw [sp_wei, if_pos z, g1]
    have w2 : ¬ I 5 b = nI 1 → I 3 b = sp_wei W b := fun z => by rw [g2] at z; rw [sp_wei, if_neg z, g1]
    refine yt_109_7 (d := d + 1) (n := n) (v := v) ⟨e0, by omega, by omega, fun _ => ⟨by omega, fun z => ⟨fun z2 => ?_, fun z2 => ⟨e7.trans ev, hv, fun z3 => ?_, fun z3 => ⟨fun z4 => go _ _ (w1 z4), fun z4 => go _ _ (w2 z4)⟩⟩⟩, fun z => ⟨fun z4 => go _ _ (w1 z4), fun z4 => go _ _ (w2 z4)⟩⟩, fun z => by omega⟩
    · rw [e4] at z
      rw [e13] at z2
      exact hbad b hb z (Or.inl z2)
    · rw [e4] at z
      rw [e2] at z3
      exact hbad b hb z (Or.inr (by rw [iv]; exact z3))
theorem ws_bd (h : ok n ns W) : ∀ (c b : Nat) (v : Int32), b + c = n → v.toInt ≤ 20 * b → -(20 * b : Int) ≤ v.toInt → (th_ws W c b v).toInt ≤ 20 * n ∧ -(20 * n : Int) ≤ (th_ws W c b v).toInt
  | 0, b, v, e, h1, h2 => by
    have : b = n := by omega
    subst this
    exact ⟨h1, h2⟩
  | c + 1, b, v, e, h1, h2 => by
    have w := ok_wei h (show b < n by omega)
    have n14 := h.1.2.1
    have a := fb_addI (x := v) (y := sp_wei W b) (by omega) (by omega)
    simp only [th_ws]
    exact ws_bd h c (b + 1) _ (by omega) (by rw [a]; omega) (by rw [a]; omega)
theorem yl_109 (ho : ok n ns W) (h : CR false n ns I R W) (hw : thw W) (hl : lmN W n < n) (hp : ∀ (R' : Nat → xw) (z : Int32), CR false n ns I R' W → R' 9 = R 9 → ((z = nI 0 ∧ ¬ W 14 = nI 0) ∨ (z = nI 1 ∧ ∀ (blk : Int32) (idle k : Nat), th_bt n blk idle last 300 k W = Int32.ofInt (-1))) → Q (some (.int z)) (xq_s g J (xc false I R'))) : xq_wp (d + 3) 109 (xq_s g J (xc false I R)) 0 [.ref 46, .int last, xq_un, xq_un, xq_un, xq_un] [] Q := by
  have n14 := ho.1.2.1
  obtain ⟨kw, hk, ek⟩ := hw
  refine xq_wp.go (k := 6) (fun F => rfl) ?_
  refine yl_109_7 (d := d + 1) ho h (fun b hb q1 q2 => hp R _ h rfl (Or.inr ⟨rfl, fun blk idle k => bt_rock hb ho ek (by omega) q1 q2⟩)) n 0 (nI 0) (nI 0) _ (by omega) (Or.inl rfl) (fun nd u4 u' hnd => ?_)
  have e4 : R 1 4 = W 14 := CR_1 h 4 (by omega)
  have e10 : R 1 10 = W 20 := CR_1 h 10 (by omega)
  have e0 : R 1 0 = W 10 := CR_1 h 0 (by omega)
  obtain ⟨bl, hbl, ebl⟩ := ok_tl ho (i := 10) (by omega)
  have hbl : bl ≤ 999 := hbl
  have ebl : W 20 = nI bl := ebl
  have bd := ws_bd ho n 0 (nI 0) (by omega) (by decide) (by decide)
  refine yt_109_108 (d := d + 2) ⟨fun z => ?_, fun z => ⟨fun z2 => ?_, fun z2 => ⟨fun z3 => ?_, fun z3 => ?_⟩⟩⟩
  · rw [e4] at z
    exact hp R _ h rfl (Or.inr ⟨rfl, fun blk idle k => bt_mas ho ek (by omega) hl z⟩)
  · rw [e10] at z2
    refine hp R _ h rfl (Or.inr ⟨rfl, fun blk idle k => bt_bal ho ek (by omega) hl ?_⟩)
    intro y
    unfold th_bal at y
    have a := abs_bal (t := th_ws W n 0 (nI 0)) hbl (by omega) (by omega)
    rw [ebl] at z2 y
    rw [decide_eq_true z2, decide_eq_false y.1, decide_eq_false y.2] at a
    exact absurd a (by decide)
  · refine yl_111 (d := d) ho h ⟨kw, hk, ek⟩ (fun R1 C1 r1 => yt_109_158 (d := d + 3) ⟨fun z4 => hp R1 _ C1 r1 (Or.inr ⟨rfl, fun blk idle k => ?_⟩), fun z4 => hp R1 _ C1 r1 (Or.inl ⟨rfl, fun y => z (e4.trans y)⟩)⟩)
    obtain ⟨a1, a2⟩ := lh_hb _ _ _ z4
    rcases hnd with q | ⟨b, j, hb, hj, hnb, q⟩
    · rw [q] at a1; exact absurd a1 (by decide)
    · rw [q] at a2
      exact bt_need ho ek (by omega) hb hj hnb a2
  · exact hp R _ h rfl (Or.inl ⟨rfl, fun y => z (e4.trans y)⟩)
theorem yl_108_56 {hB hU : Int32} {kw : Nat} (hkw : kw ≤ 19000) (hh : ∀ i, i < 300 → ∀ b, b < n → (nI b = (if i < idle then blk else Int32.ofInt (-1)) ↔ nI b = hB ∧ nI (kw + i) < hU)) : ∀ (c i : Nat) (R : Nat → xw) (W : xw) (u3 u4 : Value), ok n ns W → CR false n ns I R W → W 2 = nI (kw + i) → i + c = 300 → lmN W n < n → ¬ W 14 = nI 0 → R 9 10 = hB → R 9 11 = hU → (∀ R', tk R' → R' 9 10 = hB → R' 9 11 = hU → Q (some (.int (th_bt n blk idle last c i W))) (xq_s g J (xc false I R'))) → xq_wp (d + 5) 108 (xq_s g J (xc false I R)) 56 [.ref 46, .int last, .int (nI i), u3, u4] [] Q := by
  intro c
  induction c with
  | zero =>
    intro i R W u3 u4 ho h ek e hl h14 r10 r11 hp
    exact yt_108_56 (d := d + 4) ⟨by omega, fun z => by omega, fun _ => hp R (tk_CR h) r10 r11⟩
  | succ c ih =>
    intro i R W u3 u4 ho h ek e hl h14 r10 r11 hp
    have n14 := ho.1.2.1
    simp only [th_bt] at hp
    refine yt_108_56 (d := d + 4) ⟨by omega, fun _ => ⟨fun z => ?_, fun z => ?_⟩, fun z => by omega⟩
    · rw [(CR_0 h).1] at z
      rw [if_pos z] at hp
      exact hp R (tk_CR h) r10 r11
    · rw [(CR_0 h).1] at z
      rw [if_neg z] at hp
      have hbar := hh i (by omega)
      generalize (if i < idle then blk else Int32.ofInt (-1)) = bar at hp hbar
      refine yl_72 (q := false) (d := d) (bar := bar) ho h (fun b hb => ?_) (fun R1 v hv ev C1 q10 q11 q9 => ?_)
      · rw [r10, r11, ek]; exact hbar b hb
      have ho1 := ok_sweek (truly := false) (bar := bar) ho (show kw + i < 20000 by omega) ek
      have ek1 : (sp_week false bar n W).1 2 = nI (kw + (i + 1)) := by rw [th_wk ho ek]; rfl
      have lm := lmN_le (W := (sp_week false bar n W).1) n
      have eA := CR_all ho1 C1
      rw [lmany_N] at eA
      have p14 : ¬ (sp_week false bar n W).1 14 = nI 0 := by rw [stp_week ho (by unfold stp; omega)]; exact h14
      have nall : sp_b2 (cAll I R1) = nI 0 → lmN (sp_week false bar n W).1 n < n := by
        intro y
        rw [eA, sp_b20, decide_eq_false_iff_not, xn_eq (by omega) (by omega)] at y
        omega
      refine yt_108_95 (d := d + 3) ⟨fun z2 => ⟨fun z3 => ?_, fun z3 => ?_⟩, fun z2 => ?_⟩
      · have hl1 := nall z2
        rw [if_neg (by omega)] at hp
        refine yl_112 ho1 C1 (fun zz hz => yt_108_122 (d := d + 5) ⟨fun y => ?_, fun y => ?_⟩)
        · exact ih (i + 1) R1 _ _ _ ho1 C1 ek1 (by omega) hl1 p14 (q10.trans r10) (q11.trans r11) hp
        · rcases hz with hz | ⟨-, s2, s3, s4⟩
          · exact absurd hz y
          · rw [(CR_0 h).1, stp_week ho (by unfold stp; omega)] at s2
            rw [stp_week ho (by unfold stp; omega)] at s3
            have stk := stk_in ho (by rw [← (CR_L h).1, ← (CR_L C1).1]; exact z3) s2 s4 s3 h14 hl1
            rw [bt_stk ho1 ek1 (by omega) stk] at hp
            exact hp R1 (tk_CR C1) (q10.trans r10) (q11.trans r11)
      · have hl1 := nall z2
        rw [if_neg (by omega)] at hp
        exact ih (i + 1) R1 _ _ _ ho1 C1 ek1 (by omega) hl1 p14 (q10.trans r10) (q11.trans r11) hp
      · rw [eA] at z2
        have z2 := sp_b21 z2
        rw [decide_eq_true_eq, xn_eq (by omega) (by omega)] at z2
        rw [if_pos z2] at hp
        rw [(CR_0 h).1]
        exact hp R1 (tk_CR C1) (q10.trans r10) (q11.trans r11)
theorem yl_108 {kw : Nat} (ho : ok n ns W) (h : CR false n ns I R W) (ek : W 2 = nI kw) (hkw : kw ≤ 19000) (hh : ∀ i, i < 300 → ∀ b, b < n → (nI b = (if i < idle then blk else Int32.ofInt (-1)) ↔ nI b = R 9 10 ∧ nI (kw + i) < R 9 11)) (hp : ∀ R', tk R' → R' 9 10 = R 9 10 → R' 9 11 = R 9 11 → Q (some (.int (th_by n blk idle last W))) (xq_s g J (xc false I R'))) : xq_wp (d + 5) 108 (xq_s g J (xc false I R)) 0 [.ref 46, .int last, xq_un, xq_un, xq_un] [] Q := by
  have n14 := ho.1.2.1
  have lm := lmN_le (W := W) n
  have eA := CR_all ho h
  rw [lmany_N] at eA
  unfold th_by th_close at hp
  have em : xq_max (nI 0) (W 2 - nI 1) = nI (kw - 1) := by rw [ek]; exact xn_msub (by omega) (by omega)
  refine yt_108 (d := d + 3) ⟨fun z => ?_, fun z => ?_⟩
  · rw [(CR_G h).1, ho.1.1, xn_eq (by omega) (by omega)] at z
    rw [if_pos z, th_lim_1] at hp
    exact hp R (tk_CR h) rfl rfl
  · rw [(CR_G h).1, ho.1.1, xn_eq (by omega) (by omega)] at z
    rw [if_neg z] at hp
    refine ⟨fun z2 => ?_, fun z2 => ?_⟩
    · rw [eA, sp_b20, decide_eq_false_iff_not, xn_eq (by omega) (by omega)] at z2
      rw [if_neg z2, ← th_bt_it (ns := ns) 300 0 kw W ho ek (by omega)] at hp
      refine yl_109 (d := d + 1) ho h ⟨kw, hkw, ek⟩ (by omega) (fun R1 zz C1 r9 hz => yt_108_49 (d := d + 5) ⟨fun y => ?_, fun y => ?_⟩)
      · rcases hz with hz | hz
        · exact yl_108_56 (hB := R 9 10) (hU := R 9 11) hkw hh 300 0 R1 W _ _ ho C1 ek (by omega) (by omega) hz.2 (by rw [r9]) (by rw [r9]) hp
        · rw [hz.1] at y; exact absurd y (by decide)
      · rcases hz with hz | hz
        · exact absurd hz.1 y
        · rw [hz.2 blk idle 0] at hp
          exact hp R1 (tk_CR C1) (by rw [r9]) (by rw [r9])
    · rw [eA] at z2
      have z2 := sp_b21 z2
      rw [decide_eq_true_eq, xn_eq (by omega) (by omega)] at z2
      rw [if_pos z2, em] at hp
      rw [(CR_0 h).1, em]
      refine ⟨fun z3 => ?_, fun z3 => ?_⟩
      · rw [th_lim, if_pos (Or.inr z3)] at hp
        exact hp R (tk_CR h) rfl rfl
      · rw [th_lim, if_neg (fun y => y.elim (nI_m1 (by omega)) z3)] at hp
        exact hp R (tk_CR h) rfl rfl
end yk_th2
