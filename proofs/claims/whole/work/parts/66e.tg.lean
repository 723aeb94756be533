/-! text: THE DOME and THE WAY, to the end in the model (written by program) -/
def wyK (a : List (Nat × Nat)) : Prop := ∀ k, k < a.length → (a.getD k (0, 0)).1 < 4 ∧ 1 ≤ (a.getD k (0, 0)).2 ∧ (a.getD k (0, 0)).2 ≤ 99
theorem wyS_k {tc vl : Nat → Nat} : ∀ (f i : Nat) (acc a : List (Nat × Nat)), wyS tc vl f i acc = some (.inr a) → wyK acc → wyK a := by
  intro f
  induction f with
  | zero => intro i acc a h; exact absurd h (by simp [wyS])
  | succ f ih =>
    intro i acc a h hK
    rw [wyS] at h
    by_cases q0 : tc i = 0
    · rw [if_pos q0] at h
      rw [← Sum.inr.inj (Option.some.inj h)]; exact hK
    · rw [if_neg q0] at h
      by_cases q1 : 20 ≤ tc i ∧ tc i ≤ 23
      · rw [if_neg (fun z => z q1)] at h
        by_cases q2 : acc.length = 8
        · rw [if_pos q2] at h; exact absurd h (by simp)
        · rw [if_neg q2] at h
          by_cases q3 : tc (i + 1) = 2
          · rw [if_neg (fun z => z q3)] at h
            by_cases q4 : 1 ≤ vl (i + 1) ∧ vl (i + 1) ≤ (if tc i = 23 then 9 else 99)
            · rw [if_neg (fun z => z q4)] at h
              by_cases q5 : tc (i + 1 + 1) = 159
              · rw [if_neg (fun z => z q5)] at h
                refine ih _ _ _ h (fun k hk => ?_)
                rw [List.length_append, List.length_singleton] at hk
                by_cases z : k = acc.length
                · subst z
                  rw [gd_e]
                  exact ⟨by show tc i - 20 < 4; omega, q4.1, by have := q4.2; show vl (i + 1) ≤ 99; split at this <;> omega⟩
                · rw [gd_l (by omega)]; exact hK k (by omega)
              · rw [if_pos q5] at h; exact absurd h (by simp)
            · rw [if_pos q4] at h; exact absurd h (by simp)
          · rw [if_pos q3] at h; exact absurd h (by simp)
      · rw [if_pos q1] at h; exact absurd h (by simp)
section xk_tg
variable {g : xq_V} {J : Nat → Nat → Int64} {I I1 X Y F G : Nat → xw} {n ns t k j : Nat} {tc vl ss en : Nat → Nat} {v : Int32}
theorem md_0o {a : List (Nat × Nat × Nat × Nat)} (hi : iv g I) (hM : mT 0 (x0 0 X) t tc vl ss en) (e : doS tc vl 15 0 [] = some (.inr a)) (hr : rdF I I1) (h8 : I1 104 8 = nI 0) (h9 : I1 104 9 = Int32.ofInt (-1)) (hg : gPost I1 G X) (g0 : G 110 0 = nI a.length) (g5 : G 110 5 = I 2 5) (gR : doR a (G 111) (G 112) (G 113) (G 114)) (gS : ∀ j, j < 8 → G 115 j = I 7 j ∧ G 116 j = I 8 j) : xq_wp 90 169 (xq_s g J (ms (x0 0 X) (en 0) (tc 0) (ss 0) v)) 45 [.ref 126, .int (nI 0), xq_un] [] (fun v2 x2 => v2 = some (.int (nI a.length)) ∧ Inv x2) := by
  refine ty_169_45_0 (d := 89) (tw_199_0 (d := 89) hM (fun k => by have := mT_b hM k; omega) (xl_199_0 (d := 81) hM 15 0 [] _ v ⟨Nat.zero_le _, fun k hk => absurd hk (by show ¬ k < 0; omega)⟩ (Nat.zero_le _) (nF_w nF_0 (by omega)) xw_v (fun k hk => absurd hk (by show ¬ k < 0; omega)) (fun k j e' => absurd (e.symm.trans e') (by simp)) (fun a' e' hK Y e1 c s v1 gY y16 hY => ?_) (by rw [e]; simp)))
  obtain rfl : a = a' := Sum.inr.inj (Option.some.inj (e.symm.trans e'))
  have n14 := hK.1
  refine ty_169_73_0_1 (d := 89) (xl_205_0 (d := 87) (n := a.length) n14 (by rw [xw_x (by omega), msj (by omega), gY.2 13 (by omega)]; exact x0_13) (by rw [xw_x (by omega), msj (by omega)]; exact y16) (fun F U o oj f4 hU hN => ty_169_111 (d := 90) ⟨rfl, g, J, F, rfl, ?_⟩))
  have fa : ∀ a, ¬ a = 126 → ¬ a = 127 → ¬ (131 ≤ a ∧ a < 135) → F a = X a := fun a a1 a2 a3 => by rw [o a a1 a2, xw_i a1, msa a1, gY.1 a a1 a3, x0_a a1]
  have xi : ∀ a, ¬ (2 ≤ a ∧ a < 9) → ¬ a = 18 → ¬ (21 ≤ a ∧ a < 23) → ¬ (25 ≤ a ∧ a < 28) → ¬ a = 34 → ¬ a = 56 → ¬ (104 ≤ a ∧ a < 126) → X a = I a := fun a h1 h2 h3 h4 h5 h6 h7 => (hg.1 a h1 h2 h3 h4 h5 h6 (by omega) (by omega)).trans (hr.1 a (by omega) (by omega))
  have b127 : xq_w (ms Y e1 c s v1) 126 18 (nI 0) 127 = I 127 := by rw [xw_i (by omega), msa (by omega), gY.1 127 (by omega) (by omega), x0_a (by omega), xi 127 (by omega) (by omega) (by omega) (by omega) (by omega) (by omega) (by omega)]
  have b133 : xq_w (ms Y e1 c s v1) 126 18 (nI 0) 133 = Y 133 := by rw [xw_i (by omega), msa (by omega)]
  have fj : ∀ j, ¬ j = 4 → ¬ (14 ≤ j ∧ j < 25) → ¬ j = 26 → ¬ j = 28 → F 126 j = x0 0 X 126 j := fun j j0 j1 j2 j3 => by rw [oj j j0, xw_x (by omega), msj (by omega), gY.2 j (by omega)]
  rw [b127, b133] at hU
  obtain ⟨u0, u1, u2⟩ := hU
  obtain ⟨w6, w3, w4, w5, w2, wb, we⟩ := hN
  have vw : ∀ p, ¬ p = 0 → ¬ (2 ≤ p ∧ p < 7) → ¬ (30 ≤ p ∧ p < 44) → ¬ (50 ≤ p ∧ p < 246) → True → F 127 p = I 127 p := fun p p0 p1 p2 p3 _ => by
    rw [we p p1 p2 (fun b hb => ⟨by omega, fun k k1 k2 => by omega⟩)]
    exact u2 p p0 (fun b hb => ⟨by omega, fun k hk => by omega⟩)
  have hi' := hi
  obtain ⟨n, ns, ⟨a1, a2, a2b, a3, a4, a5⟩, hT, hP, _, _, hH, _, _⟩ := hi
  have vb : ∀ b, b < a.length → ∀ k, k = 0 ∨ k = 2 ∨ k = 3 → F 127 (50 + 14 * b + k) = Y 133 (4 * b + k) := fun b hb k hk => by
    rw [we _ (by omega) (by omega) (fun b' hb' => ⟨by omega, fun k' k1 k2 => by omega⟩)]
    exact (u1 b hb).1 k (by omega)
  have v12 : ∀ b, b < a.length → F 127 (50 + 14 * b + 12) = Y 133 (4 * b + 1) := fun b hb => by
    rw [we _ (by omega) (by omega) (fun b' hb' => ⟨by omega, fun k' k1 k2 => by omega⟩)]
    exact (u1 b hb).2
  have v1' : ∀ b, b < a.length → F 127 (50 + 14 * b + 1) = Y 133 (4 * b + 1) := fun b hb => (wb b hb).2.1.trans (u1 b hb).2
  have v0 : F 127 0 = nI a.length := by
    rw [we 0 (by omega) (by omega) (fun b' hb' => ⟨by omega, fun k' k1 k2 => by omega⟩)]; exact u0
  have bl : ∀ b, b < a.length → blN (F 127) b := fun b hb => by
    obtain ⟨d1, d2, d3, d4⟩ := hY b hb
    obtain ⟨q1, q2, q3, q4⟩ := hK.2 b hb
    refine ⟨(wb b hb).1, ⟨_, q1.1, q1.2, (vb b hb 0 (by omega)).trans d1⟩, ?_, ⟨_, q4, (vb b hb 3 (by omega)).trans d4⟩, ⟨_, q2, (v12 b hb).trans d2, (v1' b hb).trans d2⟩, (wb b hb).2.2⟩
    rw [vb b hb 2 (by omega), d3]
    rcases (show (a.getD b (0, 0, 0, 0)).2.2.1 = 0 ∨ (a.getD b (0, 0, 0, 0)).2.2.1 = 1 by omega) with z | z
    · rw [z]; exact .inl rfl
    · rw [z]; exact .inr rfl
  have st : ok9 ns (F 127) := ok9_fr a1.2.2.2.2.2.2.2.2.2.1 (fun k hk => vw _ (by omega) (by omega) (by omega) (by omega) trivial)
  have e1' : F 127 1 = I 127 1 := vw 1 (by omega) (by omega) (by omega) (by omega) trivial
  have ns8 := a1.1.2.2.2
  obtain ⟨k1, k2, k3⟩ := new_ok (n := a.length) (ns := ns) a1 n14 ns8 v0 (e1'.trans a1.1.2.2.1) w2 w6 bl st (fun p hp => vw p (by omega) (by omega) (by omega) (by omega) trivial)
  have hGo := CR_G a3
  have hG : cG a.length ns X (F 127) := by
    obtain ⟨x20, x25, xb, xs⟩ := hg.2.1
    refine ⟨x20.trans (g0.trans v0.symm), x25.trans (g5.trans (hGo.2.1.trans e1'.symm)), fun b hb => ?_, fun k hk => ?_⟩
    · obtain ⟨y1, y2, y3, y4⟩ := xb b (by omega)
      obtain ⟨r1, r2, r3, r4⟩ := gR b hb
      obtain ⟨d1, d2, d3, d4⟩ := hY b hb
      refine ⟨y1.trans (r1.trans ((vb b hb 0 (by omega)).trans d1).symm), ⟨y3.trans (r3.trans ((vb b hb 2 (by omega)).trans d3).symm), y2.trans (r2.trans ((v12 b hb).trans d2).symm)⟩, y4.trans (r4.trans ((vb b hb 3 (by omega)).trans d4).symm)⟩
    · obtain ⟨z1, z2⟩ := xs k (by omega)
      obtain ⟨t1, t2⟩ := gS k (by omega)
      obtain ⟨q1, q2⟩ := hGo.2.2.2 k hk
      rw [vw (250 + 2 * k) (by omega) (by omega) (by omega) (by omega) trivial, vw (250 + 2 * k + 1) (by omega) (by omega) (by omega) (by omega) trivial]
      exact ⟨z1.trans (t1.trans q1), z2.trans (t2.trans q2)⟩
  have hv : ∀ b, b < a.length → G 112 b = F 127 (50 + 14 * b + 1) := fun b hb => (gR b hb).2.1.trans ((v1' b hb).trans (hY b hb).2.1).symm
  have C1 : CR true n ns I1 (xcR true I1) (I 127) := CR_cells a3 (fun a ha => hr.1 a (by omega) (by omega)) (by rw [hr.1 32 (by omega) (by omega)])
  have CX := new_CR (I := I1) (n := a.length) (ns := ns) a1 C1 n14 ⟨w2, w3, w4, w5, w6⟩ bl (fun p hp => vw p (by omega) (by omega) (by omega) (by omega) trivial) hG hg hv
  have CF : CR true a.length ns F (xcR true F) (F 127) := CR_cells CX (fun a ha => fa a (by omega) (by omega) (by omega)) (by rw [fa 32 (by omega) (by omega) (by omega)])
  obtain ⟨_, rr, _, hr5, _, _, h56, _⟩ := hH
  refine iv_tx (n := a.length) (ns := ns) hi' ⟨k1, k2, k3, CF, ?_, ?_⟩ ?_ (ivH_0 hr5 f4 ?_ ?_) (fun a ha => ?_) ?_ ?_ ?_ ?_ ?_ ?_
  · rw [fa 32 (by omega) (by omega) (by omega), xi 32 (by omega) (by omega) (by omega) (by omega) (by omega) (by omega) (by omega)]; exact a4
  · rw [fj 29 (by omega) (by omega) (by omega) (by omega), x0_j (by omega), xi 126 (by omega) (by omega) (by omega) (by omega) (by omega) (by omega) (by omega)]; exact a5
  · unfold ivP at hP ⊢
    rw [fa 14 (by omega) (by omega) (by omega), fa 15 (by omega) (by omega) (by omega), fa 16 (by omega) (by omega) (by omega), fa 17 (by omega) (by omega) (by omega), xi 14 (by omega) (by omega) (by omega) (by omega) (by omega) (by omega) (by omega), xi 15 (by omega) (by omega) (by omega) (by omega) (by omega) (by omega) (by omega), xi 16 (by omega) (by omega) (by omega) (by omega) (by omega) (by omega) (by omega), xi 17 (by omega) (by omega) (by omega) (by omega) (by omega) (by omega) (by omega)]
    exact plR_fr hP (fun p hp => vw p (by omega) (by omega) (by omega) (by omega) trivial)
  · rw [fa 56 (by omega) (by omega) (by omega)]; exact hg.2.2.2.2.2.2.1.1
  · rw [fa 56 (by omega) (by omega) (by omega), hg.2.2.2.2.2.2.1.2, hr.1 56 (by omega) (by omega)]; exact h56
  · rw [fa a (by omega) (by omega) (by omega), xi a (by omega) (by omega) (by omega) (by omega) (by omega) (by omega) (by omega)]
  · rw [fj 5 (by omega) (by omega) (by omega) (by omega), x0_j (by omega), xi 126 (by omega) (by omega) (by omega) (by omega) (by omega) (by omega) (by omega)]
  · rw [fa 34 (by omega) (by omega) (by omega)]; exact hg.2.2.2.2.2.2.2.1
  · rw [fa 104 (by omega) (by omega) (by omega)]; exact hg.2.2.2.2.2.2.2.2.1
  · rw [oj 18 (by omega), xw_v]
  · rw [fa 104 (by omega) (by omega) (by omega), hg.2.2.2.2.2.2.2.2.2 8 (by omega) (by omega), h8, fj 25 (by omega) (by omega) (by omega) (by omega), x0_25]
  · rw [fa 104 (by omega) (by omega) (by omega), hg.2.2.2.2.2.2.2.2.2 9 (by omega) (by omega), h9, fj 27 (by omega) (by omega) (by omega) (by omega), x0_27]
theorem md_1o {a : List (Nat × Nat)} (hi : iv g I) (hM : mT 1 (x0 1 X) t tc vl ss en) (e : wyS tc vl 9 0 [] = some (.inr a)) (hr : rdF I I1) (h8 : I1 104 8 = nI 0) (h9 : I1 104 9 = Int32.ofInt (-1)) (hg : gPost I1 G X) (g0 : G 110 0 = I 2 0) (g5 : G 110 5 = nI a.length) (gB : ∀ j, j < 14 → G 111 j = I 3 j ∧ G 112 j = I 4 j ∧ G 113 j = I 5 j ∧ G 114 j = I 6 j) (gR : wyR a (G 115) (G 116)) : xq_wp 90 169 (xq_s g J (ms (x0 1 X) (en 0) (tc 0) (ss 0) v)) 45 [.ref 126, .int (nI 1), xq_un] [] (fun v2 x2 => v2 = some (.int (nI a.length)) ∧ Inv x2) := by
  have hi' := hi
  obtain ⟨n, ns, ⟨a1, a2, a2b, a3, a4, a5⟩, hT, hP, _, _, hH, _, _⟩ := hi
  have n14 := a1.1.2.1
  have hKa := wyS_k 9 0 [] a e (fun k hk => absurd hk (by show ¬ k < 0; omega))
  refine ty_169_45_1 (d := 89) (tw_199_1 (d := 89) hM (fun k => by have := mT_b hM k; omega) (xl_199_1 (d := 83) hM 9 0 [] _ v (Nat.zero_le _) (Nat.zero_le _) (nF_w nF_0 (by omega)) xw_v (fun k hk => absurd hk (by show ¬ k < 0; omega)) (fun k j e' => absurd (e.symm.trans e') (by simp)) (fun a' e' hK Y e1 c s v1 gY y16 hY => ?_) (by rw [e]; simp)))
  obtain rfl : a = a' := Sum.inr.inj (Option.some.inj (e.symm.trans e'))
  have xi0 : X 127 = I 127 := (hg.1 127 (by omega) (by omega) (by omega) (by omega) (by omega) (by omega) (by omega) (by omega)).trans (hr.1 127 (by omega) (by omega))
  refine ty_169_73_1_1 (d := 89) (xl_205_1 (d := 87) (n := a.length) (m := n) hK n14 (by rw [xw_i (by omega), msa (by omega), gY.1 127 (by omega) (by omega), x0_a (by omega), xi0]; exact a1.1.1) (by rw [xw_x (by omega), msj (by omega), gY.2 13 (by omega)]; exact x0_13) (by rw [xw_x (by omega), msj (by omega)]; exact y16) (fun F U o oj f4 hU hN => ty_169_111 (d := 90) ⟨rfl, g, J, F, rfl, ?_⟩))
  have fa : ∀ a, ¬ a = 126 → ¬ a = 127 → ¬ (131 ≤ a ∧ a < 135) → F a = X a := fun a a1 a2 a3 => by rw [o a a1 a2, xw_i a1, msa a1, gY.1 a a1 a3, x0_a a1]
  have xi : ∀ a, ¬ (2 ≤ a ∧ a < 9) → ¬ a = 18 → ¬ (21 ≤ a ∧ a < 23) → ¬ (25 ≤ a ∧ a < 28) → ¬ a = 34 → ¬ a = 56 → ¬ (104 ≤ a ∧ a < 126) → X a = I a := fun a h1 h2 h3 h4 h5 h6 h7 => (hg.1 a h1 h2 h3 h4 h5 h6 (by omega) (by omega)).trans (hr.1 a (by omega) (by omega))
  have b127 : xq_w (ms Y e1 c s v1) 126 18 (nI 0) 127 = I 127 := by rw [xw_i (by omega), msa (by omega), gY.1 127 (by omega) (by omega), x0_a (by omega), xi 127 (by omega) (by omega) (by omega) (by omega) (by omega) (by omega) (by omega)]
  have b133 : xq_w (ms Y e1 c s v1) 126 18 (nI 0) 133 = Y 133 := by rw [xw_i (by omega), msa (by omega)]
  have fj : ∀ j, ¬ j = 4 → ¬ (14 ≤ j ∧ j < 25) → ¬ j = 26 → ¬ j = 28 → F 126 j = x0 1 X 126 j := fun j j0 j1 j2 j3 => by rw [oj j j0, xw_x (by omega), msj (by omega), gY.2 j (by omega)]
  rw [b127, b133] at hU
  obtain ⟨u0, u1, u2⟩ := hU
  obtain ⟨w6, w3, w4, w5, w2, wb, we⟩ := hN
  have uw : ∀ p, ¬ p = 1 → ¬ (250 ≤ p ∧ p < 270) → U p = I 127 p := fun p p1 p2 => u2 p p1 (fun b hb k hk => by omega)
  have vw : ∀ p, ¬ p = 1 → ¬ (2 ≤ p ∧ p < 7) → ¬ (30 ≤ p ∧ p < 44) → ¬ (50 ≤ p ∧ p < 246) → ¬ (250 ≤ p ∧ p < 270) → F 127 p = I 127 p := fun p p0 p1 p2 p3 p4 => by
    rw [we p p1 p2 (fun b hb => ⟨by omega, fun k k1 k2 => by omega⟩)]
    exact uw p p0 p4
  have vb : ∀ b, b < n → ∀ k, k = 0 ∨ k = 2 ∨ k = 3 ∨ k = 12 → F 127 (50 + 14 * b + k) = I 127 (50 + 14 * b + k) := fun b hb k hk => by
    rw [we _ (by omega) (by omega) (fun b' hb' => ⟨by omega, fun k' k1 k2 => by omega⟩)]
    exact uw _ (by omega) (by omega)
  have v1' : ∀ b, b < n → F 127 (50 + 14 * b + 1) = I 127 (50 + 14 * b + 12) := fun b hb => (wb b hb).2.1.trans (uw _ (by omega) (by omega))
  have v0 : F 127 0 = nI n := (vw 0 (by omega) (by omega) (by omega) (by omega) (by omega)).trans a1.1.1
  have v1 : F 127 1 = nI a.length := by
    rw [we 1 (by omega) (by omega) (fun b' hb' => ⟨by omega, fun k' k1 k2 => by omega⟩)]; exact u0
  have h8' := a1.2.2.2.2.2.2.2.2.1
  have bl : ∀ b, b < n → blN (F 127) b := fun b hb => by
    obtain ⟨q1, q2, q3, ⟨v, q4, q5⟩⟩ := h8' b hb
    refine ⟨(wb b hb).1, ?_, ?_, ?_, ⟨v, q4, (vb b hb 12 (by omega)).trans q5, (v1' b hb).trans q5⟩, (wb b hb).2.2⟩
    · rw [vb b hb 0 (by omega)]; exact q1
    · rw [vb b hb 2 (by omega)]; exact q2
    · rw [vb b hb 3 (by omega)]; exact q3
  have vs : ∀ k, k < a.length → F 127 (250 + 2 * k) = nI (a.getD k (0, 0)).1 ∧ F 127 (250 + 2 * k + 1) = nI (a.getD k (0, 0)).2 := fun k hk => by
    rw [we (250 + 2 * k) (by omega) (by omega) (fun b' hb' => ⟨by omega, fun k' k1 k2 => by omega⟩), we (250 + 2 * k + 1) (by omega) (by omega) (fun b' hb' => ⟨by omega, fun k' k1 k2 => by omega⟩), show 250 + 2 * k = 250 + 2 * k + 0 from rfl, u1 k hk 0 (by omega), u1 k hk 1 (by omega)]
    exact hY k hk
  have st : ok9 a.length (F 127) := fun k hk => by
    obtain ⟨q1, q2, q3⟩ := hKa k hk
    exact ⟨⟨_, q1, (vs k hk).1⟩, ⟨_, q2, q3, (vs k hk).2⟩⟩
  obtain ⟨k1, k2, k3⟩ := new_ok (n := n) (ns := a.length) a1 n14 hK v0 v1 w2 w6 bl st (fun p hp => vw p (by omega) (by omega) (by omega) (by omega) (by omega))
  have hGo := CR_G a3
  have hG : cG n a.length X (F 127) := by
    obtain ⟨x20, x25, xb, xs⟩ := hg.2.1
    refine ⟨x20.trans (g0.trans (hGo.1.trans (a1.1.1.trans v0.symm))), x25.trans (g5.trans v1.symm), fun b hb => ?_, fun k hk => ?_⟩
    · obtain ⟨y1, y2, y3, y4⟩ := xb b (by omega)
      obtain ⟨r1, r2, r3, r4⟩ := gB b (by omega)
      obtain ⟨d1, ⟨d2, d3⟩, d4⟩ := hGo.2.2.1 b hb
      exact ⟨y1.trans (r1.trans (d1.trans (vb b hb 0 (by omega)).symm)), ⟨y3.trans (r3.trans (d2.trans (vb b hb 2 (by omega)).symm)), y2.trans (r2.trans (d3.trans (vb b hb 12 (by omega)).symm))⟩, y4.trans (r4.trans (d4.trans (vb b hb 3 (by omega)).symm))⟩
    · obtain ⟨z1, z2⟩ := xs k (by omega)
      obtain ⟨t1, t2⟩ := gR k hk
      exact ⟨z1.trans (t1.trans (vs k hk).1.symm), z2.trans (t2.trans (vs k hk).2.symm)⟩
  have hv : ∀ b, b < n → G 112 b = F 127 (50 + 14 * b + 1) := fun b hb => (gB b (by omega)).2.1.trans ((hGo.2.2.1 b hb).2.1.2.trans (v1' b hb).symm)
  have C1 : CR true n ns I1 (xcR true I1) (I 127) := CR_cells a3 (fun a ha => hr.1 a (by omega) (by omega)) (by rw [hr.1 32 (by omega) (by omega)])
  have CX := new_CR (I := I1) (n := n) (ns := a.length) a1 C1 n14 ⟨w2, w3, w4, w5, w6⟩ bl (fun p hp => vw p (by omega) (by omega) (by omega) (by omega) (by omega)) hG hg hv
  have CF : CR true n a.length F (xcR true F) (F 127) := CR_cells CX (fun a ha => fa a (by omega) (by omega) (by omega)) (by rw [fa 32 (by omega) (by omega) (by omega)])
  obtain ⟨_, rr, _, hr5, _, _, h56, _⟩ := hH
  refine iv_tx (n := n) (ns := a.length) hi' ⟨k1, k2, k3, CF, ?_, ?_⟩ ?_ (ivH_0 hr5 f4 ?_ ?_) (fun a ha => ?_) ?_ ?_ ?_ ?_ ?_ ?_
  · rw [fa 32 (by omega) (by omega) (by omega), xi 32 (by omega) (by omega) (by omega) (by omega) (by omega) (by omega) (by omega)]; exact a4
  · rw [fj 29 (by omega) (by omega) (by omega) (by omega), x0_j (by omega), xi 126 (by omega) (by omega) (by omega) (by omega) (by omega) (by omega) (by omega)]; exact a5
  · unfold ivP at hP ⊢
    rw [fa 14 (by omega) (by omega) (by omega), fa 15 (by omega) (by omega) (by omega), fa 16 (by omega) (by omega) (by omega), fa 17 (by omega) (by omega) (by omega), xi 14 (by omega) (by omega) (by omega) (by omega) (by omega) (by omega) (by omega), xi 15 (by omega) (by omega) (by omega) (by omega) (by omega) (by omega) (by omega), xi 16 (by omega) (by omega) (by omega) (by omega) (by omega) (by omega) (by omega), xi 17 (by omega) (by omega) (by omega) (by omega) (by omega) (by omega) (by omega)]
    exact plR_fr hP (fun p hp => vw p (by omega) (by omega) (by omega) (by omega) (by omega))
  · rw [fa 56 (by omega) (by omega) (by omega)]; exact hg.2.2.2.2.2.2.1.1
  · rw [fa 56 (by omega) (by omega) (by omega), hg.2.2.2.2.2.2.1.2, hr.1 56 (by omega) (by omega)]; exact h56
  · rw [fa a (by omega) (by omega) (by omega), xi a (by omega) (by omega) (by omega) (by omega) (by omega) (by omega) (by omega)]
  · rw [fj 5 (by omega) (by omega) (by omega) (by omega), x0_j (by omega), xi 126 (by omega) (by omega) (by omega) (by omega) (by omega) (by omega) (by omega)]
  · rw [fa 34 (by omega) (by omega) (by omega)]; exact hg.2.2.2.2.2.2.2.1
  · rw [fa 104 (by omega) (by omega) (by omega)]; exact hg.2.2.2.2.2.2.2.2.1
  · rw [oj 18 (by omega), xw_v]
  · rw [fa 104 (by omega) (by omega) (by omega), hg.2.2.2.2.2.2.2.2.2 8 (by omega) (by omega), h8, fj 25 (by omega) (by omega) (by omega) (by omega), x0_25]
  · rw [fa 104 (by omega) (by omega) (by omega), hg.2.2.2.2.2.2.2.2.2 9 (by omega) (by omega), h9, fj 27 (by omega) (by omega) (by omega) (by omega), x0_27]
end xk_tg
