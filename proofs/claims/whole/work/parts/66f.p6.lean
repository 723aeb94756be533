/-! text: the pair -/
section yk_p6
variable {g : xq_V} {J : Nat → Nat → Int64} {I I1 X Y A : Nat → xw} {t k s j : Nat}
theorem rs_same0 (h : I 104 7 = nI 0) : rs I 0 = I := by
  unfold rs
  rw [← h]
  funext a q
  by_cases z : a = 104
  · subst z
    by_cases w : q = 7
    · subst w; rw [xw_v]
    · rw [xw_x w]
  · rw [xw_i z]
/-- the class, once it told a fault -/
def bX (Y : Nat → xw) (k s j : Nat) : Nat → xw := xq_w (xq_w (rs (xq_w (xq_w Y 104 8 (nI k)) 104 9 (nI s)) j) 104 1 (nI 0)) 34 4 (nI 0)
theorem bX_a (hr : rdF I I1) (hY : gF I1 Y) : ∀ a, ¬ a = 34 → ¬ (104 ≤ a ∧ a < 126) → bX Y k s j a = I a := fun a h1 h2 => by
  unfold bX rs
  rw [xw_i h1, xw_i (by omega), xw_i (by omega), xw_i (by omega), xw_i (by omega), hY a (by omega), hr.1 a (by omega) (by omega)]
theorem bX_34 : bX Y k s j 34 4 = nI 0 := xw_v
theorem bX_1 : bX Y k s j 104 1 = nI 0 := by unfold bX; rw [xw_i (by omega), xw_v]
theorem bX_8 : bX Y k s j 104 8 = nI k := by unfold bX rs; rw [xw_i (by omega), xw_x (by omega), xw_x (by omega), xw_x (by omega), xw_v]
theorem bX_9 : bX Y k s j 104 9 = nI s := by unfold bX rs; rw [xw_i (by omega), xw_x (by omega), xw_x (by omega), xw_v]
theorem P6 : xq_P6 126 Inv := by
  intro z
  refine pair_of (fun g J I hi => ?_)
  have hi' := hi
  obtain ⟨n, ns, hA, hT0, hPl, ⟨⟨l, hl, e1, e18, htape⟩, _, _⟩, _⟩ := hi
  have htp : ∀ p, p < l → I 105 p = nI (sp_ix (I 105) p) ∧ sp_ix (I 105) p < 256 := fun p hp => by
    obtain ⟨_, c, hc, ec⟩ := htape p hp
    rw [xk_ix ec (by omega)]; exact ⟨ec, hc⟩
  refine tx_26 (d := 89) (yl_27 (d := 87) (tp := fun p => sp_ix (I 105) p) hl htp e1 (fun t st sz I1 htl hP hR h6 h106 h107 h7 h8 h9 hrd => ?_))
  have h4 : t ≤ 400 := by omega
  have cTr := fun r (hr : r < 4) => cT_of (r := r) hr hl htl (fun p hp => by rw [hrd.1 105 (by omega) (by omega)]; exact htp p hp) hP hR h6 h106 h107
  have mi : ∀ (r : Nat), r < 4 → ∀ (X : Nat → xw) (Q : Option Value → xq_S → Prop), X 126 = I 126 → X 135 = I 135 → (∀ v : Int32, mT r (x0 r X) t (tcF r (fun p => sp_ix (I 105) p) t st sz) (vlF (fun p => sp_ix (I 105) p) st sz) (ssF l t st) (enF l t st sz) → (tcF r (fun p => sp_ix (I 105) p) t st sz 0 = 2 → v = nI (vlF (fun p => sp_ix (I 105) p) st sz 0)) → xq_wp 90 169 (xq_s g J (ms (x0 r X) (enF l t st sz 0) (tcF r (fun p => sp_ix (I 105) p) t st sz 0) (ssF l t st 0) v)) 45 [.ref 126, .int (nI r), xq_un] [] Q) → xq_wp 90 169 (xq_s g J X) 0 [.ref 126, .int (nI r), xq_un] [] Q := fun r hr X Q x126 x135 h => md_in hr hl htl (by rw [x126]; exact e18) (fun p hp => by rw [x135, ← (htape p hp).1]; exact htp p hp) hP h
  have i1 : ∀ a, ¬ (104 ≤ a ∧ a < 110) → I1 a = I a := fun a ha => hrd.1 a (by omega) (by omega)
  have hv2 := mT_vl (⟨l, fun p => sp_ix (I 105) p, st, sz, ⟨by omega, hl, x0_13, by rw [x0_j (by omega), i1 126 (by omega)]; exact e18, fun p hp => by rw [x0_a (by omega), i1 135 (by omega), ← (htape p hp).1]; exact htp p hp⟩, hP, htl, rfl, rfl, rfl, rfl⟩ : mT 2 (x0 2 I1) t (tcF 2 (fun p => sp_ix (I 105) p) t st sz) (vlF (fun p => sp_ix (I 105) p) st sz) (ssF l t st) (enF l t st sz))
  -- the draft of the ground
  have dr : ∀ A : Nat → xw, (∀ t, t < 110 ∨ 110 + 6 < t → A t = I1 t) → gF I1 A ∧ rs A 0 = A := fun A a1 => ⟨fun a ha => a1 a (by omega), rs_same0 (by rw [a1 104 (by omega)]; exact h7)⟩
  refine tx_26_7 (d := 89) ⟨fun z0 => ?_, fun z0 => ⟨fun z1 => ?_, fun z1 => ⟨fun z2 => ?_, fun z2 => ⟨fun z3 => ?_, fun z3 => ?_⟩⟩⟩⟩
  · subst z0
    refine tx_31 (d := 88) (cp_32 sh_110 sh_y1.2.2.2.2.2.2.2.1 (by omega) (fun A a1 a2 a3 a4 a5 a6 a7 a8 a9 => ?_))
    obtain ⟨gA, rA⟩ := dr A a1
    refine tx_31_14 (d := 88) (I := A) (g := g) (J := J) ⟨fun _ => ?_, fun y => absurd rfl y⟩
    rw [← rA]
    refine td_33 (d := 88) (cT_gF (cTr 0 (by omega)) gA) (yl_33_7 (d := 84) (cTr 0 (by omega)) 15 0 [] _ (by decide) ⟨Nat.zero_le _, fun k hk => absurd hk (by show ¬ k < 0; omega)⟩ (Nat.zero_le _) (gF_w gA (by omega)) xw_v (fun k hk => absurd hk (by show ¬ k < 0; omega)) (fun k j e Y j' gY => ?_) (fun a e hK Y j' gY y0 yo yR => ?_))
    · refine tx_31_29_0 (d := 89) (tx_26_23 (d := 89) ⟨_, g, J, bX Y k (ssF l t st j) j', rfl, rfl, ⟨_, rfl⟩, ?_⟩)
      exact mi 0 (by omega) _ _ (bX_a hrd gY 126 (by omega) (by omega)) (bX_a hrd gY 135 (by omega) (by omega)) (fun v hM hv => md_0b hi' hM h4 hv e (bX_a hrd gY) bX_34 bX_1 bX_8 bX_9)
    · refine yl_gr0 (d := 86) gY (fun X hg => ⟨_, g, J, X, rfl, rfl, ⟨_, rfl⟩, ?_⟩)
      have xa : ∀ a, 126 ≤ a → X a = I a := fun a ha => (hg.1 a (by omega) (by omega) (by omega) (by omega) (by omega) (by omega) (by omega) (by omega)).trans (i1 a (by omega))
      rw [y0]
      refine mi 0 (by omega) _ _ (xa 126 (by omega)) (xa 135 (by omega)) (fun v hM hv => md_0o hi' hM e hrd h8 h9 hg y0 ?_ yR (fun q hq => ⟨?_, ?_⟩))
      · rw [yo 110 (by omega) 5 (by omega), xw_x (by omega), ← i1 2 (by omega)]; exact a3
      · rw [yo 115 (by omega) q (by omega), xw_i (by omega), ← i1 7 (by omega)]; exact a8 q hq
      · rw [yo 116 (by omega) q (by omega), xw_i (by omega), ← i1 8 (by omega)]; exact a9 q hq
  · subst z1
    refine tx_31 (d := 88) (cp_32 sh_110 sh_y1.2.2.2.2.2.2.2.1 (by omega) (fun A a1 a2 a3 a4 a5 a6 a7 a8 a9 => ?_))
    obtain ⟨gA, rA⟩ := dr A a1
    refine tx_31_14 (d := 88) (I := A) (g := g) (J := J) ⟨fun y => absurd y z0, fun _ => ?_⟩
    rw [← rA]
    refine tw_46 (d := 88) (cT_gF (cTr 1 (by omega)) gA) (yl_46_7 (d := 86) (cTr 1 (by omega)) 9 0 [] _ _ (by decide) (Nat.zero_le _) (Nat.zero_le _) (gF_w gA (by omega)) xw_v (fun k hk => absurd hk (by show ¬ k < 0; omega)) (fun k j e Y j' gY => ?_) (fun a e la Y j' gY y5 yo yR => ?_))
    · refine tx_31_43_0 (d := 89) (tx_26_23 (d := 89) ⟨_, g, J, bX Y k (ssF l t st j) j', rfl, rfl, ⟨_, rfl⟩, ?_⟩)
      exact mi 1 (by omega) _ _ (bX_a hrd gY 126 (by omega) (by omega)) (bX_a hrd gY 135 (by omega) (by omega)) (fun v hM hv => md_1b hi' hM h4 hv e (bX_a hrd gY) bX_34 bX_1 bX_8 bX_9)
    · refine yl_gr1 (d := 86) gY (fun X hg => ⟨_, g, J, X, rfl, rfl, ⟨_, rfl⟩, ?_⟩)
      have xa : ∀ a, 126 ≤ a → X a = I a := fun a ha => (hg.1 a (by omega) (by omega) (by omega) (by omega) (by omega) (by omega) (by omega) (by omega)).trans (i1 a (by omega))
      rw [y5]
      refine mi 1 (by omega) _ _ (xa 126 (by omega)) (xa 135 (by omega)) (fun v hM hv => md_1o hi' hM e hrd h8 h9 hg ?_ y5 (fun q hq => ⟨?_, ?_, ?_, ?_⟩) yR)
      · rw [yo 110 (by omega) (by omega) 0 (by omega), xw_x (by omega), ← i1 2 (by omega)]; exact a2
      · rw [yo 111 (by omega) (by omega) q (by omega), xw_i (by omega), ← i1 3 (by omega)]; exact a4 q hq
      · rw [yo 112 (by omega) (by omega) q (by omega), xw_i (by omega), ← i1 4 (by omega)]; exact a5 q hq
      · rw [yo 113 (by omega) (by omega) q (by omega), xw_i (by omega), ← i1 5 (by omega)]; exact a6 q hq
      · rw [yo 114 (by omega) (by omega) q (by omega), xw_i (by omega), ← i1 6 (by omega)]; exact a7 q hq
  · subst z2
    rw [← rs_same0 h7]
    refine yl_50 (d := 66) (cTr 2 (by omega)) hv2 gF_0 (fun k j e Y j' gY => ?_) (fun p e hK hl2 Y j' gY hC => ?_)
    · refine tx_26_43_0 (d := 89) ⟨_, g, J, bX Y k (ssF l t st j) j', rfl, rfl, ⟨_, rfl⟩, ?_⟩
      exact mi 2 (by omega) _ _ (bX_a hrd gY 126 (by omega) (by omega)) (bX_a hrd gY 135 (by omega) (by omega)) (fun v hM hv => md_2b hi' hM h4 hv e (bX_a hrd gY) bX_34 bX_1 bX_8 bX_9)
    · refine tx_26_43_1 (d := 89) (cp_58 sh_y1.2.2.2.2.2.2.2.2.1 sh_117 (by omega) (fun A a1 a2 a3 a4 a5 a6 a7 => ?_))
      have ry : ∀ a, ¬ a = 104 → rs Y j' a = Y a := fun a ha => xw_i ha
      have aa : ∀ a, ¬ (9 ≤ a ∧ a < 12) → A a = rs Y j' a := fun a ha => by
        by_cases z : a = 12
        · subst z; exact a2
        · by_cases z : a = 13
          · subst z; exact a3
          · exact a1 a (by omega)
      have c0 : A 9 0 = nI p.2.length := by
        have : A 9 0 = rs Y j' 117 0 := a4
        rw [this, ry 117 (by omega)]; exact hC.1
      refine tx_26_60 (d := 89) (I := A) (g := g) (J := J) ⟨_, g, J, xq_w (xq_w A 104 1 (nI 0)) 34 4 (nI 0), rfl, rfl, ⟨_, rfl⟩, ?_⟩
      rw [c0]
      have xa : ∀ a, ¬ (9 ≤ a ∧ a < 12) → ¬ a = 34 → ¬ (104 ≤ a ∧ a < 126) → xq_w (xq_w A 104 1 (nI 0)) 34 4 (nI 0) a = I a := fun a h1 h2 h3 => by
        rw [xw_i h2, xw_i (by omega), aa a h1, ry a (by omega), gY a (by omega), i1 a (by omega)]
      have xr : ∀ q, ¬ q = 1 → ¬ q = 7 → xq_w (xq_w A 104 1 (nI 0)) 34 4 (nI 0) 104 q = I1 104 q := fun q q1 q2 => by
        rw [xw_i (by omega), xw_x q1, aa 104 (by omega)]
        unfold rs
        rw [xw_x q2, gY 104 (by omega)]
      refine mi 2 (by omega) _ _ (xa 126 (by omega) (by omega) (by omega)) (xa 135 (by omega) (by omega) (by omega)) (fun v hM hv => md_2o hi' hM h4 hv e xa xw_v (by rw [xw_i (by omega), xw_v]) ((xr 8 (by omega) (by omega)).trans h8) ((xr 9 (by omega) (by omega)).trans h9) ?_ (fun q hq => ?_) (fun q hq => ?_))
      · rw [xw_i (by omega), xw_i (by omega)]; exact c0
      · rw [xw_i (by omega), xw_i (by omega)]
        have : A 10 q = rs Y j' 118 q := a6 q (by omega)
        rw [this, ry 118 (by omega)]; exact hC.2.2.1 q hq
      · rw [xw_i (by omega), xw_i (by omega)]
        have h16 := hK.1
        have : A 11 q = rs Y j' 119 q := a7 q (by omega)
        rw [this, ry 119 (by omega)]; exact hC.2.2.2 q hq
  · subst z3
    rw [← rs_same0 h7]
    refine yl_59 (d := 76) (cTr 3 (by omega)) gF_0 (fun k j e Y j' gY => ?_) (fun p e h100 hK Y j' gY y0 hC => ?_)
    · refine tx_26_90_0 (d := 89) ⟨_, g, J, bX Y k (ssF l t st j) j', rfl, rfl, ⟨_, rfl⟩, ?_⟩
      exact mi 3 (by omega) _ _ (bX_a hrd gY 126 (by omega) (by omega)) (bX_a hrd gY 135 (by omega) (by omega)) (fun v hM hv => md_3b hi' hM h4 hv e (bX_a hrd gY) bX_34 bX_1 bX_8 bX_9)
    · refine tx_26_90_1 (d := 89) (cp_66 sh_y1.2.2.2.2.2.2.2.2.2.1 sh_122 (by omega) (fun A a1 a2 a3 a4 a5 => ?_))
      have ry : ∀ a, ¬ a = 104 → rs Y j' a = Y a := fun a ha => xw_i ha
      have aa : ∀ a, ¬ (14 ≤ a ∧ a < 18) → A a = rs Y j' a := fun a ha => a1 a (by omega)
      have c0 : A 14 0 = nI p.1 := by
        have : A 14 0 = rs Y j' 122 0 := a2
        rw [this, ry 122 (by omega)]; exact y0
      refine tx_26_107 (d := 89) (I := A) (g := g) (J := J) ⟨_, g, J, xq_w (xq_w A 104 1 (nI 0)) 34 4 (nI 0), rfl, rfl, ⟨_, rfl⟩, ?_⟩
      rw [c0]
      have xa : ∀ a, ¬ (14 ≤ a ∧ a < 18) → ¬ a = 34 → ¬ (104 ≤ a ∧ a < 126) → xq_w (xq_w A 104 1 (nI 0)) 34 4 (nI 0) a = I a := fun a h1 h2 h3 => by
        rw [xw_i h2, xw_i (by omega), aa a h1, ry a (by omega), gY a (by omega), i1 a (by omega)]
      have xr : ∀ q, ¬ q = 1 → ¬ q = 7 → xq_w (xq_w A 104 1 (nI 0)) 34 4 (nI 0) 104 q = I1 104 q := fun q q1 q2 => by
        rw [xw_i (by omega), xw_x q1, aa 104 (by omega)]
        unfold rs
        rw [xw_x q2, gY 104 (by omega)]
      refine mi 3 (by omega) _ _ (xa 126 (by omega) (by omega) (by omega)) (xa 135 (by omega) (by omega) (by omega)) (fun v hM hv => md_3o hi' hM h4 hv e xa xw_v (by rw [xw_i (by omega), xw_v]) ((xr 8 (by omega) (by omega)).trans h8) ((xr 9 (by omega) (by omega)).trans h9) ?_ (fun q hq hq1 => ?_))
      · rw [xw_i (by omega), xw_i (by omega)]; exact c0
      · rw [xw_i (by omega), xw_i (by omega), xw_i (by omega), xw_i (by omega), xw_i (by omega), xw_i (by omega)]
        have b1 : A 15 q = rs Y j' 123 q := a3 q hq1
        have b2 : A 16 q = rs Y j' 124 q := a4 q hq1
        have b3 : A 17 q = rs Y j' 125 q := a5 q hq1
        rw [b1, b2, b3, ry 123 (by omega), ry 124 (by omega), ry 125 (by omega)]
        exact hC q hq hq1
  · have endd : ∀ (Q : Option Value → xq_S → Prop), Q = (fun v2 x2 => v2 = some (Value.int (Int32.ofInt (-1))) ∧ Inv x2) → Q (some (.int (Int32.ofInt (-1)))) (xq_s g J (xq_w (xq_w (xq_w (xq_w (xq_w I1 104 1 (nI 0)) 34 4 (nI 0)) 126 25 (nI 0)) 126 27 (Int32.ofInt (-1))) 126 18 (nI 0))) := fun Q hQ => by
      rw [hQ]
      refine ⟨rfl, g, J, _, rfl, iv_same hi' (fun a a1 a2 a3 => ?_) (fun j hj => ?_) ?_ ?_ xw_v ?_ ?_⟩
      · rw [xw_i (by omega), xw_i (by omega), xw_i (by omega), xw_i a1, xw_i (by omega), i1 a (by omega)]
      · rw [xw_x (by omega), xw_x (by omega), xw_x (by omega), xw_i (by omega), xw_i (by omega), i1 126 (by omega)]
      · rw [xw_i (by omega), xw_i (by omega), xw_i (by omega), xw_v]
      · rw [xw_i (by omega), xw_i (by omega), xw_i (by omega), xw_i (by omega), xw_v]
      · rw [xw_i (by omega), xw_i (by omega), xw_i (by omega), xw_i (by omega), xw_x (by omega), h8, xw_x (by omega), xw_x (by omega), xw_v]
      · rw [xw_i (by omega), xw_i (by omega), xw_i (by omega), xw_i (by omega), xw_x (by omega), h9, xw_x (by omega), xw_v]
    refine ⟨_, g, J, xq_w (xq_w I1 104 1 (nI 0)) 34 4 (nI 0), rfl, rfl, ⟨_, rfl⟩, ?_⟩
    refine ty_169 (d := 89) ⟨fun _ => endd _ rfl, fun y => ⟨fun _ => endd _ rfl, fun y2 => ?_⟩⟩
    exfalso
    have b1 := mt Int32.lt_iff_toInt_lt.mpr y
    have b2 := mt Int32.lt_iff_toInt_lt.mpr y2
    rw [nI_toInt (by omega)] at b1 b2
    have : ∀ q : Nat, q < 4 → z.toInt = (q : Int) → z = nI q := fun q hq h => Int32.toInt_inj.mp (by rw [nI_toInt (by omega)]; exact h)
    have hz : z.toInt = 0 ∨ z.toInt = 1 ∨ z.toInt = 2 ∨ z.toInt = 3 := by omega
    rcases hz with h | h | h | h
    · exact z0 (this 0 (by omega) h)
    · exact z1 (this 1 (by omega) h)
    · exact z2 (this 2 (by omega) h)
    · exact z3 (this 3 (by omega) h)
end yk_p6
