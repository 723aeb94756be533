/-! the pair: image, once a yard is made -/
/-- the class makes a yard for THE IMAGE -/
def imNew : Prop := ∀ (g : xq_V) (J : Nat → Nat → Int64) (I : Nat → xw) (Q : Option Value → xq_S → Prop), g.2.2.2.2.1 = none → g.1 ≤ 14 → (∀ (g' : xq_V) (J' : Nat → Nat → Int64) (I' : Nat → xw), g'.1 = g.1 + 31 → g'.2.1 ≤ g.2.1 + 1836 → (∀ a, a < g.1 + 143 → g'.2.2.1 a = g.2.2.1 a) → g'.2.2.2.2.1 = some (g.1 + 143) → g'.2.2.2.2.2 = g.2.2.2.2.2 → shY (xq_s g' J' I') (g.1 + 143) → (∀ t, t < g.1 + 143 → I' t = I t) → I' (g.1 + 143 + 26) 0 = nI 200 → xq_wp 90 153 (xq_s g' J' I') 22 [.ref 0, .int (nI 1)] [] Q) → xq_wp 90 153 (xq_s g J I) 11 [.ref 0, .int (nI 1)] [] Q
section xk_p29
variable {g g' : xq_V} {J : Nat → Nat → Int64} {I I1 : Nat → xw} {n ns y cnt : Nat}
theorem kI_i {k : Nat} {I : Nat → xw} (h1 : 1 ≤ k) (h2 : k < 32) : kI y I k = I (y + (k - 1)) := by rw [kI, if_pos ⟨h1, h2⟩]
/-- behind the class's keeping: the model keeps too -/
theorem im_keep {I0 : Nat → xw} (hi : iv g I0) (hJ : ivJ g') (hg : g'.2.2.2.2.1 = some y) (hy : 143 ≤ y) (hsh : ∀ J I, shY (xq_s g' J I) y) (e : ∀ t, t < 143 → I1 t = I0 t) (hcnt : ∀ c, I0 127 6 = nI c → c ≤ 200 → ∃ I, (∀ t, t < 143 → I t = I0 t) ∧ yc I1 I y 1 c) (h0 : I1 (y + 26) 0 = nI 200) : xq_wp 90 271 (xq_s g' J I1) 0 [.ref 126, .int (nI 1), xq_un] [] (fun v2 x2 => v2 = some (.int (nI 1)) ∧ Inv x2) := by
  have hi' := hi
  obtain ⟨n, ns, ⟨ho, hw, hbk, hC, h32, h29⟩, hT, hP, -⟩ := hi'
  obtain ⟨c, hc, ec⟩ := ho.2.1
  obtain ⟨I, eI, hyc⟩ := hcnt c ec hc
  have e127 : I1 127 = I0 127 := e 127 (by omega)
  rw [show xq_s g' J I1 = xq_s g' J (xiv I1 (I1 126) (I0 127) (I1 128)) from congrArg (xq_s g' J) (by rw [← e127, xiv_self])]
  refine xu_271_1 (d := 90) (xl_271_1 (d := 90) 2262 0 _ (by omega) ⟨rfl, g', J, _, rfl, ?_⟩)
  have eV : ∀ p, p < 2262 → (fun p => if 0 ≤ p ∧ p < 2262 then I0 127 p else I1 128 p) p = I0 127 p := fun p hp => if_pos (by omega)
  generalize (fun p => if 0 ≤ p ∧ p < 2262 then I0 127 p else I1 128 p) = V at *
  have o : ∀ a, ¬ a = 126 ∧ ¬ a = 127 ∧ ¬ a = 128 → xiv I1 (upd (I1 126) 5 (nI 1)) (I0 127) V a = I1 a := fun a ha => xiv_o ha
  have f126 : xiv I1 (upd (I1 126) 5 (nI 1)) (I0 127) V 126 = upd (I1 126) 5 (nI 1) := rfl
  have f127 : xiv I1 (upd (I1 126) 5 (nI 1)) (I0 127) V 127 = I0 127 := rfl
  have f128 : xiv I1 (upd (I1 126) 5 (nI 1)) (I0 127) V 128 = V := rfl
  generalize xiv I1 (upd (I1 126) 5 (nI 1)) (I0 127) V = I2 at *
  have oo : ∀ a, a < 143 → ¬ a = 126 → ¬ a = 128 → I2 a = I0 a := fun a h1 h2 h3 => by
    by_cases z : a = 127
    · subst z; exact f127
    · rw [o a ⟨h2, z, h3⟩]; exact e a h1
  have eA : ∀ k, 1 ≤ k → k < 32 → kI y I2 k = I1 (y + (k - 1)) := fun k h1 h2 => by rw [kI_i h1 h2, o _ (by omega)]
  have eB : ∀ k, 1 ≤ k → k < 32 → I0 k = I (1 + (k - 1)) := fun k h1 h2 => by rw [show 1 + (k - 1) = k by omega, eI k (by omega)]
  refine iv_im hi oo (fun j hj => ?_) (Or.inr ⟨y, n, ns, hg, hy, ?_, hsh _ _, ?_, ?_, ?_, ?_, ?_⟩) hJ
  · rw [f126, upd_ne hj, e 126 (by omega)]
  · rw [f126, upd_eq]
  · rw [f128]; exact ok_ext ho eV
  · rw [f128]; exact w9_fr hw (eV 2 (by omega))
  · rw [f128]; exact bkw_fr ho.2.1 hbk (eV 6 (by omega)) (fun p p1 p2 => eV p (by omega))
  · rw [f128]
    refine CR_W ho (CR_yc ho hC ec hc hyc eA eB ?_ ?_) eV
    · rw [eA 27 (by omega) (by omega)]; exact h0
    · show (if 1 ≤ 32 ∧ 32 < 32 then I2 (y + (32 - 1)) else I2 32) 4 = nI 1
      rw [if_neg (by omega), oo 32 (by omega) (by omega) (by omega)]; exact CR_real hC
  · rw [f128]
    exact plR_W (plR_yc hP hyc eA eB) eV
theorem P29_of (al : imNew) : xq_P29 126 Inv := by
  intro z
  refine pair_of (fun g J I hi => ?_)
  have hi' := hi
  obtain ⟨n, ns, ⟨ho, hw, hbk, hC, h32, h29⟩, hT, hP, hR, hS, hH, hK, hJ⟩ := hi'
  obtain ⟨c0, hc0, ec0⟩ := ho.2.1
  have hB := (CR_B hC).1 rfl
  have b0 : I 27 0 = nI 200 := hB.1
  have b1 : I 27 1 = nI c0 := hB.2.1.trans ec0
  have hz : xq_bz z = nI 0 ∨ xq_bz z = nI 1 := by
    unfold xq_bz
    split
    · exact Or.inl rfl
    · exact Or.inr rfl
  rcases hK with ⟨k1, k2⟩ | ⟨y, n', ns', k1, k2, k3, k4, k5, k6, k6b, k7, k8⟩
  · rcases hz with hz | hz
    · show xq_wp 90 153 (xq_s g J I) 0 [.ref 0, .int (xq_bz z)] [] _
      rw [hz]
      refine zl_153_n0 k1 ⟨_, g, J, I, rfl, rfl, ⟨_, rfl⟩, ?_⟩
      show xq_wp 90 271 (xq_s g J I) 0 [.ref 126, .int (nI 0), xq_un] [] _
      rw [show xq_s g J I = xq_s g J (xiv I (I 126) (I 127) (I 128)) from congrArg (xq_s g J) (xiv_self I).symm]
      exact xu_271_0 (d := 90) (h := 0) ⟨k2, by omega, fun _ => ⟨rfl, g, J, I, congrArg (xq_s g J) (xiv_self I), hi⟩, fun h => absurd rfl h⟩
    · show xq_wp 90 153 (xq_s g J I) 0 [.ref 0, .int (xq_bz z)] [] _
      rw [hz]
      obtain ⟨e, o, he, ho1, ho2, ho3, ho4⟩ := hJ
      rw [if_pos k1] at ho3 ho4
      refine zl_153_n1 k1 (al g J I _ k1 (by omega) (fun g' J' I' a1 a2 a3 a4 a5 a6 a7 a8 => ?_))
      refine zl_153_22 (d := 87) a4 (by omega) a6 hc0 a8 (by rw [a7 27 (by omega)]; exact b1) (fun I1 o1 hyc => ⟨_, g', J', I1, rfl, rfl, ⟨_, rfl⟩, ?_⟩)
      refine im_keep hi ⟨e, o, he, a5.trans ho1, ?_, ?_, ?_⟩ a4 (by omega) (fun _ _ => a6) (fun t ht => (o1 t (by omega)).trans (a7 t (by omega))) (fun c ec hc => ⟨I', fun t ht => a7 t (by omega), ?_⟩) ?_
      · rcases ho2 with q | ⟨q1, q2, q3⟩
        · exact Or.inl q
        · exact Or.inr ⟨q1, by omega, (a3 o (by omega)).trans q3⟩
      · rw [if_neg (by rw [a4]; exact fun z => nomatch z)]; omega
      · rw [if_neg (by rw [a4]; exact fun z => nomatch z)]; omega
      · have : c = c0 := (xn_eq (by omega) (by omega)).mp (ec.symm.trans ec0)
        subst this; exact hyc
      · exact hyc.2.2.2.2.1.trans a8
  · have hsh : ∀ J I, shY (xq_s g J I) y := fun _ _ => k4
    have kB := (CR_B k7).1 rfl
    have k0 : I (y + 26) 0 = nI 200 := kB.1
    rcases hz with hz | hz
    · show xq_wp 90 153 (xq_s g J I) 0 [.ref 0, .int (xq_bz z)] [] _
      rw [hz]
      obtain ⟨c, hc, ec⟩ := k5.2.1
      have kl : I (y + 26) 1 = nI c := kB.2.1.trans ec
      refine zl_153_0 (d := 86) k1 k2 (hsh _ _) hc b0 kl (fun I1 o1 hyc => ⟨_, g, J, _, rfl, rfl, ⟨_, rfl⟩, ?_⟩)
      show xq_wp 90 271 _ 0 [.ref 126, .int (nI 0), xq_un] [] _
      have o2 : ∀ a, ¬ a = 34 → ¬ a = 56 → xq_w (xq_w I1 56 3 (nI 0)) 34 4 (nI 0) a = I1 a := fun a a1 a2 => by rw [xw_i a1, xw_i a2]
      have p34 : xq_w (xq_w I1 56 3 (nI 0)) 34 4 (nI 0) 34 4 = nI 0 := by rw [xw_v]
      have p563 : xq_w (xq_w I1 56 3 (nI 0)) 34 4 (nI 0) 56 3 = nI 0 := by rw [xw_i (by omega), xw_v]
      have p562 : xq_w (xq_w I1 56 3 (nI 0)) 34 4 (nI 0) 56 2 = I 56 2 := by rw [xw_i (by omega), xw_x (by omega), o1 56 (by omega)]
      generalize xq_w (xq_w I1 56 3 (nI 0)) 34 4 (nI 0) = I2 at *
      have oI : ∀ a, ¬ a = 34 → ¬ a = 56 → a < 1 ∨ 31 < a → I2 a = I a := fun a a1 a2 a3 => (o2 a a1 a2).trans (o1 a a3)
      have e126 : I2 126 = I 126 := oI 126 (by omega) (by omega) (by omega)
      have e127 : I2 127 = I 127 := oI 127 (by omega) (by omega) (by omega)
      have e128 : I2 128 = I 128 := oI 128 (by omega) (by omega) (by omega)
      rw [show xq_s g J I2 = xq_s g J (xiv I2 (I 126) (I 127) (I 128)) from congrArg (xq_s g J) (by rw [← e126, ← e127, ← e128, xiv_self])]
      refine xu_271_0 (d := 90) (h := 1) ⟨k3, by omega, fun h => absurd h (by omega), fun _ => xl_271_0 (d := 89) 2262 0 _ (by omega) ⟨rfl, g, J, _, rfl, ?_⟩⟩
      have eW : ∀ p, p < 2262 → (fun p => if 0 ≤ p ∧ p < 2262 then I 128 p else I 127 p) p = I 128 p := fun p hp => if_pos (by omega)
      generalize (fun p => if 0 ≤ p ∧ p < 2262 then I 128 p else I 127 p) = W' at *
      have ov : ∀ a, ¬ a = 126 ∧ ¬ a = 127 ∧ ¬ a = 128 → xiv I2 (upd (upd (I 126) 4 (nI 0)) 5 (nI 1)) W' (I 128) a = I2 a := fun a ha => xiv_o ha
      have f126 : xiv I2 (upd (upd (I 126) 4 (nI 0)) 5 (nI 1)) W' (I 128) 126 = upd (upd (I 126) 4 (nI 0)) 5 (nI 1) := rfl
      have f127 : xiv I2 (upd (upd (I 126) 4 (nI 0)) 5 (nI 1)) W' (I 128) 127 = W' := rfl
      have f128 : xiv I2 (upd (upd (I 126) 4 (nI 0)) 5 (nI 1)) W' (I 128) 128 = I 128 := rfl
      generalize xiv I2 (upd (upd (I 126) 4 (nI 0)) 5 (nI 1)) W' (I 128) = I3 at *
      have oo : ∀ a, ¬ a = 34 → ¬ a = 56 → a < 1 ∨ 31 < a → ¬ a = 126 ∧ ¬ a = 127 ∧ ¬ a = 128 → I3 a = I a := fun a a1 a2 a3 a4 => (ov a a4).trans (oI a a1 a2 a3)
      have eA : ∀ k, 1 ≤ k → k < 32 → I3 k = I1 (1 + (k - 1)) := fun k h1 h2 => by rw [show 1 + (k - 1) = k by omega, ov k (by omega), o2 k (by omega) (by omega)]
      have eB : ∀ k, 1 ≤ k → k < 32 → kI y I k = I (y + (k - 1)) := fun k h1 h2 => kI_i h1 h2
      have r32 : I3 32 = I 32 := oo 32 (by omega) (by omega) (by omega) (by omega)
      refine iv_told (n := n') (ns := ns') hi ⟨?_, ?_, ?_, ?_, ?_, ?_⟩ ?_ ?_ ?_ ?_ ?_ (fun a ha => ?_) (fun j hj => ?_) ?_
      · rw [f127]; exact ok_ext k5 eW
      · rw [f127]; exact w9_fr k6 (eW 2 (by omega))
      · rw [f127]; exact bkw_fr k5.2.1 k6b (eW 6 (by omega)) (fun p p1 p2 => eW p (by omega))
      · rw [f127]
        refine CR_W k5 (CR_yc k5 k7 ec hc hyc eA eB ?_ (by rw [r32]; exact CR_real hC)) eW
        rw [eA 27 (by omega) (by omega)]
        exact hyc.2.2.2.2.1.trans b0
      · rw [r32]; exact h32
      · rw [f126, upd_ne (by omega), upd_ne (by omega)]; exact h29
      · rw [ov 34 (by omega)]; exact p34
      · rw [ov 56 (by omega)]; exact p563
      · rw [f126, upd_ne (by omega), upd_eq]
      · rw [ov 56 (by omega)]; exact p562
      · unfold ivP
        rw [f127]
        exact plR_W (plR_yc k8 hyc eA eB) eW
      · by_cases z128 : a = 128
        · subst z128; exact f128
        · exact oo a (by omega) (by omega) (by omega) (by omega)
      · rw [f126]
        by_cases j5 : j = 5
        · subst j5; rw [upd_eq]; exact k3.symm
        · rw [upd_ne j5, upd_ne (by omega)]
      · rw [r32]
    · show xq_wp 90 153 (xq_s g J I) 0 [.ref 0, .int (xq_bz z)] [] _
      rw [hz]
      refine zl_153_1 (d := 87) k1 (zl_153_22 (d := 87) k1 k2 (hsh _ _) hc0 k0 b1 (fun I1 o1 hyc => ⟨_, g, J, I1, rfl, rfl, ⟨_, rfl⟩, ?_⟩))
      refine im_keep hi hJ k1 k2 hsh (fun t ht => o1 t (by omega)) (fun c ec hc => ⟨I, fun _ _ => rfl, ?_⟩) (hyc.2.2.2.2.1.trans k0)
      have : c = c0 := (xn_eq (by omega) (by omega)).mp (ec.symm.trans ec0)
      subst this; exact hyc
end xk_p29
