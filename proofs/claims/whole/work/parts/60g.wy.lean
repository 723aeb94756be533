/-! the pair: ways -/
section yk_wy2
variable {n ns : Nat} {W : xw} {J : Nat → Nat → Int64} {I I' : Nat → xw} {g1 g2 S o : Nat} {g3 : Nat → Nat × Nat} {g4 : Nat → Nat → Option Nat} {g5 : Option Nat}
theorem wV_cg {bad bad' : Nat → Bool} {ad ad' : Nat → Nat → Bool} (hb : ∀ t, t < 2 ^ n → bad' t = bad t) (ha : ∀ b s, b < n → s < 2 ^ n → ad' b s = ad b s) : ∀ t, t < 2 ^ n → wV n bad' ad' t = wV n bad ad t := by
  intro t
  induction t using Nat.strongRecOn with
  | _ t ih =>
    intro ht
    rw [wV_eq, wV_eq (bad := bad), wv, wv, hb t ht]
    congr 2
    refine sm_cg n (fun b hb => ?_)
    rw [wf, wf]
    by_cases e : t.testBit b = true
    · have := x_lt e
      rw [ha b _ hb (by omega), ih _ this (by omega)]
    · rw [if_neg (fun z => e z.1), if_neg (fun z => e z.1)]
theorem sub_all {t : Nat} (h : t < 2 ^ n) : sub t (2 ^ n - 1) = true := sub_iff.mpr (fun x hx => by
  rw [Nat.testBit_two_pow_sub_one]
  by_cases q : x < n
  · exact decide_eq_true q
  · rw [nb_lt h (by omega)] at hx; exact absurd hx (by decide))
/-- class and model count the same -/
theorem wy_same {h : Nat} (hh : h ≤ 2) : wyV n W h = wV n (cBad h n W) (cAd h n W) (2 ^ n - 1) := by
  have p1 := Nat.two_pow_pos n
  have hw := weN_lt (W := W) n
  have hh' : h = 0 ∨ h = 1 ∨ h = 2 := by omega
  unfold wyV
  rcases hh' with q | q | q <;> subst q
  · rw [if_neg (by omega)]
    refine wV_cg (fun t ht => ?_) (fun b s _ _ => ?_) _ (by omega)
    · rw [mBad, sub_all ht]; rfl
    · rw [mAd, Nat.or_zero]; rfl
  · rw [if_pos rfl]
    have he : ∀ x, ((2 ^ n - 1) ^^^ weN W n).testBit x = true → (weN W n).testBit x = false := fun x hx => by
      rw [Nat.testBit_xor, Nat.testBit_two_pow_sub_one] at hx
      by_cases k : x < n
      · rw [decide_eq_true k] at hx
        cases y : (weN W n).testBit x
        · rfl
        · rw [y] at hx; exact absurd hx (by decide)
      · exact nb_lt hw (by omega)
    have ew : weN W n ||| ((2 ^ n - 1) ^^^ weN W n) = 2 ^ n - 1 := by
      apply Nat.eq_of_testBit_eq
      intro x
      rw [Nat.testBit_or, Nat.testBit_xor, Nat.testBit_two_pow_sub_one]
      by_cases k : x < n
      · rw [decide_eq_true k]; cases (weN W n).testBit x <;> rfl
      · rw [decide_eq_false k, nb_lt hw (by omega)]; rfl
    have key := wy_3 (n := n) (N := nbs W) he ((2 ^ n - 1) ^^^ weN W n) (sub_iff.mpr (fun _ h => h))
    rw [ew] at key
    have b1 : ∀ so, mBad n so 0 W = fun t => !sub t so := fun so => by
      funext t; rw [mBad, decide_eq_false (by omega), Bool.false_and, Bool.or_false]
    have a0 : mAd 0 W = fun b s => sub (nbs W b) s := by funext b s; rw [mAd, Nat.or_zero]
    have a1 : mAd (weN W n) W = fun b s => sub (nbs W b) (s ||| weN W n) := rfl
    rw [b1, b1, a0, a1, ← key]
    rfl
  · rw [if_neg (by omega), if_pos rfl]
    refine wV_cg (fun t ht => ?_) (fun b s _ _ => ?_) _ (by omega)
    · rw [mBad, sub_all ht]; rfl
    · rw [mAd, Nat.or_zero]; rfl
theorem shY_ext {x x' : xq_S} {y : Nat} (h : shY x y) (hy : 143 ≤ y) (hN : xq_N x ≤ xq_N x') (hK : ∀ a, 143 ≤ a → a < xq_N x → xq_K x' a = xq_K x a) (hR : ∀ a, 143 ≤ a → a < xq_N x → xq_R x' a = xq_R x a) : shY x' y := by
  obtain ⟨s0, s1, s2, s3, s4, s5, s6, ⟨G1, G2⟩, ⟨L1, L2⟩, ⟨P1, P2⟩, ⟨S1, S2⟩, B1, B2⟩ := h
  have kk : ∀ {b m : Nat} {l : List (Nat × Nat)}, 143 ≤ b → (∀ j, j < m → b + j < xq_N x ∧ xq_K x (b + j) = l.getD j (0, 0)) → ∀ j, j < m → b + j < xq_N x' ∧ xq_K x' (b + j) = l.getD j (0, 0) := fun hb h j hj => by
    have := (h j hj).1
    exact ⟨by omega, by rw [hK _ (by omega) this]; exact (h j hj).2⟩
  have r0 := hR y hy s0
  have rG := hR (y + 1) (by omega) (G1 0 (by omega)).1
  have rL := hR (y + 8) (by omega) (L1 0 (by omega)).1
  have rP := hR (y + 13) (by omega) (P1 0 (by omega)).1
  have rS := hR (y + 17) (by omega) (S1 0 (by omega)).1
  have rB := hR (y + 26) (by omega) (B1 0 (by omega)).1
  refine ⟨by omega, by rw [hK y hy s0]; exact s1, by rw [r0]; exact s2, by rw [r0]; exact s3, by rw [r0]; exact s4, by rw [r0]; exact s5, by rw [r0]; exact s6, ⟨kk (by omega) G1, by rw [rG]; exact G2⟩, ⟨kk (by omega) L1, by rw [rL]; exact L2⟩, ⟨kk (by omega) P1, by rw [rP]; exact P2⟩, ⟨kk (by omega) S1, by rw [rS]; exact S2⟩, ⟨kk (by omega) B1, by rw [rB]; exact B2⟩⟩
/-- a new row of counts -/
theorem wy_new : xq_setR (xq_new (xq_s (g1, g2, g3, g4, g5, some o) J I) 101 S) 53 1 (some (g1 + 143)) = xq_s (g1 + 1, g2 + S, va_up g3 (g1 + 143) (101, S), va_up g4 (g1 + 143) (fun _ => none), g5, some (g1 + 143)) (va_up J (g1 + 143) (fun _ => 0)) (va_up I (g1 + 143) (fun _ => 0)) := by
  refine Prod.ext (Prod.ext ?_ (Prod.ext rfl (Prod.ext ?_ ?_))) rfl
  · show g1 + 143 + 1 = g1 + 1 + 143
    omega
  · funext a
    show va_up (fun a => if a < 143 then xq_K0.getD a (0, 0) else g3 a) (g1 + 143) (101, S) a = if a < 143 then xq_K0.getD a (0, 0) else va_up g3 (g1 + 143) (101, S) a
    by_cases e : a = g1 + 143
    · subst e; rw [xv_eq, if_neg (by omega), xv_eq]
    · rw [xv_ne e, xv_ne e]
  · funext a
    show va_up (va_up (xq_R (xq_s (g1, g2, g3, g4, g5, some o) J I)) (g1 + 143) (fun _ => none)) 53 (va_up (va_up (xq_R (xq_s (g1, g2, g3, g4, g5, some o) J I)) (g1 + 143) (fun _ => none) 53) 1 (some (g1 + 143))) a = xq_R (xq_s (g1 + 1, g2 + S, va_up g3 (g1 + 143) (101, S), va_up g4 (g1 + 143) (fun _ => none), g5, some (g1 + 143)) J I) a
    by_cases e : a = 53
    · subst e
      rw [xv_eq]
      funext j
      by_cases e2 : j = 1
      · subst e2; rw [xv_eq]; rfl
      · rw [xv_ne e2, xv_ne (by omega)]
        have h1 : ¬ ((53 : Nat) = 0 ∧ j = 9) := by omega
        have h2 : ¬ ((53 : Nat) = 53 ∧ j = 1) := by omega
        show (if (53 : Nat) = 0 ∧ j = 9 then g5 else if (53 : Nat) = 53 ∧ j = 1 then some o else (xq_R0.getD 53 []).getD j none) = (if (53 : Nat) = 0 ∧ j = 9 then g5 else if (53 : Nat) = 53 ∧ j = 1 then some (g1 + 143) else (xq_R0.getD 53 []).getD j none)
        simp only [if_neg h1, e2, and_false, if_false]
    · rw [xv_ne e]
      funext j
      show _ = (if a < 143 then (if a = 0 ∧ j = 9 then g5 else if a = 53 ∧ j = 1 then some (g1 + 143) else (xq_R0.getD a []).getD j none) else va_up g4 (g1 + 143) (fun _ => none) a j)
      by_cases e2 : a = g1 + 143
      · subst e2; rw [xv_eq, if_neg (by omega), xv_eq]
      · rw [xv_ne e2, xv_ne e2]
        show (if a < 143 then (if a = 0 ∧ j = 9 then g5 else if a = 53 ∧ j = 1 then some o else (xq_R0.getD a []).getD j none) else g4 a j) = _
        by_cases e3 : a < 143
        · rw [if_pos e3, if_pos e3]
          by_cases e4 : a = 0 ∧ j = 9
          · rw [if_pos e4, if_pos e4]
          · rw [if_neg e4, if_neg e4, if_neg (fun z => e z.1), if_neg (fun z => e z.1)]
        · rw [if_neg e3, if_neg e3]
theorem ivK_new (h : ivK (g1, g2, g3, g4, g5, some o) I) : ivK (g1 + 1, g2 + S, va_up g3 (g1 + 143) (101, S), va_up g4 (g1 + 143) (fun _ => none), g5, some (g1 + 143)) (va_up I (g1 + 143) (fun _ => 0)) := by
  have o_ : ∀ a, a < g1 + 143 → va_up I (g1 + 143) (fun _ => 0) a = I a := fun a ha => xv_ne (by omega)
  rcases h with ⟨h1, h2⟩ | ⟨y, n, ns, h1, h2, h3, h4, h5, h6, h6b, h7, h8⟩
  · exact Or.inl ⟨h1, by rw [o_ 126 (by omega)]; exact h2⟩
  · right
    have hB : y + 30 < g1 + 143 := (h4.2.2.2.2.2.2.2.2.2.2.2.1 4 (by omega)).1
    have ek : ∀ a, (1 ≤ a ∧ a < 32) → kI y (va_up I (g1 + 143) (fun _ => 0)) a = kI y I a := fun a ha => by
      unfold kI; rw [if_pos ha, if_pos ha, o_ _ (by omega)]
    refine ⟨y, n, ns, h1, h2, by rw [o_ 126 (by omega)]; exact h3, ?_, ?_, ?_, ?_, ?_, ?_⟩
    · refine shY_ext h4 h2 (by show g1 + 143 ≤ g1 + 1 + 143; omega) (fun a a1 a2 => ?_) (fun a a1 a2 => ?_)
      · have a2 : a < g1 + 143 := a2
        show (if a < 143 then xq_K0.getD a (0, 0) else va_up g3 (g1 + 143) (101, S) a) = if a < 143 then xq_K0.getD a (0, 0) else g3 a
        rw [xv_ne (by omega)]
      · have a2 : a < g1 + 143 := a2
        funext j
        show (if a < 143 then (if a = 0 ∧ j = 9 then g5 else if a = 53 ∧ j = 1 then some (g1 + 143) else (xq_R0.getD a []).getD j none) else va_up g4 (g1 + 143) (fun _ => none) a j) = (if a < 143 then (if a = 0 ∧ j = 9 then g5 else if a = 53 ∧ j = 1 then some o else (xq_R0.getD a []).getD j none) else g4 a j)
        rw [if_neg (by omega), if_neg (by omega), xv_ne (by omega)]
    · rw [o_ 128 (by omega)]; exact h5
    · rw [o_ 128 (by omega)]; exact h6
    · rw [o_ 128 (by omega)]; exact h6b
    · rw [o_ 128 (by omega)]
      refine CR_cells h7 (fun a ha => ek a (by omega)) ?_
      show (if 1 ≤ 32 ∧ 32 < 32 then va_up I (g1 + 143) (fun _ => 0) (y + (32 - 1)) else va_up I (g1 + 143) (fun _ => 0) 32) 4 = (if 1 ≤ 32 ∧ 32 < 32 then I (y + (32 - 1)) else I 32) 4
      rw [if_neg (by omega), if_neg (by omega), o_ 32 (by omega)]
    · rw [o_ 128 (by omega), ek 14 (by omega), ek 15 (by omega), ek 16 (by omega), ek 17 (by omega)]; exact h8
/-- ways -/
theorem P21 : xq_P21 126 Inv := by
  intro z
  refine pair_of (fun g J I hi => ?_)
  obtain ⟨g1, g2, g3, g4, g5, g6⟩ := g
  have hi' := hi
  obtain ⟨n, ns, ⟨ho, hw, hbk, hC, h32, h29⟩, hT, hPl, hRd, hS, hH, hK, e, o, he, hg, ho1, hc1, hz1⟩ := hi'
  have n14 := ho.1.2.1
  have hg : g6 = some o := hg
  subst hg
  have p14 : 2 ^ n ≤ 2 ^ 14 := Nat.pow_le_pow_right (by omega) n14
  have pe14 : 2 ^ e ≤ 2 ^ 14 := Nat.pow_le_pow_right (by omega) he
  have hc2 : g1 ≤ 45 := by
    have hc1 : g1 ≤ e + (if g5 = none then 0 else 31) := hc1
    split at hc1 <;> omega
  have hl : lok (g1, g2, g3, g4, g5, some o) o (2 ^ e) := by
    rcases ho1 with ⟨q1, q2⟩ | ⟨q1, q2, q3⟩
    · subst q1 q2
      exact ⟨by omega, by show 54 < g1 + 143; omega, rfl, by omega⟩
    · have q2 : o < g1 + 143 := q2
      refine ⟨by omega, q2, ?_, by omega⟩
      show (if o < 143 then xq_K0.getD o (0, 0) else g3 o) = _
      rw [if_neg (by omega)]; exact q3
  have e0 : I 2 0 = nI n := (CR_G hC).1.trans ho.1.1
  have e20 : I 19 10 = I 127 20 := CR_1 hC 10 (by omega)
  have eS : nI 1 <<< (I 2 0 &&& 31) = nI (2 ^ n) := by rw [e0]; exact sh_N n (by omega)
  -- the model, wherever the class left things
  have mdl : ∀ (g : xq_V) (J : Nat → Nat → Int64) (I1 : Nat → xw) (v : Int64), iv g I1 → I1 127 = I 127 → (∀ Q : Option Value → xq_S → Prop, (∀ T', Q (some (.long v)) (xq_s g (va_up J 141 T') I1)) → xq_wp 90 265 (xq_s g (va_up J 141 (J 141)) I1) 0 [.ref 126, .int z, xq_un, xq_un, xq_un] [] Q) → ∃ (w : Value) (g' : xq_V) (J' : Nat → Nat → Int64) (I' : Nat → xw), some (Value.long v) = some w ∧ xq_s g J I1 = xq_s g' J' I' ∧ xq_isJ w ∧ xq_wp 90 265 (xq_s g' J' I') 0 ((.ref 126 :: [.int z]) ++ List.replicate ((xq_mn 265).2.2.1 - ([Value.int z].length + 1)) xq_un) [] (fun v2 x2 => v2 = some w ∧ Inv x2) := by
    intro g J I1 v hi1 e127 h
    refine ⟨_, g, J, I1, rfl, rfl, ⟨_, rfl⟩, ?_⟩
    have := h (fun v2 x2 => v2 = some (Value.long v) ∧ Inv x2) (fun T' => ⟨rfl, g, _, I1, rfl, hi1⟩)
    rw [jv_self] at this
    exact this
  have start : xq_s (g1, g2, g3, g4, g5, some o) J I = xq_s (g1, g2, g3, g4, g5, some o) (va_up J o (J o)) I := by rw [jv_self]
  rw [start]
  by_cases hz : ¬ z < nI 0 ∧ ¬ nI 2 < z
  · obtain ⟨k, hk, ek⟩ := i_nat (n := 3) hz.1 (by
      have := mt Int32.lt_iff_toInt_lt.mpr hz.2
      rw [nI_toInt (by omega)] at this
      rw [Int32.lt_iff_toInt_lt, nI_toInt (by omega)]; omega) (by omega)
    subst ek
    refine wc_135 (d := 89) hl ⟨fun q => absurd q hz.1, fun _ => ⟨fun q => absurd q hz.2, fun _ => ?_⟩⟩
    have fin : ∀ (g : xq_V) (J : Nat → Nat → Int64) (I1 : Nat → xw), iv g I1 → I1 127 = I 127 → _ := fun g J I1 hi1 e127 => mdl g J I1 (wV n (cBad k n (I 127)) (cAd k n (I 127)) (2 ^ n - 1)) hi1 e127 (fun Q hp => xl_265 (d := 87) (n := n) (ns := ns) (by omega) (by rw [e127]; exact ho) (fun T' => by rw [e127, wy_same (by omega)]; exact hp T'))
    refine wc_136 (d := 89) (S := 2 ^ n) hl ⟨eS, by omega, by omega, fun q => ?_, fun q => ?_⟩
    · -- a new row
      have hen : e < n := (Nat.pow_lt_pow_iff_right (by omega)).mp q
      refine xq_wp.go (k := 2) (x' := xq_s (g1, g2, g3, g4, g5, some o) (va_up J o (J o)) I) (pc' := 21) (L' := [.ref 53, .int (nI k), .int (I 19 10), .int (nI (2 ^ n)), xq_un, xq_un, xq_un, xq_un]) (st' := [.int (nI (2 ^ n)), .ref 53]) (fun F => rfl) ?_
      refine xq_wp.mkJ rfl (by omega) (by show g1 + 143 < 100000; omega) ?_
      have hK53 : xq_K (xq_new (xq_s (g1, g2, g3, g4, g5, some o) (va_up J o (J o)) I) 101 (2 ^ n)) 53 = (7, 3) := by
        show va_up (xq_K (xq_s (g1, g2, g3, g4, g5, some o) (va_up J o (J o)) I)) (g1 + 143) (101, 2 ^ n) 53 = (7, 3)
        rw [xv_ne (by omega)]; rfl
      refine xq_wp.pfR0 (sz := 3) rfl (by show 53 < g1 + 143 + 1; omega) (by show g1 + 143 < 1000000; omega) hK53 (by omega) rfl ?_
      show xq_wp _ 136 (xq_setR (xq_new (xq_s (g1, g2, g3, g4, g5, some o) (va_up J o (J o)) I) 101 (2 ^ n)) 53 1 (some (g1 + 143))) 26 _ [] _
      rw [wy_new]
      generalize hI1 : va_up I (g1 + 143) (fun _ => 0) = I1
      have o_ : ∀ a, a < g1 + 143 → I1 a = I a := fun a ha => by rw [← hI1]; exact xv_ne (by omega)
      have hK1 := ivK_new (S := 2 ^ n) hK
      rw [hI1] at hK1
      have hJ1 : ivJ (g1 + 1, g2 + 2 ^ n, va_up g3 (g1 + 143) (101, 2 ^ n), va_up g4 (g1 + 143) (fun _ => none), g5, some (g1 + 143)) := by
        refine ⟨n, g1 + 143, n14, rfl, Or.inr ⟨by omega, by show g1 + 143 < g1 + 1 + 143; omega, xv_eq⟩, ?_, ?_⟩
        · have hc1 : g1 ≤ e + (if g5 = none then 0 else 31) := hc1
          show g1 + 1 ≤ n + (if g5 = none then 0 else 31)
          omega
        · have hz1 : g2 ≤ 30394 + 2 ^ (e + 1) + (if g5 = none then 0 else 1836) := hz1
          show g2 + 2 ^ n ≤ 30394 + 2 ^ (n + 1) + (if g5 = none then 0 else 1836)
          have : 2 ^ (e + 1) ≤ 2 ^ n := Nat.pow_le_pow_right (by omega) (by omega)
          rw [Nat.pow_succ]
          omega
      have hi1 : iv (g1 + 1, g2 + 2 ^ n, va_up g3 (g1 + 143) (101, 2 ^ n), va_up g4 (g1 + 143) (fun _ => none), g5, some (g1 + 143)) I1 := iv_im hi (fun a a1 a2 a3 => o_ a (by omega)) (fun j _ => by rw [o_ 126 (by omega)]) hK1 hJ1
      have hl1 : lok (g1 + 1, g2 + 2 ^ n, va_up g3 (g1 + 143) (101, 2 ^ n), va_up g4 (g1 + 143) (fun _ => none), g5, some (g1 + 143)) (g1 + 143) (2 ^ n) := by
        refine ⟨by omega, by show g1 + 143 < g1 + 1 + 143; omega, ?_, by omega⟩
        show (if g1 + 143 < 143 then xq_K0.getD (g1 + 143) (0, 0) else va_up g3 (g1 + 143) (101, 2 ^ n) (g1 + 143)) = _
        rw [if_neg (by omega), xv_eq]
      have hG1 : cG n ns I1 (I 127) := by
        have := CR_G hC
        unfold cG at this ⊢
        rw [o_ 2 (by omega), o_ 3 (by omega), o_ 4 (by omega), o_ 5 (by omega), o_ 6 (by omega), o_ 7 (by omega), o_ 8 (by omega)]
        exact this
      exact yl_136_26 (d := 87) (n := n) (ns := ns) (W := I 127) (by omega) hl1 (Nat.le_refl _) ho hG1 (by rw [o_ 2 (by omega)]; exact e0) e20 (fun T' => wc_135_36 (d := 90) hl1 (fin _ _ _ hi1 (o_ 127 (by omega))))
    · exact yl_136_26 (d := 87) (n := n) (ns := ns) (W := I 127) (by omega) hl (by omega) ho (CR_G hC) e0 e20 (fun T' => wc_135_36 (d := 90) hl (fin _ _ _ hi rfl))
  · have bad : ∀ Q : Option Value → xq_S → Prop, (∀ T', Q (some (.long (-(lN 1)))) (xq_s (g1, g2, g3, g4, g5, some o) (va_up (va_up J o (J o)) 141 T') I)) → xq_wp 90 265 (xq_s (g1, g2, g3, g4, g5, some o) (va_up (va_up J o (J o)) 141 (va_up J o (J o) 141)) I) 0 [.ref 126, .int z, xq_un, xq_un, xq_un] [] Q := fun Q hp => by
      refine wm_265 (d := 89) (n := 0) ⟨fun q => hp _, fun q => ⟨fun q2 => hp _, fun q2 => absurd ⟨q, q2⟩ hz⟩⟩
    refine wc_135 (d := 89) hl ⟨fun q => mdl _ _ _ _ hi rfl bad, fun q => ⟨fun q2 => mdl _ _ _ _ hi rfl bad, fun q2 => absurd ⟨q, q2⟩ hz⟩⟩
end yk_wy2
