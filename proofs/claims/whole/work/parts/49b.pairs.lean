/-! the pairs: what is asked for -/
section xk_pr2
variable {g : xq_V} {J : Nat → Nat → Int64} {I I' : Nat → xw} {n ns : Nat} {Q : Option Value → xq_S → Prop} {d : Nat}
theorem i_rng {w : Int32} {a b : Nat} (h1 : ¬ w < nI a) (h2 : ¬ nI b < w) (ha : a < 1000000) (hb : b < 1000000) : ∃ k, a ≤ k ∧ k ≤ b ∧ w = nI k := by
  have q1 := mt Int32.lt_iff_toInt_lt.mpr h1
  have q2 := mt Int32.lt_iff_toInt_lt.mpr h2
  rw [nI_toInt (by omega)] at q1 q2
  refine ⟨w.toInt.toNat, by omega, by omega, Int32.toInt_inj.mp ?_⟩
  rw [nI_toInt (by omega)]
  omega
theorem i_lt {w : Int32} {a : Nat} (h1 : ¬ w < nI 0) (h2 : w < nI a) (ha : a < 1000000) : ∃ k, k < a ∧ w = nI k := i_nat h1 h2 (by omega)
/-- a row of distinct places has each of them -/
theorem inj_sur : ∀ (n : Nat) (f : Nat → Nat), (∀ i, i < n → f i < n) → (∀ i j, i < n → j < n → f i = f j → i = j) → ∀ b, b < n → ∃ i, i < n ∧ f i = b
  | 0, _, _, _, b, hb => by omega
  | n + 1, f, h1, h2, b, hb => by
    by_cases e : f n = b
    · exact ⟨n, by omega, e⟩
    · have hn := h1 n (by omega)
      have ih := inj_sur n (fun i => if f i = n then f n else f i) (fun i hi => by
        have a := h1 i (by omega)
        (try dsimp only)
        split
        · rename_i q
          have : ¬ f n = n := fun z => by have := h2 i n (by omega) (by omega) (by omega); omega
          omega
        · omega) (fun i j hi hj => by
        (try dsimp only)
        intro q
        split at q
        · rename_i q1
          split at q
          · rename_i q2; exact h2 i j (by omega) (by omega) (by omega)
          · have := h2 n j (by omega) (by omega) q; omega
        · split at q
          · have := h2 i n (by omega) (by omega) q; omega
          · exact h2 i j (by omega) (by omega) q)
      by_cases e2 : b = n
      · subst e2
        obtain ⟨i, hi, q⟩ := ih (f b) (by omega)
        (try dsimp only at q)
        split at q
        · rename_i q1; exact ⟨i, by omega, q1⟩
        · have := h2 i b (by omega) (by omega) q; omega
      · obtain ⟨i, hi, q⟩ := ih b (by omega)
        (try dsimp only at q)
        split at q
        · exact absurd q e
        · exact ⟨i, by omega, q⟩
/-- where a block stands in the order -/
theorem ok_pl {W : xw} (ho : ok n ns W) {b : Nat} (hb : b < n) : ∃ i, i < n ∧ W (30 + i) = nI b := by
  have n14 := ho.1.2.1
  obtain ⟨i, hi, e⟩ := inj_sur n (fun i => sp_ix W (30 + i)) (fun i hi => by
    obtain ⟨x, hx, -, ix⟩ := ok_or ho hi
    (try dsimp only)
    rw [ix]; exact hx) (fun i j hi hj e => by
    obtain ⟨x, hx, ex, ix⟩ := ok_or ho hi
    obtain ⟨y, hy, ey, iy⟩ := ok_or ho hj
    (try dsimp only at e)
    rw [ix, iy] at e
    exact ho.2.2.2.1.2 i j hi hj (by rw [ex, ey, e])) b hb
  obtain ⟨x, hx, ex, ix⟩ := ok_or ho hi
  (try dsimp only at e)
  exact ⟨i, hi, by rw [ex, ← ix, e]⟩
theorem zl_20 {b i0 : Nat} (ho : ok n ns (I 127)) (h3 : ∀ i, i < n → I 21 i = I 127 (30 + i)) (hi0 : i0 < n) (hb : b < n) (e0 : I 127 (30 + i0) = nI b) (hp : Q (some (.int (nI i0))) (xq_s g J I)) : ∀ (c i : Nat), i + c = i0 → xq_wp d 20 (xq_s g J I) 2 [.ref 18, .int (nI b), .int (nI n), .int (nI i)] [] Q := by
  have n14 := ho.1.2.1
  intro c
  induction c with
  | zero =>
    intro i e
    have : i = i0 := by omega
    subst this
    exact zu_20 (d := d) (on := b) ⟨by omega, by omega, fun _ => ⟨by omega, (h3 i hi0).trans e0, by omega, by omega, fun _ => hp, fun z => absurd rfl z⟩, fun z => by omega⟩
  | succ c ih =>
    intro i e
    obtain ⟨x, hx, ex, ix⟩ := ok_or ho (show i < n by omega)
    exact zu_20 (d := d) (on := x) ⟨by omega, by omega, fun _ => ⟨by omega, (h3 i (by omega)).trans ex, by omega, by omega, fun z => by
      have := ho.2.2.2.1.2 i i0 (by omega) hi0 (by rw [ex, e0, z]); omega, fun _ => ih (i + 1) (by omega)⟩, fun z => by omega⟩
theorem zl_166 {b i0 : Nat} (ho : ok n ns (I 127)) (hi0 : i0 < n) (hb : b < n) (e0 : I 127 (30 + i0) = nI b) (hp : Q (some (.int (nI i0))) (xq_s g J I)) : ∀ (c i : Nat), i + c = i0 → xq_wp d 166 (xq_s g J I) 2 [.ref 126, .int (nI b), .int (nI i)] [] Q := by
  have n14 := ho.1.2.1
  intro c
  induction c with
  | zero =>
    intro i e
    have : i = i0 := by omega
    subst this
    exact zu_166 (d := d) (on := b) ⟨by omega, e0, by omega, by omega, fun _ => hp, fun z => absurd rfl z⟩
  | succ c ih =>
    intro i e
    obtain ⟨x, hx, ex, ix⟩ := ok_or ho (show i < n by omega)
    exact zu_166 (d := d) (on := x) ⟨by omega, ex, by omega, by omega, fun z => by
      have := ho.2.2.2.1.2 i i0 (by omega) hi0 (by rw [ex, e0, z]); omega, fun _ => ih (i + 1) (by omega)⟩
theorem rd_pair {mc mm : Nat} {As : List Value} (h : ∀ (g : xq_V) (J : Nat → Nat → Int64) (I : Nat → xw) (n ns : Nat), iv g I → ok n ns (I 127) → CR true n ns I (xcR true I) (I 127) → ∃ v : Int32, (∀ Q : Option Value → xq_S → Prop, Q (some (.int v)) (xq_s g J I) → xq_wp 90 mc (xq_s g J I) 0 ((.ref 0 :: As) ++ List.replicate ((xq_mn mc).2.2.1 - (As.length + 1)) xq_un) [] Q) ∧ (∀ Q : Option Value → xq_S → Prop, Q (some (.int v)) (xq_s g J I) → xq_wp 90 mm (xq_s g J I) 0 ((.ref 126 :: As) ++ List.replicate ((xq_mn mm).2.2.1 - (As.length + 1)) xq_un) [] Q)) : xq_pair 126 Inv mc mm As xq_isI := by
  refine pair_of (fun g J I hi => ?_)
  obtain ⟨n, ns, ⟨ho, hw, hbk, hC, h32, h29⟩, hrest⟩ := hi
  have hi : iv g I := ⟨n, ns, ⟨ho, hw, hbk, hC, h32, h29⟩, hrest⟩
  obtain ⟨v, h1, h2⟩ := h g J I n ns hi ho hC
  exact h1 _ ⟨_, g, J, I, rfl, rfl, ⟨_, rfl⟩, h2 _ ⟨rfl, g, J, I, rfl, hi⟩⟩
theorem P7 : xq_P7 126 Inv := by
  intro w
  refine rd_pair (fun g J I n ns hi ho hC => ?_)
  obtain ⟨n', ns', hA, hT, hP, hR, -⟩ := hi
  refine ⟨if w = nI 0 then I 104 8 else if w = nI 1 then I 104 9 else Int32.ofInt (-1), fun Q hp => zu_68 (d := 90) ⟨fun z => ?_, fun z => ⟨fun z2 => ?_, fun z2 => ?_⟩⟩, fun Q hp => zu_209 (d := 90) ⟨fun z => ?_, fun z => ⟨fun z2 => ?_, fun z2 => ?_⟩⟩⟩
  · rw [if_pos z] at hp; exact hp
  · rw [if_neg z, if_pos z2] at hp; exact hp
  · rw [if_neg z, if_neg z2] at hp; exact hp
  · rw [if_pos z, hR.2.1] at hp; exact hp
  · rw [if_neg z, if_pos z2, hR.2.2] at hp; exact hp
  · rw [if_neg z, if_neg z2] at hp; exact hp
theorem P13 : xq_P13 126 Inv := by
  intro b
  refine rd_pair (fun g J I n ns hi ho hC => ?_)
  have n14 := ho.1.2.1
  have e0 : I 2 0 = nI n := (CR_G hC).1.trans ho.1.1
  by_cases hb : ¬ b < nI 0 ∧ b < nI n
  · obtain ⟨k, hk, ek⟩ := i_nat hb.1 hb.2 (by omega)
    subst ek
    obtain ⟨q1, q2, q3⟩ := i_in hk (by omega)
    have e3 : I 21 k = I 127 (30 + k) := CR_3 hC k hk
    refine ⟨I 127 (30 + k), fun Q hp => zu_118 (d := 90) ⟨fun z => absurd z q1, fun _ => ⟨fun _ => ⟨xn_in (by omega) (by omega), ?_⟩, fun z => absurd (by rw [e0]; exact q3) z⟩⟩, fun Q hp => zu_248n (d := 88) ⟨by omega, fun z => by omega, fun _ => ⟨fun z => ?_, fun _ => ⟨by omega, hp⟩⟩⟩⟩
    · rw [nI_clamp (by omega), e3]; exact hp
    · rw [ho.1.1] at z; exact absurd z q2
  · refine ⟨Int32.ofInt (-1), fun Q hp => zu_118 (d := 90) ⟨fun z => hp, fun z => ⟨fun z2 => absurd ⟨z, by rw [← e0]; exact z2⟩ hb, fun z2 => hp⟩⟩, fun Q hp => zu_248 (d := 88) ⟨fun z => hp, fun z => ⟨fun z2 => hp, fun z2 => ?_⟩⟩⟩
    rw [ho.1.1] at z2
    exact absurd (i_out (fun y => hb ⟨z, y⟩) (by omega)) z2
theorem P11_v {k w : Nat} (ho : ok n ns (I 127)) (hC : CR true n ns I (xcR true I) (I 127)) (hk : k < n) (hw : w < 15) (h8 : ¬ w = 8) (h9 : ¬ w = 9) : ∃ v : Int32, (∀ Q : Option Value → xq_S → Prop, Q (some (.int v)) (xq_s g J I) → xq_wp 90 113 (xq_s g J I) 0 [.ref 0, .int (nI k), .int (nI w), xq_un, xq_un] [] Q) ∧ (∀ Q : Option Value → xq_S → Prop, Q (some (.int v)) (xq_s g J I) → xq_wp 90 246 (xq_s g J I) 0 [.ref 126, .int (nI k), .int (nI w)] [] Q) := by
  have n14 := ho.1.2.1
  have e0 : I 2 0 = nI n := (CR_G hC).1.trans ho.1.1
  obtain ⟨q1, q2, q3⟩ := i_in hk (by omega)
  obtain ⟨g1, ⟨g2, _⟩, g3⟩ := (CR_G hC).2.2.1 k hk
  have e4 : I 22 k = I 127 (50 + 14 * k + 4) := CR_4 hC k hk
  have e7 : I 25 k = I 127 (50 + 14 * k + 1) := CR_7 hC k hk
  have eA := CR_A hC k hk
  have q2' : ¬ I 127 0 - nI 1 < nI k := by rw [ho.1.1]; exact q2
  match w, hw, h8, h9 with
  | 0, _, _, _ => exact ⟨I 3 k, fun Q hp => zc_113_0 (d := 89) (n := n) ⟨by omega, fun z => by omega, fun _ => ⟨e0, by omega, fun _ => ⟨by omega, fun _ => hp, fun _ => hp⟩, fun z => absurd hk z⟩⟩, fun Q hp => zm_246_0 (d := 88) ⟨by omega, fun z => by omega, fun _ => ⟨fun z => absurd z q2', fun _ => ⟨by omega, by rw [g1] at hp; exact hp⟩⟩⟩⟩
  | 1, _, _, _ => exact ⟨I 25 k, fun Q hp => zc_113_1 (d := 89) (n := n) ⟨by omega, fun z => by omega, fun _ => ⟨e0, by omega, fun _ => ⟨by omega, fun _ => hp, fun _ => hp⟩, fun z => absurd hk z⟩⟩, fun Q hp => zm_246_1 (d := 88) ⟨by omega, fun z => by omega, fun _ => ⟨fun z => absurd z q2', fun _ => ⟨by omega, by rw [e7] at hp; exact hp⟩⟩⟩⟩
  | 2, _, _, _ => exact ⟨I 5 k, fun Q hp => zc_113_2 (d := 89) (n := n) ⟨by omega, fun z => by omega, fun _ => ⟨e0, by omega, fun _ => ⟨by omega, fun _ => hp, fun _ => hp⟩, fun z => absurd hk z⟩⟩, fun Q hp => zm_246_2 (d := 88) ⟨by omega, fun z => by omega, fun _ => ⟨fun z => absurd z q2', fun _ => ⟨by omega, by rw [g2] at hp; exact hp⟩⟩⟩⟩
  | 3, _, _, _ => exact ⟨I 6 k, fun Q hp => zc_113_3 (d := 89) (n := n) ⟨by omega, fun z => by omega, fun _ => ⟨e0, by omega, fun _ => ⟨by omega, fun _ => hp, fun _ => hp⟩, fun z => absurd hk z⟩⟩, fun Q hp => zm_246_3 (d := 88) ⟨by omega, fun z => by omega, fun _ => ⟨fun z => absurd z q2', fun _ => ⟨by omega, by rw [g3] at hp; exact hp⟩⟩⟩⟩
  | 4, _, _, _ => exact ⟨I 22 k, fun Q hp => zc_113_4 (d := 89) (n := n) ⟨by omega, fun z => by omega, fun _ => ⟨e0, by omega, fun _ => ⟨by omega, fun _ => hp, fun _ => hp⟩, fun z => absurd hk z⟩⟩, fun Q hp => zm_246_4 (d := 88) ⟨by omega, fun z => by omega, fun _ => ⟨fun z => absurd z q2', fun _ => ⟨by omega, by rw [e4] at hp; exact hp⟩⟩⟩⟩
  | 5, _, _, _ =>
    by_cases y : I 127 (50 + 14 * k + 4) = nI 2
    · exact ⟨I 23 k, fun Q hp => zc_113_5 (d := 89) (n := n) ⟨by omega, fun z => by omega, fun _ => ⟨e0, by omega, fun _ => ⟨by omega, fun _ => hp, fun z => absurd (e4.trans y) z⟩, fun z => absurd hk z⟩⟩, fun Q hp => zm_246_5 (d := 88) ⟨by omega, fun z => by omega, fun _ => ⟨fun z => absurd z q2', fun _ => ⟨by omega, fun _ => ⟨by omega, by have := (eA y).1; rw [show I 23 k = I 127 (50 + 14 * k + 5) from this] at hp; exact hp⟩, fun z => absurd y z⟩⟩⟩⟩
    · exact ⟨Int32.ofInt (-1), fun Q hp => zc_113_5 (d := 89) (n := n) ⟨by omega, fun z => by omega, fun _ => ⟨e0, by omega, fun _ => ⟨by omega, fun z => absurd (e4.symm.trans z) y, fun _ => hp⟩, fun z => absurd hk z⟩⟩, fun Q hp => zm_246_5 (d := 88) ⟨by omega, fun z => by omega, fun _ => ⟨fun z => absurd z q2', fun _ => ⟨by omega, fun z => absurd z y, fun _ => hp⟩⟩⟩⟩
  | 6, _, _, _ =>
    by_cases y : I 127 (50 + 14 * k + 4) = nI 2
    · exact ⟨I 24 k, fun Q hp => zc_113_6 (d := 89) (n := n) ⟨by omega, fun z => by omega, fun _ => ⟨e0, by omega, fun _ => ⟨by omega, fun _ => hp, fun z => absurd (e4.trans y) z⟩, fun z => absurd hk z⟩⟩, fun Q hp => zm_246_6 (d := 88) ⟨by omega, fun z => by omega, fun _ => ⟨fun z => absurd z q2', fun _ => ⟨by omega, fun _ => ⟨by omega, by have := (eA y).2; rw [show I 24 k = I 127 (50 + 14 * k + 6) from this] at hp; exact hp⟩, fun z => absurd y z⟩⟩⟩⟩
    · exact ⟨Int32.ofInt (-1), fun Q hp => zc_113_6 (d := 89) (n := n) ⟨by omega, fun z => by omega, fun _ => ⟨e0, by omega, fun _ => ⟨by omega, fun z => absurd (e4.symm.trans z) y, fun _ => hp⟩, fun z => absurd hk z⟩⟩, fun Q hp => zm_246_6 (d := 88) ⟨by omega, fun z => by omega, fun _ => ⟨fun z => absurd z q2', fun _ => ⟨by omega, fun z => absurd z y, fun _ => hp⟩⟩⟩⟩
  | 7, _, _, _ =>
    obtain ⟨i0, hi0, ei0⟩ := ok_pl ho hk
    have h3 : ∀ i, i < n → I 21 i = I 127 (30 + i) := fun i hi => CR_3 hC i hi
    refine ⟨nI i0, fun Q hp => ?_, fun Q hp => zm_246_7 (d := 88) ⟨by omega, fun z => by omega, fun _ => ⟨fun z => absurd z q2', fun _ => xq_wp.go (k := 2) (fun F => rfl) (zl_166 ho hi0 hk ei0 (xq_wp.ret (k := 1) (fun F => rfl) hp) i0 0 (by omega))⟩⟩⟩
    have key : ∀ u : Value, xq_wp 89 20 (xq_s g J I) 0 [.ref 18, .int (nI k), .int (I 2 0), xq_un] [] (fun v x1 => xq_wp 90 113 x1 188 [.ref 0, .int (nI k), .int (nI 7), .ref 18, u] (v.toList ++ []) Q) := by
      intro u
      rw [e0]
      exact xq_wp.go (k := 2) (fun F => rfl) (zl_20 ho h3 hi0 hk ei0 (xq_wp.ret (k := 1) (fun F => rfl) hp) i0 0 (by omega))
    exact zc_113_7 (d := 89) ⟨by omega, fun z => by omega, fun _ => ⟨fun _ => ⟨by omega, fun _ => key _, fun _ => key _⟩, fun z => absurd (by rw [e0]; exact q3) z⟩⟩
  | 8, _, h8, h9 => exact absurd rfl h8
  | 9, _, h8, h9 => exact absurd rfl h9
  | 10, _, _, _ =>
    have e8 : I 26 (k * 5 + 10 - 10) = I 127 (50 + 14 * k + 7) := by
      have := CR_8 hC rfl k 0 hk (by omega)
      rw [show k * 5 + 10 - 10 = k * 5 + 0 by omega]
      exact this
    exact ⟨I 127 (50 + 14 * k + 7), fun Q hp => zc_113_10 (d := 89) (n := n) ⟨by omega, fun z => by omega, fun _ => ⟨e0, by omega, fun _ => ⟨by omega, fun _ => ⟨by omega, by omega, by rw [e8]; exact hp⟩, fun _ => ⟨by omega, by omega, by rw [e8]; exact hp⟩⟩, fun z => absurd hk z⟩⟩, fun Q hp => zm_246_10 (d := 88) ⟨by omega, fun z => by omega, fun _ => ⟨fun z => absurd z q2', fun _ => ⟨by omega, hp⟩⟩⟩⟩
  | 11, _, _, _ =>
    have e8 : I 26 (k * 5 + 11 - 10) = I 127 (50 + 14 * k + 8) := by
      have := CR_8 hC rfl k 1 hk (by omega)
      rw [show k * 5 + 11 - 10 = k * 5 + 1 by omega]
      exact this
    exact ⟨I 127 (50 + 14 * k + 8), fun Q hp => zc_113_11 (d := 89) (n := n) ⟨by omega, fun z => by omega, fun _ => ⟨e0, by omega, fun _ => ⟨by omega, fun _ => ⟨by omega, by omega, by rw [e8]; exact hp⟩, fun _ => ⟨by omega, by omega, by rw [e8]; exact hp⟩⟩, fun z => absurd hk z⟩⟩, fun Q hp => zm_246_11 (d := 88) ⟨by omega, fun z => by omega, fun _ => ⟨fun z => absurd z q2', fun _ => ⟨by omega, hp⟩⟩⟩⟩
  | 12, _, _, _ =>
    have e8 : I 26 (k * 5 + 12 - 10) = I 127 (50 + 14 * k + 9) := by
      have := CR_8 hC rfl k 2 hk (by omega)
      rw [show k * 5 + 12 - 10 = k * 5 + 2 by omega]
      exact this
    exact ⟨I 127 (50 + 14 * k + 9), fun Q hp => zc_113_12 (d := 89) (n := n) ⟨by omega, fun z => by omega, fun _ => ⟨e0, by omega, fun _ => ⟨by omega, fun _ => ⟨by omega, by omega, by rw [e8]; exact hp⟩, fun _ => ⟨by omega, by omega, by rw [e8]; exact hp⟩⟩, fun z => absurd hk z⟩⟩, fun Q hp => zm_246_12 (d := 88) ⟨by omega, fun z => by omega, fun _ => ⟨fun z => absurd z q2', fun _ => ⟨by omega, hp⟩⟩⟩⟩
  | 13, _, _, _ =>
    have e8 : I 26 (k * 5 + 13 - 10) = I 127 (50 + 14 * k + 10) := by
      have := CR_8 hC rfl k 3 hk (by omega)
      rw [show k * 5 + 13 - 10 = k * 5 + 3 by omega]
      exact this
    exact ⟨I 127 (50 + 14 * k + 10), fun Q hp => zc_113_13 (d := 89) (n := n) ⟨by omega, fun z => by omega, fun _ => ⟨e0, by omega, fun _ => ⟨by omega, fun _ => ⟨by omega, by omega, by rw [e8]; exact hp⟩, fun _ => ⟨by omega, by omega, by rw [e8]; exact hp⟩⟩, fun z => absurd hk z⟩⟩, fun Q hp => zm_246_13 (d := 88) ⟨by omega, fun z => by omega, fun _ => ⟨fun z => absurd z q2', fun _ => ⟨by omega, hp⟩⟩⟩⟩
  | 14, _, _, _ =>
    have e8 : I 26 (k * 5 + 14 - 10) = I 127 (50 + 14 * k + 11) := by
      have := CR_8 hC rfl k 4 hk (by omega)
      rw [show k * 5 + 14 - 10 = k * 5 + 4 by omega]
      exact this
    exact ⟨I 127 (50 + 14 * k + 11), fun Q hp => zc_113_14 (d := 89) (n := n) ⟨by omega, fun z => by omega, fun _ => ⟨e0, by omega, fun _ => ⟨by omega, fun _ => ⟨by omega, by omega, by rw [e8]; exact hp⟩, fun _ => ⟨by omega, by omega, by rw [e8]; exact hp⟩⟩, fun z => absurd hk z⟩⟩, fun Q hp => zm_246_14 (d := 88) ⟨by omega, fun z => by omega, fun _ => ⟨fun z => absurd z q2', fun _ => ⟨by omega, hp⟩⟩⟩⟩
  | w + 15, h, _, _ => exact absurd h (by omega)
theorem P11 : xq_P11 126 Inv := by
  intro b w
  refine rd_pair (fun g J I n ns hi ho hC => ?_)
  have n14 := ho.1.2.1
  have e0 : I 2 0 = nI n := (CR_G hC).1.trans ho.1.1
  by_cases hb : ¬ b < nI 0 ∧ b < nI n
  · obtain ⟨k, hk, ek⟩ := i_nat hb.1 hb.2 (by omega)
    subst ek
    by_cases hw : ∃ t, t < 15 ∧ ¬ t = 8 ∧ ¬ t = 9 ∧ w = nI t
    · obtain ⟨t, t1, t2, t3, et⟩ := hw
      subst et
      exact P11_v ho hC hk t1 t2 t3
    · have nw : ∀ t, t < 15 → ¬ t = 8 → ¬ t = 9 → ¬ w = nI t := fun t t1 t2 t3 e => hw ⟨t, t1, t2, t3, e⟩
      obtain ⟨q1, q2, q3⟩ := i_in hk (by omega)
      have q2' : ¬ I 127 0 - nI 1 < nI k := by rw [ho.1.1]; exact q2
      have no1 : ¬ w < nI 10 → ¬ w < nI 15 ∧ nI 14 < w := by
        intro y
        refine ⟨fun y2 => ?_, Classical.byContradiction fun y2 => ?_⟩
        · obtain ⟨t, t1, t2⟩ := i_lt (fun y3 => y (Int32.lt_trans y3 (by decide))) y2 (by omega)
          have : ¬ t < 10 := fun y3 => y (by rw [t2, xn_lt (by omega) (by omega)]; exact y3)
          exact nw t t1 (by omega) (by omega) t2
        · obtain ⟨t, t1, t2, t3⟩ := i_rng y y2 (by omega) (by omega)
          exact nw t (by omega) (by omega) (by omega) t3
      have no2 : ¬ w < nI 0 → nI 4 < w := by
        intro y
        refine Classical.byContradiction fun y2 => ?_
        obtain ⟨t, t1, t2, t3⟩ := i_rng y y2 (by omega) (by omega)
        exact nw t (by omega) (by omega) (by omega) t3
      refine ⟨(Int8.ofInt (-2)).toInt32, fun Q hp => zc_113_x (d := 89) q1 (by rw [e0]; exact q3) ⟨xn_in (by omega) (by omega), fun _ => ?_, fun _ => ?_⟩, fun Q hp => zm_246_x (d := 88) q1 q2' (nw 5 (by omega) (by omega) (by omega)) (nw 6 (by omega) (by omega) (by omega)) (nw 7 (by omega) (by omega) (by omega)) ⟨fun z => ⟨fun _ => hp, fun z2 => ⟨fun _ => hp, fun z3 => absurd (no1 z2).2 z3⟩⟩, fun z => ⟨fun z2 => ⟨fun _ => hp, fun z3 => ⟨fun _ => hp, fun z4 => absurd (no1 z3).2 z4⟩⟩, fun z2 => absurd (no2 z) z2⟩⟩⟩
      all_goals
        exact ⟨fun y => absurd y (nw 0 (by omega) (by omega) (by omega)), fun y => absurd y (nw 1 (by omega) (by omega) (by omega)), fun y => absurd y (nw 2 (by omega) (by omega) (by omega)), fun y => absurd y (nw 3 (by omega) (by omega) (by omega)), fun y => absurd y (nw 4 (by omega) (by omega) (by omega)), fun y => absurd y (nw 5 (by omega) (by omega) (by omega)), fun y => absurd y (nw 6 (by omega) (by omega) (by omega)), fun y => absurd y (nw 7 (by omega) (by omega) (by omega)), fun _ => ⟨fun _ => hp, fun z => ⟨fun z2 => absurd z2 (no1 z).1, fun _ => hp⟩⟩⟩
  · refine ⟨(Int8.ofInt (-2)).toInt32, fun Q hp => zc_113_o (d := 89) ⟨fun z => hp, fun z => ⟨fun z2 => absurd ⟨z, by rw [← e0]; exact z2⟩ hb, fun z2 => hp⟩⟩, fun Q hp => zm_246_o (d := 88) ⟨fun z => hp, fun z => ⟨fun z2 => hp, fun z2 => ?_⟩⟩⟩
    rw [ho.1.1] at z2
    exact absurd (i_out (fun y => hb ⟨z, y⟩) (by omega)) z2
theorem P14_v {l w : Nat} {ln : Nat} (ho : ok n ns (I 127)) (hC : CR true n ns I (xcR true I) (I 127)) (el : I 127 6 = nI ln) (hln : ln ≤ 200) (hl : l < ln) (hw : w < 4) : ∃ v : Int32, (∀ Q : Option Value → xq_S → Prop, Q (some (.int v)) (xq_s g J I) → xq_wp 90 119 (xq_s g J I) 0 [.ref 0, .int (nI l), .int (nI w)] [] Q) ∧ (∀ Q : Option Value → xq_S → Prop, Q (some (.int v)) (xq_s g J I) → xq_wp 90 249 (xq_s g J I) 0 [.ref 126, .int (nI l), .int (nI w)] [] Q) := by
  obtain ⟨q1, q2, q3⟩ := i_in hl (by omega)
  obtain ⟨b1, b2, b3⟩ := (CR_B hC).1 rfl
  have b2' : I 27 1 = nI ln := b2.trans el
  obtain ⟨c1, c2, c3, c4⟩ := b3 l (by rw [xk_ix el (by omega)]; exact hl)
  have q2' : ¬ I 127 6 - nI 1 < nI l := by rw [el]; exact q2
  match w, hw with
  | 0, _ => exact ⟨I 28 l, fun Q hp => zc_119_0 (d := 90) ⟨by omega, fun z => by omega, fun _ => ⟨fun _ => ⟨by omega, hp⟩, fun z => absurd (by rw [b2']; exact q3) z⟩⟩, fun Q hp => zm_249_0 (d := 89) ⟨by omega, fun z => by omega, fun _ => ⟨fun z => absurd z q2', fun _ => ⟨by omega, by rw [show I 28 l = I 127 (270 + 4 * l + 0) from c1] at hp; exact hp⟩⟩⟩⟩
  | 1, _ => exact ⟨I 29 l, fun Q hp => zc_119_1 (d := 90) ⟨by omega, fun z => by omega, fun _ => ⟨fun _ => ⟨by omega, hp⟩, fun z => absurd (by rw [b2']; exact q3) z⟩⟩, fun Q hp => zm_249_1 (d := 89) ⟨by omega, fun z => by omega, fun _ => ⟨fun z => absurd z q2', fun _ => ⟨by omega, by rw [show I 29 l = I 127 (270 + 4 * l + 1) from c2] at hp; exact hp⟩⟩⟩⟩
  | 2, _ => exact ⟨I 30 l, fun Q hp => zc_119_2 (d := 90) ⟨by omega, fun z => by omega, fun _ => ⟨fun _ => ⟨by omega, hp⟩, fun z => absurd (by rw [b2']; exact q3) z⟩⟩, fun Q hp => zm_249_2 (d := 89) ⟨by omega, fun z => by omega, fun _ => ⟨fun z => absurd z q2', fun _ => ⟨by omega, by rw [show I 30 l = I 127 (270 + 4 * l + 2) from c3] at hp; exact hp⟩⟩⟩⟩
  | 3, _ => exact ⟨I 31 l, fun Q hp => zc_119_3 (d := 90) ⟨by omega, fun z => by omega, fun _ => ⟨fun _ => ⟨by omega, hp⟩, fun z => absurd (by rw [b2']; exact q3) z⟩⟩, fun Q hp => zm_249_3 (d := 89) ⟨by omega, fun z => by omega, fun _ => ⟨fun z => absurd z q2', fun _ => ⟨by omega, by rw [show I 31 l = I 127 (270 + 4 * l + 3) from c4] at hp; exact hp⟩⟩⟩⟩
  | w + 4, h => exact absurd h (by omega)
theorem P14 : xq_P14 126 Inv := by
  intro i w
  refine rd_pair (fun g J I n ns hi ho hC => ?_)
  obtain ⟨ln, hln, el⟩ := ho.2.1
  obtain ⟨b1, b2, b3⟩ := (CR_B hC).1 rfl
  have b2' : I 27 1 = nI ln := b2.trans el
  by_cases hb : (¬ i < nI 0 ∧ i < nI ln) ∧ (¬ w < nI 0 ∧ w < nI 4)
  · obtain ⟨k, hk, ek⟩ := i_nat hb.1.1 hb.1.2 (by omega)
    obtain ⟨t, ht, et⟩ := i_nat hb.2.1 hb.2.2 (by omega)
    subst ek et
    exact P14_v ho hC el hln hk ht
  · have nw : ¬ i < nI 0 → i < nI ln → ∀ t, t < 4 → ¬ w = nI 0 + nI t := by
      intro y1 y2 t ht e
      rw [nI_add, Nat.zero_add] at e
      subst e
      obtain ⟨a1, a2, a3⟩ := i_in ht (by omega)
      exact hb ⟨⟨y1, y2⟩, a1, a3⟩
    refine ⟨Int32.ofInt (-1), fun Q hp => zc_119_x (d := 90) ⟨fun z => hp, fun z => ⟨fun z2 => ?_, fun z2 => hp⟩⟩, fun Q hp => zm_249_x (d := 89) ⟨fun z => hp, fun z => ⟨fun z2 => hp, fun z2 => ⟨fun z3 => hp, fun z3 => ⟨fun z4 => hp, fun z4 => ?_⟩⟩⟩⟩⟩
    · rw [b2'] at z2
      exact ⟨fun y => absurd y (nw z z2 0 (by omega)), fun y => absurd y (nw z z2 1 (by omega)), fun y => absurd y (nw z z2 2 (by omega)), fun y => absurd y (nw z z2 3 (by omega)), fun _ => hp⟩
    · exfalso
      rw [el] at z2
      have y1 : i < nI ln := Classical.byContradiction fun y => z2 (i_out y (by omega))
      have y2 : w < nI 4 := Classical.byContradiction fun y => z4 (i_out (n := 4) y (by omega))
      exact hb ⟨⟨z, y1⟩, z3, y2⟩
/-! stretches -/
theorem zl_117 {kn : Nat} (ho : ok n ns (I 127)) (hC : CR true n ns I (xcR true I) (I 127)) : ∀ (c i s : Nat), i + c = n → ∃ s', (∀ Q : Option Value → xq_S → Prop, Q (some (.int (nI s'))) (xq_s g J I) → xq_wp 89 117 (xq_s g J I) 5 [.ref 18, .int (nI kn), .int (nI n), .int (nI s), .int (nI i)] [] Q) ∧ (∀ Q : Option Value → xq_S → Prop, Q (some (.int (nI s'))) (xq_s g J I) → xq_wp 90 247 (xq_s g J I) 47 [.ref 126, .int (nI kn), .int (nI 2), .int (nI s), .int (nI i)] [] Q) := by
  have n14 := ho.1.2.1
  intro c
  induction c with
  | zero =>
    intro i s e
    exact ⟨s, fun Q hp => zu_117 (d := 89) ⟨by omega, by omega, fun z => by omega, fun _ => hp⟩, fun Q hp => zu_247_47 (d := 89) (n := n) ⟨ho.1.1, by omega, by omega, fun z => by omega, fun _ => hp⟩⟩
  | succ c ih =>
    intro i s e
    have hi : i < n := by omega
    have e4 : I 22 i = I 127 (50 + 14 * i + 4) := CR_4 hC i hi
    by_cases y : I 127 (50 + 14 * i + 4) = nI 2 ∧ I 127 (50 + 14 * i + 5) = nI kn
    · obtain ⟨s', h1, h2⟩ := ih (i + 1) (s + 1) (by omega)
      have e5 : I 23 i = I 127 (50 + 14 * i + 5) := (CR_A hC i hi y.1).1
      exact ⟨s', fun Q hp => zu_117 (d := 89) ⟨by omega, by omega, fun _ => ⟨by omega, fun _ => ⟨fun _ => h1 Q hp, fun z => absurd (e5.trans y.2) z⟩, fun z => absurd (e4.trans y.1) z⟩, fun z => by omega⟩, fun Q hp => zu_247_47 (d := 89) (n := n) ⟨ho.1.1, by omega, by omega, fun _ => ⟨by omega, fun _ => ⟨by omega, fun _ => h2 Q hp, fun z => absurd y.2 z⟩, fun z => absurd y.1 z⟩, fun z => by omega⟩⟩
    · obtain ⟨s', h1, h2⟩ := ih (i + 1) s (by omega)
      exact ⟨s', fun Q hp => zu_117 (d := 89) ⟨by omega, by omega, fun _ => ⟨by omega, fun z1 => ⟨fun z2 => by
        rw [e4] at z1
        exact absurd ⟨z1, ((CR_A hC i hi z1).1).symm.trans z2⟩ y, fun _ => h1 Q hp⟩, fun _ => h1 Q hp⟩, fun z => by omega⟩, fun Q hp => zu_247_47 (d := 89) (n := n) ⟨ho.1.1, by omega, by omega, fun _ => ⟨by omega, fun z1 => ⟨by omega, fun z2 => absurd ⟨z1, z2⟩ y, fun _ => h2 Q hp⟩, fun _ => h2 Q hp⟩, fun z => by omega⟩⟩
theorem P12 : xq_P12 126 Inv := by
  intro k w
  refine rd_pair (fun g J I n ns hi ho hC => ?_)
  have n14 := ho.1.2.1
  have s8 := ho.1.2.2.2
  have e0 : I 2 0 = nI n := (CR_G hC).1.trans ho.1.1
  have e5 : I 2 5 = nI ns := (CR_G hC).2.1.trans ho.1.2.2.1
  by_cases hb : (¬ k < nI 0 ∧ k < nI ns) ∧ (¬ w < nI 0 ∧ w < nI 3)
  · obtain ⟨kn, hk, ek⟩ := i_nat hb.1.1 hb.1.2 (by omega)
    obtain ⟨t, ht, et⟩ := i_nat hb.2.1 hb.2.2 (by omega)
    subst ek et
    obtain ⟨q1, q2, q3⟩ := i_in hk (by omega)
    obtain ⟨g1, g2⟩ := (CR_G hC).2.2.2 kn hk
    have q2' : ¬ I 127 1 - nI 1 < nI kn := by rw [ho.1.2.2.1]; exact q2
    match t, ht with
    | 0, _ => exact ⟨I 7 kn, fun Q hp => zc_115_0 (d := 89) ⟨by omega, fun z => by omega, fun _ => ⟨fun _ => ⟨by omega, hp⟩, fun z => absurd (by rw [e5]; exact q3) z⟩⟩, fun Q hp => zm_247_0 (d := 88) ⟨by omega, fun z => by omega, fun _ => ⟨fun z => absurd z q2', fun _ => ⟨by omega, by rw [g1] at hp; exact hp⟩⟩⟩⟩
    | 1, _ => exact ⟨I 8 kn, fun Q hp => zc_115_1 (d := 89) ⟨by omega, fun z => by omega, fun _ => ⟨fun _ => ⟨by omega, hp⟩, fun z => absurd (by rw [e5]; exact q3) z⟩⟩, fun Q hp => zm_247_1 (d := 88) ⟨by omega, fun z => by omega, fun _ => ⟨fun z => absurd z q2', fun _ => ⟨by omega, by rw [g2] at hp; exact hp⟩⟩⟩⟩
    | 2, _ =>
      obtain ⟨s', h1, h2⟩ := zl_117 (g := g) (J := J) (kn := kn) ho hC n 0 0 (by omega)
      refine ⟨nI s', fun Q hp => zc_115_2 (d := 89) ⟨by omega, fun z => by omega, fun _ => ⟨fun _ => ?_, fun z => absurd (by rw [e5]; exact q3) z⟩⟩, fun Q hp => zm_247_2 (d := 88) ⟨by omega, fun z => by omega, fun _ => ⟨fun z => absurd z q2', fun _ => h2 Q hp⟩⟩⟩
      rw [e0]
      exact xq_wp.go (k := 4) (fun F => rfl) (h1 _ (xq_wp.ret (k := 1) (fun F => rfl) hp))
    | t + 3, h => exact absurd h (by omega)
  · have nw : ¬ k < nI 0 → k < nI ns → ∀ t, t < 3 → ¬ w = nI 0 + nI t := by
      intro y1 y2 t ht e
      rw [nI_add, Nat.zero_add] at e
      subst e
      obtain ⟨a1, a2, a3⟩ := i_in ht (by omega)
      exact hb ⟨⟨y1, y2⟩, a1, a3⟩
    refine ⟨Int32.ofInt (-1), fun Q hp => zc_115_x (d := 89) ⟨fun z => hp, fun z => ⟨fun z2 => ?_, fun z2 => hp⟩⟩, fun Q hp => zm_247_x (d := 88) ⟨fun z => hp, fun z => ⟨fun z2 => hp, fun z2 => ⟨fun z3 => hp, fun z3 => ⟨fun z4 => hp, fun z4 => ?_⟩⟩⟩⟩⟩
    · rw [e5] at z2
      exact ⟨fun y => absurd y (nw z z2 0 (by omega)), fun y => absurd y (nw z z2 1 (by omega)), fun y => absurd y (nw z z2 2 (by omega)), fun _ => hp⟩
    · exfalso
      rw [ho.1.2.2.1] at z2
      have y1 : k < nI ns := Classical.byContradiction fun y => z2 (i_out y (by omega))
      have y2 : w < nI 3 := Classical.byContradiction fun y => z4 (i_out (n := 3) y (by omega))
      exact hb ⟨⟨z, y1⟩, z3, y2⟩
end xk_pr2
