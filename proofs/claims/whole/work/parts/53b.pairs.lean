/-! the pair: feed -/
/-- k bytes behind the l that were there -/
def ap (t c f : Nat) (I I' : Nat → xw) (l k : Nat) (β : Nat → Int32) : Prop := (∀ a, ¬ a = t → ¬ a = c → I' a = I a) ∧ (∀ j, ¬ j = f → I' c j = I c j) ∧ I' c f = nI (l + k) ∧ (∀ j, ¬ (l ≤ j ∧ j < l + k) → I' t j = I t j) ∧ ∀ i, i < k → I' t (l + i) = β i
def zs (z1 z2 z3 z4 z5 : Int32) (i : Nat) : Int32 := if i < 4 then z1 else if i < 8 then z2 else if i < 12 then z3 else if i < 16 then z4 else z5
def bt8 (z1 z2 z3 z4 z5 : Int32) (i : Nat) : Int32 := by8 (zs z1 z2 z3 z4 z5 i) (24 - 8 * (i % 4))
section xk_p4
variable {d : Nat} {g : xq_V} {J : Nat → Nat → Int64} {I0 I I' : Nat → Nat → Int32} {Q : Option Value → xq_S → Prop} {l k t c f : Nat} {β : Nat → Int32} {z z1 z2 z3 z4 z5 : Int32}
theorem ap_0 (h : I c f = nI l) : ap t c f I I l 0 β := ⟨fun _ _ _ => rfl, fun _ _ => rfl, h, fun _ _ => rfl, fun i hi => by omega⟩
theorem ap_s (htc : ¬ t = c) (h : ap t c f I0 I l k β) : ap t c f I0 (xq_w (xq_w I t (l + k) (β k)) c f (nI (l + k + 1))) l (k + 1) β := by
  obtain ⟨h1, h2, h3, h4, h5⟩ := h
  refine ⟨fun a a1 a2 => ?_, fun j hj => ?_, ?_, fun j hj => ?_, fun i hi => ?_⟩
  · rw [xw_i a2, xw_i a1]; exact h1 a a1 a2
  · rw [xw_x hj, xw_i (fun e => htc e.symm)]; exact h2 j hj
  · rw [xw_v]; rfl
  · rw [xw_i htc, xw_x (by omega)]; exact h4 j (by omega)
  · rw [xw_i htc]
    by_cases e : i = k
    · subst e; rw [xw_v]
    · rw [xw_x (by omega)]; exact h5 i (by omega)
theorem yl_23 (h : ap 105 104 1 I0 I l k β) (hk : l + k + 4 ≤ 400) (b0 : β k = by8 z 24) (b1 : β (k + 1) = by8 z 16) (b2 : β (k + 1 + 1) = by8 z 8) (b3 : β (k + 1 + 1 + 1) = by8 z 0) (hp : ∀ I' : Nat → xw, ap 105 104 1 I0 I' l (k + 1 + 1 + 1 + 1) β → Q none (xq_s g J I')) : xq_wp d 23 (xq_s g J I) 0 [.ref 104, .int z, xq_un] [] Q := by
  refine zc_23 (d := d) (zc_23_24 (d := d) (l := l + k) ⟨h.2.2.1, by omega, fun _ => ⟨h.2.2.1, h.2.2.1, ?_⟩, fun y => absurd (by omega) y⟩)
  have h1 := ap_s (by decide) h
  rw [b0, by8] at h1
  generalize xq_w (xq_w I 105 (l + k) (xq_ush z (nI 24) &&& nI 255)) 104 1 (nI (l + k + 1)) = I1 at *
  rw [show nI 24 + Int32.ofInt (-8) = nI 16 from by decide]
  refine zc_23_16 (d := d) (l := l + (k + 1)) ⟨h1.2.2.1, by omega, fun _ => ⟨h1.2.2.1, h1.2.2.1, ?_⟩, fun y => absurd (by omega) y⟩
  have h2 := ap_s (by decide) h1
  rw [b1, by8] at h2
  generalize xq_w (xq_w I1 105 (l + (k + 1)) (xq_ush z (nI 16) &&& nI 255)) 104 1 (nI (l + (k + 1) + 1)) = I2 at *
  rw [show nI 16 + Int32.ofInt (-8) = nI 8 from by decide]
  refine zc_23_8 (d := d) (l := l + (k + 1 + 1)) ⟨h2.2.2.1, by omega, fun _ => ⟨h2.2.2.1, h2.2.2.1, ?_⟩, fun y => absurd (by omega) y⟩
  have h3 := ap_s (by decide) h2
  rw [b2, by8] at h3
  generalize xq_w (xq_w I2 105 (l + (k + 1 + 1)) (xq_ush z (nI 8) &&& nI 255)) 104 1 (nI (l + (k + 1 + 1) + 1)) = I3 at *
  rw [show nI 8 + Int32.ofInt (-8) = nI 0 from by decide]
  refine zc_23_0 (d := d) (l := l + (k + 1 + 1 + 1)) ⟨h3.2.2.1, by omega, fun _ => ⟨h3.2.2.1, h3.2.2.1, ?_⟩, fun y => absurd (by omega) y⟩
  have h4 := ap_s (by decide) h3
  rw [b3, by8] at h4
  generalize xq_w (xq_w I3 105 (l + (k + 1 + 1 + 1)) (xq_ush z (nI 0) &&& nI 255)) 104 1 (nI (l + (k + 1 + 1 + 1) + 1)) = I4 at *
  exact zc_23_e (d := d) (by decide) (hp I4 h4)
theorem yl_22 (h : I 104 1 = nI l) (hl : l ≤ 400) (bad : 400 < l + 20 → Q (some (.int (Int32.ofInt (-1)))) (xq_s g J I)) (hp : ¬ 400 < l + 20 → ∀ I' : Nat → xw, ap 105 104 1 I I' l 20 (bt8 z1 z2 z3 z4 z5) → Q (some (.int (nI (l + 20)))) (xq_s g J I')) : xq_wp (d + 1) 22 (xq_s g J I) 0 [.ref 104, .int z1, .int z2, .int z3, .int z4, .int z5] [] Q := by
  refine zc_22 (d := d) (l := l) ⟨h, by omega, bad, fun y => ?_⟩
  refine yl_23 (l := l) (k := 0) (β := bt8 z1 z2 z3 z4 z5) (ap_0 h) (by omega) rfl rfl rfl rfl (fun I1 h1 => zc_22_20 (d := d) ?_)
  refine yl_23 (l := l) (k := 4) h1 (by omega) rfl rfl rfl rfl (fun I2 h2 => zc_22_25 (d := d) ?_)
  refine yl_23 (l := l) (k := 8) h2 (by omega) rfl rfl rfl rfl (fun I3 h3 => zc_22_30 (d := d) ?_)
  refine yl_23 (l := l) (k := 12) h3 (by omega) rfl rfl rfl rfl (fun I4 h4 => zc_22_36 (d := d) ?_)
  refine yl_23 (l := l) (k := 16) h4 (by omega) rfl rfl rfl rfl (fun I5 h5 => zc_22_42 (d := d + 1) ?_)
  have e : I5 104 1 = nI (l + 20) := h5.2.2.1
  rw [e]
  exact hp y I5 h5
theorem xl_167 (hl : l + 20 ≤ 400) : ∀ (t k : Nat) (I : Nat → xw) (u : Value), k + t = 20 → ap 135 126 18 I0 I l k (bt8 z1 z2 z3 z4 z5) → (∀ I' : Nat → xw, ap 135 126 18 I0 I' l 20 (bt8 z1 z2 z3 z4 z5) → Q (some (.int (nI (l + 20)))) (xq_s g J I')) → xq_wp d 167 (xq_s g J I) 18 [.ref 126, .int z1, .int z2, .int z3, .int z4, .int z5, .int (nI k), u] [] Q := by
  intro t
  induction t with
  | zero =>
    intro k I u hk h hp
    have : k = 20 := by omega
    subst this
    refine xu_167_18 (d := d) ⟨by omega, fun y => absurd y (by omega), fun _ => ?_⟩
    rw [h.2.2.1]
    exact hp I h
  | succ t ih =>
    intro k I u hk h hp
    have S : ∀ z, bt8 z1 z2 z3 z4 z5 k = by8 z (24 - 8 * (k % 4)) → xq_wp d 167 (xq_s g J I) 73 [.ref 126, .int z1, .int z2, .int z3, .int z4, .int z5, .int (nI k), .int z] [] Q := fun z hz => by
      refine xu_167_73 (d := d) (l := l + k) ⟨h.2.2.1, by omega, h.2.2.1, ih (k + 1) _ _ (by omega) ?_ hp⟩
      have q := ap_s (by decide) h
      rw [hz, ← by8_eq z (by omega), ← by_k k (by omega)] at q
      exact q
    refine xu_167_18 (d := d) ⟨by omega, fun _ => ⟨fun y => S z1 ?_, fun y => ⟨fun y2 => S z2 ?_, fun y2 => ⟨fun y3 => S z3 ?_, fun y3 => ⟨fun y4 => S z4 ?_, fun y4 => S z5 ?_⟩⟩⟩⟩, fun y => absurd (by omega) y⟩
    · rw [bt8, zs, if_pos y]
    · rw [bt8, zs, if_neg y, if_pos y2]
    · rw [bt8, zs, if_neg y, if_neg y2, if_pos y3]
    · rw [bt8, zs, if_neg y, if_neg y2, if_neg y3, if_pos y4]
    · rw [bt8, zs, if_neg y, if_neg y2, if_neg y3, if_neg y4]
theorem P4 : xq_P4 126 Inv := by
  intro z1 z2 z3 z4 z5
  refine pair_of (fun g J I hi => ?_)
  have hi' := hi
  obtain ⟨n, ns, -, -, -, ⟨⟨l, hl, el, em, hb⟩, hf1, hf2⟩, -⟩ := hi'
  refine zc_21 (d := 89) (yl_22 (d := 88) el hl (fun y => zc_21_14 (d := 90) ⟨_, g, J, I, rfl, rfl, ⟨_, rfl⟩, ?_⟩) (fun y I1 h1 => zc_21_14 (d := 90) ⟨_, g, J, I1, rfl, rfl, ⟨_, rfl⟩, ?_⟩))
  · exact xu_167 (d := 90) (l := l) ⟨em, by omega, fun _ => ⟨rfl, g, J, I, rfl, hi⟩, fun q => absurd y q⟩
  · have em1 : I1 126 18 = nI l := by rw [h1.1 126 (by omega) (by omega)]; exact em
    refine xu_167 (d := 90) (l := l) ⟨em1, by omega, fun q => absurd q y, fun _ => xl_167 (by omega) 20 0 I1 xq_un (by omega) (ap_0 em1) (fun I2 h2 => ⟨rfl, g, J, I2, rfl, ?_⟩)⟩
    have e126 : I1 126 = I 126 := h1.1 126 (by omega) (by omega)
    have e135 : I1 135 = I 135 := h1.1 135 (by omega) (by omega)
    have e104 : I2 104 = I1 104 := h2.1 104 (by omega) (by omega)
    have e105 : I2 105 = I1 105 := h2.1 105 (by omega) (by omega)
    refine iv_rd hi (fun a a1 a2 a3 => ?_) (fun j j1 j2 j3 => ?_) ⟨⟨l + 20, by omega, ?_, h2.2.2.1, fun i hi => ?_⟩, ?_, ?_⟩
    · rw [h2.1 a a3 a2, h1.1 a (by omega) (by omega)]
    · rw [h2.2.1 j j1, e126]
    · rw [e104]; exact h1.2.2.1
    · rw [e105]
      by_cases hi2 : i < l
      · rw [h1.2.2.2.1 i (by omega), h2.2.2.2.1 i (by omega), e135]
        exact hb i hi2
      · have ei : i = l + (i - l) := by omega
        have q1 := h1.2.2.2.2 (i - l) (by omega)
        have q2 := h2.2.2.2.2 (i - l) (by omega)
        rw [← ei] at q1 q2
        exact ⟨q1.trans q2.symm, by rw [q1]; exact by8_lt _ _⟩
    · rw [e104, h1.2.1 8 (by omega), h2.2.1 25 (by omega), e126]; exact hf1
    · rw [e104, h1.2.1 9 (by omega), h2.2.1 27 (by omega), e126]; exact hf2
end xk_p4
