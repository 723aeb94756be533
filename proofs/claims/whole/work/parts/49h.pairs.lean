/-! the pairs: took -/
def tkL (W : xw) (b e k : Nat) : Nat → Option Nat
  | 0 => none
  | i + 1 => if W (270 + 4 * i + 1) = nI b ∧ W (270 + 4 * i + 2) = nI e ∧ W (270 + 4 * i + 3) = nI k then some i else tkL W b e k i
def tkV (r : Option Nat) : Int32 := match r with
  | none => Int32.ofInt (-1)
  | some i => nI i
def tv : Nat → Int32
  | 0 => Int32.ofInt (-1)
  | t + 1 => nI t
/-- what the line ahead must say -/
def tkE (k : Nat) : Nat := if k = 0 then 0 else 1
def tkA (W : xw) (b k : Nat) (o : Nat) : Int32 := match tkL W b (tkE k) (k - 1) o with
  | none => Int32.ofInt (-1)
  | some f => W (270 + 4 * o) - W (270 + 4 * f)
def tkT (W : xw) (b k l : Nat) : Int32 := match tkL W b 1 k l with
  | none => Int32.ofInt (-1)
  | some o => tkA W b k o
section xk_pr5
variable {g : xq_V} {J : Nat → Nat → Int64} {I I' : Nat → xw} {n ns : Nat} {Q : Option Value → xq_S → Prop} {d : Nat} {W : xw}
theorem tv_dec (t : Nat) : nI t + Int32.ofInt (-1) = tv t := by
  cases t with
  | zero => decide
  | succ t => rw [xn_dec (by omega)]; rfl
theorem tkL_lt {b e k : Nat} : ∀ l i, tkL W b e k l = some i → i < l
  | 0, i, h => by cases h
  | l + 1, i, h => by
    simp only [tkL] at h
    split at h
    · cases h; omega
    · have := tkL_lt l i h; omega
theorem zl_142_12 {ln : Int32} {b e k L : Nat} (hL : L ≤ 200) (hB : ∀ i, i < L → I 29 i = I 127 (270 + 4 * i + 1) ∧ I 30 i = I 127 (270 + 4 * i + 2) ∧ I 31 i = I 127 (270 + 4 * i + 3)) : ∀ t, t ≤ L → Q (some (.int (tkV (tkL (I 127) b e k t)))) (xq_s g J I) → xq_wp d 142 (xq_s g J I) 12 [.ref 27, .int ln, .int (nI b), .int (nI e), .int (nI k), .int (tv t)] [] Q := by
  intro t
  induction t with
  | zero => intro ht hp; exact zc_142_m (d := d) hp
  | succ t ih =>
    intro ht hp
    obtain ⟨b1, b2, b3⟩ := hB t (by omega)
    simp only [tkL] at hp
    have go : ¬ (I 127 (270 + 4 * t + 1) = nI b ∧ I 127 (270 + 4 * t + 2) = nI e ∧ I 127 (270 + 4 * t + 3) = nI k) → xq_wp d 142 (xq_s g J I) 12 [.ref 27, .int ln, .int (nI b), .int (nI e), .int (nI k), .int (nI t + Int32.ofInt (-1))] [] Q := by
      intro y
      rw [if_neg y] at hp
      rw [tv_dec]
      exact ih (by omega) hp
    refine zc_142_12 (d := d) ⟨by omega, fun z => by omega, fun _ => ⟨by omega, fun z1 => ⟨fun z2 => ⟨fun z3 => ?_, fun z3 => go (fun y => z3 (b3.trans y.2.2))⟩, fun z2 => go (fun y => z2 (b2.trans y.2.1))⟩, fun z1 => go (fun y => z1 (b1.trans y.1))⟩⟩
    rw [b1] at z1
    rw [b2] at z2
    rw [b3] at z3
    rw [if_pos ⟨z1, z2, z3⟩] at hp
    exact hp
theorem zl_142 {b e k L l : Nat} (hL : L ≤ 200) (el : I 27 1 = nI L) (hl : l ≤ L) (hB : ∀ i, i < L → I 29 i = I 127 (270 + 4 * i + 1) ∧ I 30 i = I 127 (270 + 4 * i + 2) ∧ I 31 i = I 127 (270 + 4 * i + 3)) (hp : Q (some (.int (tkV (tkL (I 127) b e k l)))) (xq_s g J I)) : xq_wp (d + 1) 142 (xq_s g J I) 0 [.ref 27, .int (nI l), .int (nI b), .int (nI e), .int (nI k), xq_un] [] Q := by
  refine zc_142 (d := d) ?_
  rw [el, xn_min (by omega) (by omega), Nat.min_eq_left hl]
  have : nI l - nI 1 = tv l := by
    cases l with
    | zero => decide
    | succ l => rw [pk_sub (by omega)]; rfl
  refine xq_wp.go (k := 2) (L' := [.ref 27, .int (nI l), .int (nI b), .int (nI e), .int (nI k), .int (nI l - nI 1)]) (fun F => rfl) ?_
  rw [this]
  exact zl_142_12 hL hB l hl hp
theorem tkV_some {r : Option Nat} {o : Nat} (h : r = some o) : tkV r = nI o := by rw [h]; rfl
theorem zl_141 {b k L : Nat} (hk : k < 8) (hL : L ≤ 200) (el : I 27 1 = nI L) (hB : ∀ i, i < L → I 28 i = I 127 (270 + 4 * i) ∧ I 29 i = I 127 (270 + 4 * i + 1) ∧ I 30 i = I 127 (270 + 4 * i + 2) ∧ I 31 i = I 127 (270 + 4 * i + 3)) {u4 u5 : Value} (hp : Q (some (.int (tkT (I 127) b k L))) (xq_s g J I)) : xq_wp (d + 2) 142 (xq_s g J I) 0 [.ref 27, .int (nI L), .int (nI b), .int (nI 1), .int (nI k), xq_un] [] (fun v x1 => xq_wp (d + 3) 141 x1 49 [.ref 0, .int (nI b), .int (nI k), .ref 27, u4, u5] (v.toList ++ []) Q) := by
  have hB' : ∀ i, i < L → I 29 i = I 127 (270 + 4 * i + 1) ∧ I 30 i = I 127 (270 + 4 * i + 2) ∧ I 31 i = I 127 (270 + 4 * i + 3) := fun i hi => (hB i hi).2
  refine zl_142 (d := d + 1) hL el (Nat.le_refl _) hB' ?_
  unfold tkT at hp
  cases ht : tkL (I 127) b 1 k L with
  | none =>
    rw [ht] at hp
    exact zc_141_49 (d := d + 2) ⟨fun _ => hp, fun z => absurd rfl z⟩
  | some o =>
    rw [ht] at hp
    have ho := tkL_lt _ _ ht
    have hp : Q (some (.int (tkA (I 127) b k o))) (xq_s g J I) := hp
    unfold tkA at hp
    have fin : ∀ r : Option Nat, (∀ f, r = some f → f < o) → Q (some (.int (match r with
        | none => Int32.ofInt (-1)
        | some f => I 127 (270 + 4 * o) - I 127 (270 + 4 * f)))) (xq_s g J I) → (tkV r = Int32.ofInt (-1) → Q (some (.int (Int32.ofInt (-1)))) (xq_s g J I)) ∧ (¬ tkV r = Int32.ofInt (-1) → (o < 200 ∧ (xq_in (tkV r) 200 = true ∧ Q (some (.int (I 28 o - I 28 (tkV r).toNatClampNeg))) (xq_s g J I)))) := by
      intro r hr hq
      cases r with
      | none => exact ⟨fun _ => hq, fun z => absurd rfl z⟩
      | some f =>
        have hf := hr f rfl
        refine ⟨fun z => absurd z (nI_m1 (by omega)), fun _ => ⟨by omega, xn_in (by omega) (by omega), ?_⟩⟩
        show Q (some (.int (I 28 o - I 28 (nI f).toNatClampNeg))) _
        rw [nI_clamp (by omega), (hB o (by omega)).1, (hB f (by omega)).1]
        exact hq
    refine zc_141_49 (d := d + 2) ⟨fun z => absurd z (nI_m1 (by omega)), fun _ => ⟨by omega, fun z => ?_, fun z => ⟨by omega, ?_⟩⟩⟩
    · subst z
      exact zl_142 (d := d + 1) hL el (by omega) hB' (zc_141_72 (d := d + 3) (fin _ (fun f hf => tkL_lt _ _ hf) hp))
    · have e1 : tkE k = 1 := by rw [tkE, if_neg z]
      rw [e1] at hp
      exact zl_142 (d := d + 1) hL el (by omega) hB' (zc_141_86 (d := d + 3) (fin _ (fun f hf => tkL_lt _ _ hf) hp))
/-- the model: the line ahead -/
theorem zl_268_2 {b k L : Nat} {ov : Int32} (hk : k < 8) (hL : L ≤ 200) (hw : ∀ i, i < L → (∃ t, t ≤ 20000 ∧ I 127 (270 + 4 * i) = nI t) ∧ (I 127 (270 + 4 * i + 2) = nI 0 → I 127 (270 + 4 * i + 3) = nI 0)) (hov : ¬ ov = Int32.ofInt (-1)) : ∀ (t : Nat) (u6 : Value), t ≤ L → Q (some (.int (match tkL (I 127) b (tkE k) (k - 1) t with
    | none => Int32.ofInt (-1)
    | some f => ov - I 127 (270 + 4 * f)))) (xq_s g J I) → xq_wp d 268 (xq_s g J I) 34 [.ref 126, .int (nI b), .int (nI k), .int ov, .int (Int32.ofInt (-1)), .int (tv t), u6] [] Q := by
  intro t
  induction t with
  | zero => intro u6 ht hp; exact zm_268_m (d := d) ⟨fun _ => hp, fun z => absurd rfl z⟩
  | succ t ih =>
    intro u6 ht hp
    obtain ⟨⟨w, hw1, ew⟩, h0⟩ := hw t (by omega)
    simp only [tkL] at hp
    have go : ∀ u6 : Value, ¬ (I 127 (270 + 4 * t + 1) = nI b ∧ I 127 (270 + 4 * t + 2) = nI (tkE k) ∧ I 127 (270 + 4 * t + 3) = nI (k - 1)) → xq_wp d 268 (xq_s g J I) 34 [.ref 126, .int (nI b), .int (nI k), .int ov, .int (Int32.ofInt (-1)), .int (nI t + Int32.ofInt (-1)), u6] [] Q := by
      intro u6 y
      rw [if_neg y] at hp
      rw [tv_dec]
      exact ih u6 (by omega) hp
    have yes : ∀ u6 : Value, (I 127 (270 + 4 * t + 1) = nI b ∧ I 127 (270 + 4 * t + 2) = nI (tkE k) ∧ I 127 (270 + 4 * t + 3) = nI (k - 1)) → xq_wp d 268 (xq_s g J I) 34 [.ref 126, .int (nI b), .int (nI k), .int ov, .int (I 127 (270 + 4 * t)), .int (nI t + Int32.ofInt (-1)), u6] [] Q := by
      intro u6 y
      rw [if_pos y] at hp
      rw [tv_dec]
      have na : ¬ I 127 (270 + 4 * t) = Int32.ofInt (-1) := by rw [ew]; exact nI_m1 (by omega)
      cases t with
      | zero => exact zm_268_m (d := d) ⟨fun z => absurd z na, fun _ => hp⟩
      | succ t => exact zm_268_34 (d := d) ⟨by omega, fun z => by omega, fun _ => ⟨fun z => absurd z na, fun _ => hp⟩⟩
    refine zm_268_34 (d := d) ⟨by omega, fun z => by omega, fun _ => ⟨fun _ => ⟨by omega, fun z1 => ⟨fun z => absurd z hov, fun _ => ⟨by omega, fun z2 => ⟨by omega, fun z3 => ⟨by omega, ?_⟩, fun z3 => ?_⟩, fun z2 => ⟨by omega, fun z3 => ⟨by omega, by omega, fun z4 => ⟨by omega, ?_⟩, fun z4 => ?_⟩, fun z3 => ?_⟩⟩⟩, fun z1 => go _ (fun y => z1 y.1)⟩, fun z => absurd rfl z⟩⟩
    · subst z2
      exact yes _ ⟨z1, z3, h0 z3⟩
    · subst z2
      exact go _ (fun y => z3 y.2.1)
    · exact yes _ ⟨z1, by rw [tkE, if_neg z2]; exact z3, z4⟩
    · exact go _ (fun y => z4 y.2.2)
    · exact go _ (fun y => z3 (by have := y.2.1; rw [tkE, if_neg z2] at this; exact this))
theorem zl_268_1 {b k L : Nat} (hk : k < 8) (hL : L ≤ 200) (hw : ∀ i, i < L → (∃ t, t ≤ 20000 ∧ I 127 (270 + 4 * i) = nI t) ∧ (I 127 (270 + 4 * i + 2) = nI 0 → I 127 (270 + 4 * i + 3) = nI 0)) : ∀ (t : Nat) (u6 : Value), t ≤ L → Q (some (.int (tkT (I 127) b k t))) (xq_s g J I) → xq_wp d 268 (xq_s g J I) 34 [.ref 126, .int (nI b), .int (nI k), .int (Int32.ofInt (-1)), .int (Int32.ofInt (-1)), .int (tv t), u6] [] Q := by
  intro t
  induction t with
  | zero => intro u6 ht hp; exact zm_268_m (d := d) ⟨fun _ => hp, fun z => absurd rfl z⟩
  | succ t ih =>
    intro u6 ht hp
    obtain ⟨⟨w, hw1, ew⟩, h0⟩ := hw t (by omega)
    have go : ∀ u6 : Value, ¬ (I 127 (270 + 4 * t + 1) = nI b ∧ I 127 (270 + 4 * t + 2) = nI 1 ∧ I 127 (270 + 4 * t + 3) = nI k) → xq_wp d 268 (xq_s g J I) 34 [.ref 126, .int (nI b), .int (nI k), .int (Int32.ofInt (-1)), .int (Int32.ofInt (-1)), .int (nI t + Int32.ofInt (-1)), u6] [] Q := by
      intro u6 y
      simp only [tkT, tkL, if_neg y] at hp
      rw [tv_dec]
      exact ih u6 (by omega) hp
    refine zm_268_34 (d := d) ⟨by omega, fun z => by omega, fun _ => ⟨fun _ => ⟨by omega, fun z1 => ⟨fun _ => ⟨by omega, fun z2 => ⟨by omega, fun z3 => ⟨by omega, ?_⟩, fun z3 => go _ (fun y => z3 y.2.2)⟩, fun z2 => go _ (fun y => z2 y.2.1)⟩, fun z => absurd rfl z⟩, fun z1 => go _ (fun y => z1 y.1)⟩, fun z => absurd rfl z⟩⟩
    simp only [tkT, tkL, if_pos (show I 127 (270 + 4 * t + 1) = nI b ∧ I 127 (270 + 4 * t + 2) = nI 1 ∧ I 127 (270 + 4 * t + 3) = nI k from ⟨z1, z2, z3⟩)] at hp
    rw [tv_dec]
    exact zl_268_2 hk hL hw (by rw [ew]; exact nI_m1 (by omega)) t _ (by omega) hp
theorem P23 : xq_P23 126 Inv := by
  intro b k
  refine rd_pair (fun g J I n ns hi ho hC => ?_)
  have n14 := ho.1.2.1
  have s8 := ho.1.2.2.2
  have e0 : I 2 0 = nI n := (CR_G hC).1.trans ho.1.1
  have e5 : I 2 5 = nI ns := (CR_G hC).2.1.trans ho.1.2.2.1
  obtain ⟨L, hL, eL⟩ := ho.2.1
  obtain ⟨b1, b2, b3⟩ := (CR_B hC).1 rfl
  have el : I 27 1 = nI L := b2.trans eL
  have iL : sp_ix (I 127) 6 = L := xk_ix eL (by omega)
  rw [iL] at b3
  obtain ⟨n', ns', ⟨-, -, hbk, -⟩, -⟩ := hi
  unfold bkw at hbk
  rw [iL] at hbk
  by_cases hb : (¬ b < nI 0 ∧ b < nI n) ∧ (¬ k < nI 0 ∧ k < nI ns)
  · obtain ⟨x, hx, ex⟩ := i_nat hb.1.1 hb.1.2 (by omega)
    obtain ⟨t, ht, et⟩ := i_nat hb.2.1 hb.2.2 (by omega)
    subst ex et
    obtain ⟨q1, q2, q3⟩ := i_in hx (by omega)
    obtain ⟨p1, p2, p3⟩ := i_in ht (by omega)
    refine ⟨tkT (I 127) x t L, fun Q hp => zc_141 (d := 89) ⟨fun z => absurd z q1, fun _ => ⟨fun _ => ⟨fun z => absurd z p1, fun _ => ⟨fun _ => ?_, fun z => absurd (by rw [e5]; exact p3) z⟩⟩, fun z => absurd (by rw [e0]; exact q3) z⟩⟩, fun Q hp => zm_268 (d := 88) ⟨fun z => absurd z q1, fun _ => ⟨fun z => ?_, fun _ => ⟨fun z => absurd z p1, fun _ => ⟨fun z => ?_, fun _ => ?_⟩⟩⟩⟩⟩
    · rw [el]
      exact zl_141 (d := 87) (by omega) hL el b3 hp
    · rw [ho.1.1] at z; exact absurd z q2
    · rw [ho.1.2.2.1] at z; exact absurd z p2
    · refine zm_268_18 (d := 90) ?_
      have : I 127 6 - nI 1 = tv L := by
        rw [eL]
        cases L with
        | zero => decide
        | succ l => rw [pk_sub (by omega)]; rfl
      rw [this]
      exact xq_wp.go (k := 1) (fun F => rfl) (zl_268_1 (by omega) hL hbk L _ (Nat.le_refl _) hp)
  · refine ⟨Int32.ofInt (-1), fun Q hp => zc_141 (d := 89) ⟨fun z => hp, fun z => ⟨fun z2 => ⟨fun z3 => hp, fun z3 => ⟨fun z4 => ?_, fun z4 => hp⟩⟩, fun z2 => hp⟩⟩, fun Q hp => zm_268 (d := 88) ⟨fun z => hp, fun z => ⟨fun z2 => hp, fun z2 => ⟨fun z3 => hp, fun z3 => ⟨fun z4 => hp, fun z4 => ?_⟩⟩⟩⟩⟩
    · rw [e0] at z2
      rw [e5] at z4
      exact absurd ⟨⟨z, z2⟩, z3, z4⟩ hb
    · exfalso
      rw [ho.1.1] at z2
      rw [ho.1.2.2.1] at z4
      have y1 : b < nI n := Classical.byContradiction fun y => z2 (i_out y (by omega))
      have y2 : k < nI ns := Classical.byContradiction fun y => z4 (i_out y (by omega))
      exact hb ⟨⟨z, y1⟩, z3, y2⟩
end xk_pr5
