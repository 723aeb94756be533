/-! ways: the class -/
def cBad (h n : Nat) (W : xw) (t : Nat) : Bool := decide (h = 2) && !balB n W t
def cAd (h n : Nat) (W : xw) (b s : Nat) : Bool := if h = 1 then adC (weN W n) (nbs W) b s else sub (nbs W b) s
section yk_wy
variable {d : Nat} {J : Nat → Nat → Int64} {I : Nat → xw} {Q : Option Value → xq_S → Prop} {n ns h s S w : Nat} {W : xw} {T : Nat → Int64} {g1 g2 : Nat} {g3 : Nat → Nat × Nat} {g4 : Nat → Nat → Option Nat} {g5 : Option Nat} {o n0 : Nat} {bal : Int32}
theorem yl_137_4 (ho : lok (g1, g2, g3, g4, g5, some o) o n0) (hn : n ≤ 14) (e0 : I 2 0 = nI n) (e5 : ∀ b, b < n → I 5 b = W (50 + 14 * b + 2)) (hp : Q (some (.int (nI (weN W n)))) (xq_s (g1, g2, g3, g4, g5, some o) (va_up J o T) I)) : ∀ (c b : Nat), b + c = n → xq_wp d 137 (xq_s (g1, g2, g3, g4, g5, some o) (va_up J o T) I) 4 [.ref 53, .int (nI (weN W b)), .int (nI b)] [] Q := by
  intro c
  induction c with
  | zero =>
    intro b eb
    have : b = n := by omega
    subst this
    exact wc_137_4 (d := d) (n := b) ho ⟨e0, by omega, by omega, fun z => by omega, fun _ => hp⟩
  | succ c ih =>
    intro b eb
    have k := ih (b + 1) (by omega)
    rw [weN] at k
    refine wc_137_4 (d := d) (n := n) ho ⟨e0, by omega, by omega, fun _ => ⟨by omega, fun z => ?_, fun z => ?_⟩, fun z => by omega⟩
    · rw [e5 b (by omega)] at z
      rw [if_pos z, ← or_N (weN_lt b) (by omega), ← sh_N b (by omega)] at k
      exact k
    · rw [e5 b (by omega)] at z
      rw [if_neg z] at k
      exact k
theorem yl_138_4 (ho : lok (g1, g2, g3, g4, g5, some o) o n0) (hn : n ≤ 14) (hs : s < 2 ^ 14) (hG : cG n ns I W) (e0 : I 2 0 = nI n) (hp : Q (some (.int (ti W s n))) (xq_s (g1, g2, g3, g4, g5, some o) (va_up J o T) I)) : ∀ (c b : Nat), b + c = n → xq_wp (d + 1) 138 (xq_s (g1, g2, g3, g4, g5, some o) (va_up J o T) I) 4 [.ref 53, .int (nI s), .int (ti W s b), .int (nI b)] [] Q := by
  intro c
  induction c with
  | zero =>
    intro b eb
    have : b = n := by omega
    subst this
    exact wc_138_4 (d := d) (n := b) ho ⟨e0, by omega, by omega, fun z => by omega, fun _ => hp⟩
  | succ c ih =>
    intro b eb
    have k := ih (b + 1) (by omega)
    rw [ti] at k
    obtain ⟨a3, ⟨a5, _⟩, a6⟩ := hG.2.2.1 b (by omega)
    refine wc_138_4 (d := d) (n := n) ho ⟨e0, by omega, by omega, fun _ => ⟨fun z => ⟨by omega, fun z2 => ?_, fun z2 => ?_⟩, fun z => ?_⟩, fun z => by omega⟩
    · rw [nb_b1 (by omega) (by omega)] at z
      rw [a5] at z2
      rw [if_pos z, sp_wei, if_pos z2] at k
      rw [a3]; exact k
    · rw [nb_b1 (by omega) (by omega)] at z
      rw [a5] at z2
      rw [if_pos z, sp_wei, if_neg z2] at k
      rw [a3]; exact k
    · rw [nb_b1 (by omega) (by omega)] at z
      rw [if_neg z] at k
      exact k
/-- a set's pushes -/
theorem yl_136_100 (hh : h ≤ 2) (hl : lok (g1, g2, g3, g4, g5, some o) o n0) (hn0 : 2 ^ n ≤ n0) (ho : ok n ns W) (hG : cG n ns I W) (e0 : I 2 0 = nI n) (hs : s < 2 ^ n) {V : Nat → Int64} (hp : ∀ (T' : Nat → Int64) (u6 u7 : Value), (∀ t, t ≤ s → T' t = V t) → (∀ t, s < t → t < 2 ^ n → T' t = wp n (cAd h n W) V s n t) → xq_wp d 136 (xq_s (g1, g2, g3, g4, g5, some o) (va_up J o T') I) 50 [.ref 53, .int (nI h), .int bal, .int (nI S), .int (nI (weN W n)), .int (nI (s + 1)), u6, u7] [] Q) : ∀ (c b : Nat) (T : Nat → Int64) (u7 : Value), b + c = n → (∀ t, t ≤ s → T t = V t) → (∀ t, s < t → t < 2 ^ n → T t = wp n (cAd h n W) V s b t) → xq_wp d 136 (xq_s (g1, g2, g3, g4, g5, some o) (va_up J o T) I) 100 [.ref 53, .int (nI h), .int bal, .int (nI S), .int (nI (weN W n)), .int (nI s), .int (nI b), u7] [] Q := by
  have n14 := ho.1.2.1
  have p14 : 2 ^ n ≤ 2 ^ 14 := Nat.pow_le_pow_right (by omega) n14
  have hw := weN_lt (W := W) n
  have hh' : h = 0 ∨ h = 1 ∨ h = 2 := by omega
  intro c
  induction c with
  | zero =>
    intro b T u7 eb h1 h2
    have : b = n := by omega
    subst this
    rcases hh' with q | q | q <;> subst q
    · exact wc_136_100_0 (d := d) (n := b) (sb := 0) hl ⟨e0, by omega, by omega, fun z => by omega, fun _ => hp T _ _ h1 h2⟩
    · exact wc_136_100_1 (d := d) (n := b) (sb := 0) hl ⟨e0, by omega, by omega, fun z => by omega, fun _ => hp T _ _ h1 h2⟩
    · exact wc_136_100_2 (d := d) (n := b) (sb := 0) hl ⟨e0, by omega, by omega, fun z => by omega, fun _ => hp T _ _ h1 h2⟩
  | succ c ih =>
    intro b T u7 eb h1 h2
    have hb : b < n := by omega
    obtain ⟨nb1, nb2⟩ := nbs_ok ho hb
    obtain ⟨a3, ⟨a5, _⟩, a6⟩ := hG.2.2.1 b hb
    have p2 : 2 ^ b < 2 ^ n := Nat.pow_lt_pow_right (by omega) hb
    have bt := nb_b0 (s := s) (b := b) (by omega) (by omega)
    have sb : I 6 b &&& (nI s ^^^ Int32.ofInt (-1)) = nI 0 ↔ sub (nbs W b) s = true := by
      rw [a6, nb1]; exact nb_sub (by omega) (by omega)
    have wsb : nI (weN W n) &&& (nI s ^^^ Int32.ofInt (-1)) = nI 0 ↔ sub (weN W n) s = true := nb_sub (by omega) (by omega)
    have eor : nI s ||| (nI 1 <<< (nI b &&& 31)) = nI (s ||| 2 ^ b) := by rw [sh_N b (by omega), nb_or (by omega) (by omega)]
    have lor : s ||| 2 ^ b < 2 ^ n := Nat.or_lt_two_pow hs p2
    have gor : s.testBit b = false → s < s ||| 2 ^ b := fun z => by
      have q1 : (s ||| 2 ^ b).testBit b = true := by rw [Nat.testBit_or, Nat.testBit_two_pow, decide_eq_true rfl, Bool.or_true]
      have q2 := x_lt q1
      rw [x_or z, x_x] at q2
      rw [x_or z]; exact q2
    have yes : s.testBit b = false → cAd h n W b s = true → ∀ u7 : Value, xq_wp d 136 (xq_s (g1, g2, g3, g4, g5, some o) (va_up J o (vp_updL T (s ||| 2 ^ b) (T (s ||| 2 ^ b) + T s))) I) 100 [.ref 53, .int (nI h), .int bal, .int (nI S), .int (nI (weN W n)), .int (nI s), .int (nI (b + 1)), u7] [] Q := fun z z2 u7 => by
      have gz := gor z
      refine ih (b + 1) _ u7 (by omega) (fun t ht => by rw [updL_ne (by omega)]; exact h1 t ht) (fun t t1 t2 => ?_)
      by_cases q : t = s ||| 2 ^ b
      · subst q; rw [updL_eq, h2 _ t1 t2, h1 s (Nat.le_refl _), wp_add hb z z2]
      · rw [updL_ne q, h2 t t1 t2, wp_oth q]
    have no : ¬ (s.testBit b = false ∧ cAd h n W b s = true) → ∀ u7 : Value, xq_wp d 136 (xq_s (g1, g2, g3, g4, g5, some o) (va_up J o T) I) 100 [.ref 53, .int (nI h), .int bal, .int (nI S), .int (nI (weN W n)), .int (nI s), .int (nI (b + 1)), u7] [] Q := fun z u7 => by
      refine ih (b + 1) _ u7 (by omega) h1 (fun t t1 t2 => ?_)
      rw [h2 t t1 t2, wp_no z]
    rcases hh' with q | q | q <;> subst q
    · have ea : cAd 0 n W b s = sub (nbs W b) s := rfl
      rw [ea] at yes no
      exact wc_136_100_0 (d := d) (n := n) (sb := s ||| 2 ^ b) hl ⟨e0, by omega, by omega, fun _ => ⟨fun z => ⟨by omega, fun z2 => ⟨eor, by omega, by omega, yes (bt.mp z) (sb.mp z2) _⟩, fun z2 => no (fun k => z2 (sb.mpr k.2)) _⟩, fun z => no (fun k => z (bt.mpr k.1)) _⟩, fun z => by omega⟩
    · have ea : cAd 1 n W b s = (sub (nbs W b) s && !(!(weN W n).testBit b && !sub (weN W n) s)) := rfl
      have ew : (weN W n).testBit b = decide (W (50 + 14 * b + 2) = nI 0) := by rw [weN_bit, decide_eq_true hb, Bool.true_and]
      have e01 := (ho.2.2.2.2.2.2.2.2.1 b hb).2.1
      have w1 : W (50 + 14 * b + 2) = nI 1 → (weN W n).testBit b = false := fun z => by rw [ew, z]; decide
      have w0 : ¬ W (50 + 14 * b + 2) = nI 1 → (weN W n).testBit b = true := fun z => by rw [ew, e01.resolve_right z]; decide
      rw [ea] at yes no
      refine wc_136_100_1 (d := d) (n := n) (sb := s ||| 2 ^ b) hl ⟨e0, by omega, by omega, fun _ => ⟨by omega, fun z => ?_, fun z => ?_⟩, fun z => by omega⟩
      · rw [a5] at z
        rw [w1 z] at yes no
        refine ⟨fun z2 => ?_, fun z2 => ?_⟩
        · have z2 := wsb.mp z2
          rw [z2] at yes no
          exact ⟨fun z3 => ⟨fun z4 => ⟨eor, by omega, by omega, yes (bt.mp z3) (by rw [sb.mp z4]; rfl) _⟩, fun z4 => no (fun k => z4 (sb.mpr (by have := k.2; cases y : sub (nbs W b) s; rw [y] at this; exact absurd this (by decide); rfl))) _⟩, fun z3 => no (fun k => z3 (bt.mpr k.1)) _⟩
        · have z2 : sub (weN W n) s = false := by
            cases y : sub (weN W n) s
            · rfl
            · exact absurd (wsb.mpr y) z2
          rw [z2] at no
          have nn : ¬ (s.testBit b = false ∧ (sub (nbs W b) s && !(!false && !false)) = true) := fun k => by
            have := k.2
            rw [show (!(!false && !false)) = false from rfl, Bool.and_false] at this
            exact absurd this (by decide)
          exact ⟨fun z3 => ⟨fun z4 => no nn _, fun z4 => no nn _⟩, fun z3 => no nn _⟩
      · rw [a5] at z
        rw [w0 z] at yes no
        exact ⟨fun z3 => ⟨fun z4 => ⟨eor, by omega, by omega, yes (bt.mp z3) (by rw [sb.mp z4]; rfl) _⟩, fun z4 => no (fun k => z4 (sb.mpr (by have := k.2; cases y : sub (nbs W b) s; rw [y] at this; rw [Bool.false_and] at this; exact absurd this (by decide); rfl))) _⟩, fun z3 => no (fun k => z3 (bt.mpr k.1)) _⟩
    · have ea : cAd 2 n W b s = sub (nbs W b) s := rfl
      rw [ea] at yes no
      exact wc_136_100_2 (d := d) (n := n) (sb := s ||| 2 ^ b) hl ⟨e0, by omega, by omega, fun _ => ⟨fun z => ⟨by omega, fun z2 => ⟨eor, by omega, by omega, yes (bt.mp z) (sb.mp z2) _⟩, fun z2 => no (fun k => z2 (sb.mpr k.2)) _⟩, fun z => no (fun k => z (bt.mpr k.1)) _⟩, fun z => by omega⟩
theorem lc_0 (v : Int64) : lg_cmp v (Int64.ofNat 0) = nI 0 ↔ v = 0 := by
  unfold lg_cmp
  have e : Int64.ofNat 0 = 0 := rfl
  rw [e]
  by_cases h : v > 0
  · rw [if_pos h]
    refine ⟨fun z => absurd z (by decide), fun z => ?_⟩
    subst z
    exact absurd h (by decide)
  · rw [if_neg h]
    by_cases h2 : v = 0
    · rw [if_pos h2]; exact ⟨fun _ => h2, fun _ => rfl⟩
    · rw [if_neg h2]; exact ⟨fun z => absurd z (by decide), fun z => absurd z h2⟩
theorem ti_bd (ho : ok n ns W) : ∀ k, k ≤ n → (ti W s k).toInt ≤ 20 * k ∧ -(20 * k : Int) ≤ (ti W s k).toInt := by
  have n14 := ho.1.2.1
  intro k
  induction k with
  | zero => intro _; rw [ti]; exact ⟨by decide, by decide⟩
  | succ k ih =>
    intro hk
    obtain ⟨a, b⟩ := ih (by omega)
    have w := ok_wei ho (show k < n by omega)
    rw [ti]
    split
    · have e := fb_addI (x := ti W s k) (y := sp_wei W k) (by omega) (by omega)
      rw [e]
      omega
    · omega
theorem bal_c (ho : ok n ns W) (hb : bal = W 20) : bal < xq_abs (ti W s n) ↔ balB n W s = false := by
  have n14 := ho.1.2.1
  obtain ⟨bl, hbl, ebl⟩ := ok_tl ho (i := 10) (by omega)
  have hbl : bl ≤ 999 := hbl
  have ebl : W 20 = nI bl := ebl
  obtain ⟨a, b⟩ := ti_bd (s := s) ho n (Nat.le_refl _)
  have k := abs_bal (t := ti W s n) hbl (by omega) (by omega)
  rw [hb, ebl, balB, ebl]
  have e : nI bl < xq_abs (ti W s n) ↔ decide (nI bl < xq_abs (ti W s n)) = true := decide_eq_true_iff.symm
  rw [e, k]
  cases (!decide (ti W s n < -nI bl) && !decide (nI bl < ti W s n)) <;> decide
theorem ti_0 : ∀ k, ti W 0 k = nI 0 := by
  intro k
  induction k with
  | zero => rfl
  | succ k ih => rw [ti, if_neg (by rw [Nat.zero_testBit]; decide), ih]
theorem bal_0 (ho : ok n ns W) : balB n W 0 = true := by
  obtain ⟨bl, hbl, ebl⟩ := ok_tl ho (i := 10) (by omega)
  have hbl : bl ≤ 999 := hbl
  have ebl : W 20 = nI bl := ebl
  have k := abs_bal (t := nI 0) hbl (by decide) (by decide)
  rw [balB, ti_0, ebl]
  have : decide (nI bl < xq_abs (nI 0)) = false := by
    rw [decide_eq_false_iff_not, show xq_abs (nI 0) = nI 0 from rfl, xn_lt (by omega) (by omega)]; omega
  rw [this] at k
  cases q : (!decide (nI 0 < -nI bl) && !decide (nI bl < nI 0))
  · rw [q] at k; exact absurd k (by decide)
  · rfl
/-- all sets -/
theorem yl_136_50 (hh : h ≤ 2) (hl : lok (g1, g2, g3, g4, g5, some o) o n0) (hn0 : 2 ^ n ≤ n0) (ho : ok n ns W) (hG : cG n ns I W) (e0 : I 2 0 = nI n) (hb : bal = W 20) (hp : ∀ T' : Nat → Int64, Q (some (.long (wV n (cBad h n W) (cAd h n W) (2 ^ n - 1)))) (xq_s (g1, g2, g3, g4, g5, some o) (va_up J o T') I)) : ∀ (c s : Nat) (T : Nat → Int64) (u6 u7 : Value), s + c = 2 ^ n → (∀ t, t < s → T t = wV n (cBad h n W) (cAd h n W) t) → (∀ t, s ≤ t → t < 2 ^ n → T t = wp n (cAd h n W) (wV n (cBad h n W) (cAd h n W)) s 0 t) → xq_wp (d + 2) 136 (xq_s (g1, g2, g3, g4, g5, some o) (va_up J o T) I) 50 [.ref 53, .int (nI h), .int bal, .int (nI (2 ^ n)), .int (nI (weN W n)), .int (nI s), u6, u7] [] Q := by
  have n14 := ho.1.2.1
  have p14 : 2 ^ n ≤ 2 ^ 14 := Nat.pow_le_pow_right (by omega) n14
  have p1 := Nat.two_pow_pos n
  have hh' : h = 0 ∨ h = 1 ∨ h = 2 := by omega
  have b0 : cBad h n W 0 = false := by rw [cBad, bal_0 ho]; simp
  intro c
  induction c with
  | zero =>
    intro s T u6 u7 es h1 h2
    have fin := hp T
    rw [← h1 (2 ^ n - 1) (by omega)] at fin
    rcases hh' with q | q | q <;> subst q
    · exact wc_136_50_0 (d := d + 2) hl ⟨by omega, by omega, fun z => by omega, fun _ => ⟨by omega, by omega, fin⟩⟩
    · exact wc_136_50_1 (d := d + 2) hl ⟨by omega, by omega, fun z => by omega, fun _ => ⟨by omega, by omega, fin⟩⟩
    · exact wc_136_50_2 (d := d + 1) hl ⟨by omega, by omega, fun z => by omega, fun _ => ⟨by omega, by omega, fin⟩⟩
  | succ c ih =>
    intro s T u6 u7 es h1 h2
    have hs : s < 2 ^ n := by omega
    have eT : T s = wb s + sm (wf (cAd h n W) (wV n (cBad h n W) (cAd h n W)) s) n := by rw [h2 s (Nat.le_refl _) hs, wp_all]
    have eV : wV n (cBad h n W) (cAd h n W) s = wb s + if cBad h n W s then 0 else sm (wf (cAd h n W) (wV n (cBad h n W) (cAd h n W)) s) n := by
      have := wV_eq (n := n) (bad := cBad h n W) (ad := cAd h n W) s
      rw [wv] at this
      exact this
    have bV : cBad h n W s = true → wV n (cBad h n W) (cAd h n W) s = 0 := fun z => by
      rw [eV, if_pos z, Int64.add_zero]
      exact wb_ne (fun q => by rw [q, b0] at z; exact absurd z (by decide))
    have gV : cBad h n W s = false → wV n (cBad h n W) (cAd h n W) s = T s := fun z => by
      rw [eV, eT, z]; rfl
    have skip : wV n (cBad h n W) (cAd h n W) s = 0 → ∀ u6 u7 : Value, xq_wp (d + 2) 136 (xq_s (g1, g2, g3, g4, g5, some o) (va_up J o (vp_updL T s (Int64.ofNat 0))) I) 50 [.ref 53, .int (nI h), .int bal, .int (nI (2 ^ n)), .int (nI (weN W n)), .int (nI (s + 1)), u6, u7] [] Q := fun z u6 u7 => by
      refine ih (s + 1) _ _ _ (by omega) (fun t ht => ?_) (fun t t1 t2 => ?_)
      · by_cases q : t = s
        · subst q; rw [updL_eq, z]; rfl
        · rw [updL_ne q]; exact h1 t (by omega)
      · rw [updL_ne (by omega), wp_skip z]; exact h2 t (by omega) t2
    have push : cBad h n W s = false → ∀ u7 : Value, xq_wp (d + 2) 136 (xq_s (g1, g2, g3, g4, g5, some o) (va_up J o T) I) 100 [.ref 53, .int (nI h), .int bal, .int (nI (2 ^ n)), .int (nI (weN W n)), .int (nI s), .int (nI 0), u7] [] Q := fun z u7 => by
      refine yl_136_100 (d := d + 2) hh hl hn0 ho hG e0 hs (V := wV n (cBad h n W) (cAd h n W)) (fun T' u6 u7 k1 k2 => ih (s + 1) T' u6 u7 (by omega) (fun t ht => k1 t (by omega)) (fun t t1 t2 => by rw [← wp_n]; exact k2 t (by omega) t2)) n 0 T u7 (by omega) (fun t ht => ?_) (fun t t1 t2 => h2 t (by omega) t2)
      by_cases q : t = s
      · subst q; exact (gV z).symm
      · exact h1 t (by omega)
    have zero : T s = 0 → wV n (cBad h n W) (cAd h n W) s = 0 := fun z => by
      cases q : cBad h n W s
      · rw [gV q]; exact z
      · exact bV q
    rcases hh' with q | q | q <;> subst q
    · exact wc_136_50_0 (d := d + 2) hl ⟨by omega, by omega, fun _ => ⟨by omega, fun z => skip (zero ((lc_0 _).mp z)) _ _, fun z => push rfl _⟩, fun z => by omega⟩
    · exact wc_136_50_1 (d := d + 2) hl ⟨by omega, by omega, fun _ => ⟨by omega, fun z => skip (zero ((lc_0 _).mp z)) _ _, fun z => push rfl _⟩, fun z => by omega⟩
    · refine wc_136_50_2 (d := d + 1) hl ⟨by omega, by omega, fun _ => ⟨by omega, fun z => skip (zero ((lc_0 _).mp z)) _ _, fun z => ?_⟩, fun z => by omega⟩
      refine xq_wp.go (k := 4) (fun F => rfl) (yl_138_4 (d := d) hl n14 (by omega) hG e0 ?_ n 0 (by omega))
      have bc := bal_c (s := s) ho hb
      refine wc_136_79 (d := d + 1) hl ⟨fun y => ⟨by omega, skip (bV ?_) _ _⟩, fun y => push ?_ _⟩
      · rw [cBad, bc.mp y]; rfl
      · rw [cBad]
        cases k : balB n W s
        · exact absurd (bc.mpr k) y
        · rfl
theorem yl_136_26 {u4 u5 u6 u7 : Value} (hh : h ≤ 2) (hl : lok (g1, g2, g3, g4, g5, some o) o n0) (hn0 : 2 ^ n ≤ n0) (ho : ok n ns W) (hG : cG n ns I W) (e0 : I 2 0 = nI n) (hb : bal = W 20) (hp : ∀ T' : Nat → Int64, Q (some (.long (wV n (cBad h n W) (cAd h n W) (2 ^ n - 1)))) (xq_s (g1, g2, g3, g4, g5, some o) (va_up J o T') I)) : xq_wp (d + 2) 136 (xq_s (g1, g2, g3, g4, g5, some o) (va_up J o T) I) 26 [.ref 53, .int (nI h), .int bal, .int (nI (2 ^ n)), u4, u5, u6, u7] [] Q := by
  have n14 := ho.1.2.1
  have p1 := Nat.two_pow_pos n
  refine wc_136_26 (d := d + 1) hl ⟨by omega, ?_⟩
  refine xq_wp.go (k := 4) (fun F => rfl) (yl_137_4 (d := d + 1) (W := W) hl n14 e0 (fun b hb => (hG.2.2.1 b hb).2.1.1) ?_ n 0 (by omega))
  refine wc_136_45 (d := d + 2) hl (yl_136_50 (d := d) hh hl hn0 ho hG e0 hb hp (2 ^ n) 0 _ _ _ (by omega) (fun t ht => by omega) (fun t t1 t2 => ?_))
  rw [wp_0, wb]
  by_cases q : t = 0
  · subst q; rw [updL_eq, if_pos rfl]; rfl
  · rw [updL_ne q, if_neg q, if_pos (by omega)]; rfl
end yk_wy
