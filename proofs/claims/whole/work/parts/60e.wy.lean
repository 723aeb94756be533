/-! ways: the model -/
theorem nb_sub {a b : Nat} (ha : a < 2 ^ 31) (hb : b < 2 ^ 31) : nI a &&& (nI b ^^^ Int32.ofInt (-1)) = nI 0 ↔ sub a b = true := by
  have h : a &&& (b ^^^ 4294967295) ≤ a := Nat.and_le_left
  rw [nb_andn ha hb, xn_eq (by omega) (by omega), sub_iff]
  refine ⟨fun e x hx => ?_, fun e => Nat.eq_of_testBit_eq (fun x => ?_)⟩
  · have := nb_an_bit (b := b) ha (x := x)
    rw [e, Nat.zero_testBit, hx] at this
    cases q : b.testBit x
    · rw [q] at this; exact absurd this (by decide)
    · rfl
  · rw [nb_an_bit ha, Nat.zero_testBit]
    cases q : a.testBit x
    · rfl
    · rw [e x q]; rfl
def nbs (W : xw) (b : Nat) : Nat := sp_ix W (50 + 14 * b + 3)
/-- how far apart the halves are, when a set is laid -/
def ti (W : xw) (s : Nat) : Nat → Int32
  | 0 => nI 0
  | k + 1 => if s.testBit k then ti W s k + sp_wei W k else ti W s k
def balB (n : Nat) (W : xw) (s : Nat) : Bool := !decide (ti W s n < -(W 20)) && !decide (W 20 < ti W s n)
/-- the west -/
def weN (W : xw) : Nat → Nat
  | 0 => 0
  | c + 1 => weN W c + (if W (50 + 14 * c + 2) = nI 0 then 2 ^ c else 0)
section xk_wm
variable {d : Nat} {g : xq_V} {J : Nat → Nat → Int64} {I : Nat → xw} {Q : Option Value → xq_S → Prop} {n ns so la s e : Nat} {W : xw} {T : Nat → Int64}
theorem nbs_ok (ho : ok n ns W) {b : Nat} (hb : b < n) : W (50 + 14 * b + 3) = nI (nbs W b) ∧ nbs W b < 2 ^ 14 := by
  have n14 := ho.1.2.1
  obtain ⟨-, -, ⟨m, hm, em⟩, -⟩ := ho.2.2.2.2.2.2.2.2.1 b hb
  have : 2 ^ b ≤ 2 ^ 14 := Nat.pow_le_pow_right (by omega) (by omega)
  have e : nbs W b = m := by rw [nbs, sp_ix, em, nI_clamp (by omega)]
  rw [e]
  exact ⟨em, by omega⟩
theorem weN_lt : ∀ c, weN W c < 2 ^ c := by
  intro c
  induction c with
  | zero => exact Nat.zero_lt_one
  | succ c ih =>
    rw [weN, Nat.pow_succ]
    split <;> omega
theorem weN_bit : ∀ (c x : Nat), (weN W c).testBit x = (decide (x < c) && decide (W (50 + 14 * x + 2) = nI 0)) := by
  intro c
  induction c with
  | zero => intro x; rw [weN, Nat.zero_testBit]; simp
  | succ c ih =>
    intro x
    rw [weN]
    have hl := weN_lt (W := W) c
    by_cases h : W (50 + 14 * c + 2) = nI 0
    · have e : weN W c + 2 ^ c = 2 ^ c ||| weN W c := by
        have := Nat.two_pow_add_eq_or_of_lt hl 1
        rw [Nat.mul_one] at this
        rw [← this, Nat.add_comm]
      rw [if_pos h, e, Nat.testBit_or, Nat.testBit_two_pow, ih]
      by_cases q : c = x
      · subst q; rw [decide_eq_true h]; simp
      · rw [decide_eq_false q, Bool.false_or]
        congr 1
        exact decide_eq_decide.mpr (by omega)
    · rw [if_neg h, Nat.add_zero, ih]
      by_cases q : c = x
      · subst q; rw [decide_eq_false h]; simp
      · congr 1
        exact decide_eq_decide.mpr (by omega)
theorem xl_267_4 (ho : ok n ns (I 127)) (hs : s < 2 ^ 14) (hp : Q (some (.int (sp_b2 (balB n (I 127) s)))) (xq_s g (va_up J 141 T) I)) : ∀ (c b : Nat), b + c = n → xq_wp (d + 1) 267 (xq_s g (va_up J 141 T) I) 4 [.ref 126, .int (nI s), .int (ti (I 127) s b), .int (nI b)] [] Q := by
  have n14 := ho.1.2.1
  intro c
  induction c with
  | zero =>
    intro b eb
    have : b = n := by omega
    subst this
    refine wm_267_4 (d := d) (n := b) ⟨ho.1.1, by omega, by omega, fun z => by omega, fun _ => ⟨fun z => ?_, fun z => ⟨fun z2 => ?_, fun z2 => ?_⟩⟩⟩
    · rw [balB, decide_eq_true z] at hp; exact hp
    · rw [balB, decide_eq_true z2, decide_eq_false z] at hp; exact hp
    · rw [balB, decide_eq_false z2, decide_eq_false z] at hp; exact hp
  | succ c ih =>
    intro b eb
    have k := ih (b + 1) (by omega)
    rw [ti] at k
    refine wm_267_4 (d := d) (n := n) ⟨ho.1.1, by omega, by omega, fun _ => ⟨fun z => ⟨by omega, fun z2 => ⟨by omega, ?_⟩, fun z2 => ⟨by omega, ?_⟩⟩, fun z => ?_⟩, fun z => by omega⟩
    · rw [nb_b1 (by omega) (by omega)] at z
      rw [if_pos z, sp_wei, if_pos z2] at k
      exact k
    · rw [nb_b1 (by omega) (by omega)] at z
      rw [if_pos z, sp_wei, if_neg z2] at k
      exact k
    · rw [nb_b1 (by omega) (by omega)] at z
      rw [if_neg z] at k
      exact k
/-- what a set comes to in the model -/
def mBad (n so e : Nat) (W : xw) (t : Nat) : Bool := !sub t so || (decide (e = 1) && !balB n W t)
def mAd (la : Nat) (W : xw) (b s : Nat) : Bool := sub (nbs W b) (s ||| la)
theorem xl_266_61 (he : e = 0 ∨ e = 1) (ho : ok n ns (I 127)) (hla : la < 2 ^ n) (hs : s < 2 ^ n) {V : Nat → Int64} (hp : ∀ (T' : Nat → Int64) (u5 : Value), (∀ t, t < s → T' t = V t) → T' s = wb s + sm (wf (mAd la (I 127)) V s) n → xq_wp (d + 1) 266 (xq_s g (va_up J 141 T') I) 3 [.ref 126, .int (nI so), .int (nI la), .int (nI e), .int (nI (s + 1)), u5] [] Q) : ∀ (c b : Nat) (T : Nat → Int64), b + c = n → (∀ t, t < s → T t = V t) → T s = wb s + sm (wf (mAd la (I 127)) V s) b → xq_wp (d + 1) 266 (xq_s g (va_up J 141 T) I) 61 [.ref 126, .int (nI so), .int (nI la), .int (nI e), .int (nI s), .int (nI b)] [] Q := by
  have n14 := ho.1.2.1
  have p14 : 2 ^ n ≤ 2 ^ 14 := Nat.pow_le_pow_right (by omega) n14
  intro c
  induction c with
  | zero =>
    intro b T eb h1 h2
    have : b = n := by omega
    subst this
    rcases he with he | he <;> subst he
    · exact wm_266_61_0 (d := d) (n := b) (sb := 0) ⟨ho.1.1, by omega, by omega, fun z => by omega, fun _ => hp T _ h1 h2⟩
    · exact wm_266_61_1 (d := d) (n := b) (sb := 0) ⟨ho.1.1, by omega, by omega, fun z => by omega, fun _ => hp T _ h1 h2⟩
  | succ c ih =>
    intro b T eb h1 h2
    obtain ⟨nb1, nb2⟩ := nbs_ok ho (show b < n by omega)
    have cl : s.testBit b = true → nI s &&& ((nI 1 <<< (nI b &&& 31)) ^^^ Int32.ofInt (-1)) = nI (s ^^^ 2 ^ b) := fun z => nb_clr (by omega) (by omega) z
    have xl : s.testBit b = true → s ^^^ 2 ^ b < s := x_lt
    have sub_ : s.testBit b = true → ((I 127 (50 + 14 * b + 3)) &&& ((((nI s) &&& (((nI 1) <<< ((nI b) &&& 31)) ^^^ (Int32.ofInt (-1)))) ||| (nI la)) ^^^ (Int32.ofInt (-1))) = nI 0 ↔ mAd la (I 127) b (s ^^^ 2 ^ b) = true) := fun z => by
      have := xl z
      have h3 : (s ^^^ 2 ^ b) ||| la < 2 ^ 14 := Nat.or_lt_two_pow (by omega) (by omega)
      rw [cl z, nb_or (by omega) (by omega), nb1, nb_sub (by omega) (by omega)]
      rfl
    have yes : s.testBit b = true → mAd la (I 127) b (s ^^^ 2 ^ b) = true → xq_wp (d + 1) 266 (xq_s g (va_up J 141 (vp_updL T s (T s + T (s ^^^ 2 ^ b)))) I) 61 [.ref 126, .int (nI so), .int (nI la), .int (nI e), .int (nI s), .int (nI (b + 1))] [] Q := fun z z2 => by
      have := xl z
      refine ih (b + 1) _ (by omega) (fun t ht => by rw [updL_ne (by omega)]; exact h1 t ht) ?_
      rw [updL_eq, h2, h1 _ this, sm, wf, if_pos ⟨z, z2⟩, Int64.add_assoc]
    have no : ¬ (s.testBit b = true ∧ mAd la (I 127) b (s ^^^ 2 ^ b) = true) → xq_wp (d + 1) 266 (xq_s g (va_up J 141 T) I) 61 [.ref 126, .int (nI so), .int (nI la), .int (nI e), .int (nI s), .int (nI (b + 1))] [] Q := fun z => by
      refine ih (b + 1) _ (by omega) h1 ?_
      rw [h2, sm, wf, if_neg z, Int64.add_zero]
    have bt := nb_b1 (s := s) (b := b) (by omega) (by omega)
    rcases he with he | he <;> subst he
    · refine wm_266_61_0 (d := d) (n := n) (sb := s ^^^ 2 ^ b) ⟨ho.1.1, by omega, by omega, fun _ => ⟨fun z => ?_, fun z => no (fun q => z (bt.mpr q.1))⟩, fun z => by omega⟩
      have z := bt.mp z
      exact ⟨by omega, fun z2 => ⟨by omega, cl z, by have := xl z; omega, yes z ((sub_ z).mp z2)⟩, fun z2 => no (fun q => z2 ((sub_ z).mpr q.2))⟩
    · refine wm_266_61_1 (d := d) (n := n) (sb := s ^^^ 2 ^ b) ⟨ho.1.1, by omega, by omega, fun _ => ⟨fun z => ?_, fun z => no (fun q => z (bt.mpr q.1))⟩, fun z => by omega⟩
      have z := bt.mp z
      exact ⟨by omega, fun z2 => ⟨by omega, cl z, by have := xl z; omega, yes z ((sub_ z).mp z2)⟩, fun z2 => no (fun q => z2 ((sub_ z).mpr q.2))⟩
theorem wb_eq : (s = 0 → Int64.ofNat 1 = wb s) ∧ (¬ s = 0 → Int64.ofNat 0 = wb s) := ⟨fun h => by rw [wb, if_pos h]; rfl, fun h => by rw [wb, if_neg h]; rfl⟩
theorem xl_266 (he : e = 0 ∨ e = 1) (ho : ok n ns (I 127)) (hso : so < 2 ^ n) (hla : la < 2 ^ n) (hp : ∀ T' : Nat → Int64, Q (some (.long (wV n (mBad n so e (I 127)) (mAd la (I 127)) so))) (xq_s g (va_up J 141 T') I)) : xq_wp (d + 2) 266 (xq_s g (va_up J 141 T) I) 0 [.ref 126, .int (nI so), .int (nI la), .int (nI e), xq_un, xq_un] [] Q := by
  have n14 := ho.1.2.1
  have p14 : 2 ^ n ≤ 2 ^ 14 := Nat.pow_le_pow_right (by omega) n14
  have eS : nI 1 <<< (I 127 0 &&& 31) = nI (2 ^ n) := by rw [ho.1.1]; exact sh_N n (by omega)
  have lp : ∀ (c s : Nat) (T : Nat → Int64) (u5 : Value), s + c = 2 ^ n → (∀ t, t < s → T t = wV n (mBad n so e (I 127)) (mAd la (I 127)) t) → xq_wp (d + 2) 266 (xq_s g (va_up J 141 T) I) 3 [.ref 126, .int (nI so), .int (nI la), .int (nI e), .int (nI s), u5] [] Q := by
    intro c
    induction c with
    | zero =>
      intro s T u5 es h1
      have fin := hp T
      rw [← h1 so (by omega)] at fin
      rcases he with he | he <;> subst he
      · exact wm_266_3_0 (d := d + 2) (S := 2 ^ n) ⟨eS, by omega, by omega, fun z => by omega, fun _ => ⟨by omega, fin⟩⟩
      · exact wm_266_3_1 (d := d + 1) (S := 2 ^ n) ⟨eS, by omega, by omega, fun z => by omega, fun _ => ⟨by omega, fin⟩⟩
    | succ c ih =>
      intro s T u5 es h1
      have hs : s < 2 ^ n := by omega
      have sb : nI s &&& (nI so ^^^ Int32.ofInt (-1)) = nI 0 ↔ sub s so = true := nb_sub (by omega) (by omega)
      have bad : mBad n so e (I 127) s = true → ∀ u5 : Value, xq_wp (d + 2) 266 (xq_s g (va_up J 141 (vp_updL T s (wb s))) I) 3 [.ref 126, .int (nI so), .int (nI la), .int (nI e), .int (nI (s + 1)), u5] [] Q := fun z u5 => by
        refine ih (s + 1) _ _ (by omega) (fun t ht => ?_)
        by_cases q : t = s
        · subst q; rw [updL_eq, wV_eq, wv, if_pos z, Int64.add_zero]
        · rw [updL_ne q]; exact h1 t (by omega)
      have good : mBad n so e (I 127) s = false → xq_wp (d + 2) 266 (xq_s g (va_up J 141 (vp_updL T s (wb s))) I) 61 [.ref 126, .int (nI so), .int (nI la), .int (nI e), .int (nI s), .int (nI 0)] [] Q := fun z => by
        refine xl_266_61 (d := d + 1) he ho hla hs (V := wV n (mBad n so e (I 127)) (mAd la (I 127))) (fun T' u5 g1 g2 => ih (s + 1) T' u5 (by omega) (fun t ht => ?_)) n 0 _ (by omega) (fun t ht => by rw [updL_ne (by omega)]; exact h1 t ht) (by rw [updL_eq, sm, Int64.add_zero])
        by_cases q : t = s
        · subst q; rw [g2, wV_eq (t := t), wv, z]; rfl
        · exact g1 t (by omega)
      obtain ⟨w1, w0⟩ := wb_eq (s := s)
      rcases he with he | he <;> subst he
      · have g0 : sub s so = true → mBad n so 0 (I 127) s = false := fun q => by rw [mBad, q]; rfl
        have b0 : ¬ sub s so = true → mBad n so 0 (I 127) s = true := fun q => by
          rw [mBad]
          cases k : sub s so
          · rfl
          · exact absurd k q
        refine wm_266_3_0 (d := d + 2) (S := 2 ^ n) ⟨eS, by omega, by omega, fun _ => ⟨fun z => ⟨by omega, ?_⟩, fun z => ⟨by omega, ?_⟩⟩, fun z => by omega⟩
        · rw [w1 z]
          exact ⟨fun q => good (g0 (sb.mp q)), fun q => bad (b0 (fun k => q (sb.mpr k))) _⟩
        · rw [w0 z]
          exact ⟨fun q => good (g0 (sb.mp q)), fun q => bad (b0 (fun k => q (sb.mpr k))) _⟩
      · have b0 : ¬ sub s so = true → mBad n so 1 (I 127) s = true := fun q => by
          rw [mBad]
          cases k : sub s so
          · rfl
          · exact absurd k q
        have mid : sub s so = true → ∀ u5 : Value, xq_wp (d + 1) 267 (xq_s g (va_up J 141 (vp_updL T s (wb s))) I) 0 [.ref 126, .int (nI s), xq_un, xq_un] [] (fun v x1 => xq_wp (d + 1 + 1) 266 x1 52 [.ref 126, .int (nI so), .int (nI la), .int (nI 1), .int (nI s), u5] (v.toList ++ []) Q) := fun q u5 => by
          refine xq_wp.go (k := 4) (fun F => rfl) (xl_267_4 (d := d) ho (by omega) ?_ n 0 (by omega))
          refine wm_266_52 (d := d + 2) ⟨fun z => wm_266_137 (d := d + 2) (bad ?_ _), fun z => good ?_⟩
          · rw [mBad, q]
            cases k : balB n (I 127) s
            · rfl
            · rw [k] at z; exact absurd z (by decide)
          · rw [mBad, q]
            cases k : balB n (I 127) s
            · rw [k] at z; exact absurd rfl z
            · rfl
        refine wm_266_3_1 (d := d + 1) (S := 2 ^ n) ⟨eS, by omega, by omega, fun _ => ⟨fun z => ⟨by omega, ?_⟩, fun z => ⟨by omega, ?_⟩⟩, fun z => by omega⟩
        · rw [w1 z]
          exact ⟨fun q => mid (sb.mp q) _, fun q => bad (b0 (fun k => q (sb.mpr k))) _⟩
        · rw [w0 z]
          exact ⟨fun q => mid (sb.mp q) _, fun q => bad (b0 (fun k => q (sb.mpr k))) _⟩
  exact xq_wp.go (k := 2) (fun F => rfl) (lp (2 ^ n) 0 T _ (by omega) (fun t ht => by omega))
/-- the answer -/
def wyV (n : Nat) (W : xw) (z : Nat) : Int64 := if z = 1 then wV n (mBad n (weN W n) 0 W) (mAd 0 W) (weN W n) * wV n (mBad n ((2 ^ n - 1) ^^^ weN W n) 0 W) (mAd (weN W n) W) ((2 ^ n - 1) ^^^ weN W n) else wV n (mBad n (2 ^ n - 1) (if z = 2 then 1 else 0) W) (mAd 0 W) (2 ^ n - 1)
theorem xl_265_29 {z al : Int32} (ho : ok n ns (I 127)) (hp : ∀ u4 : Value, xq_wp (d + 1) 265 (xq_s g (va_up J 141 T) I) 67 [.ref 126, .int z, .int al, .int (nI (weN (I 127) n)), u4] [] Q) : ∀ (c b : Nat), b + c = n → xq_wp (d + 1) 265 (xq_s g (va_up J 141 T) I) 29 [.ref 126, .int z, .int al, .int (nI (weN (I 127) b)), .int (nI b)] [] Q := by
  have n14 := ho.1.2.1
  intro c
  induction c with
  | zero =>
    intro b eb
    have : b = n := by omega
    subst this
    exact wm_265_29 (d := d) (n := b) ⟨ho.1.1, by omega, by omega, fun z => by omega, fun _ => hp _⟩
  | succ c ih =>
    intro b eb
    have k := ih (b + 1) (by omega)
    rw [weN] at k
    refine wm_265_29 (d := d) (n := n) ⟨ho.1.1, by omega, by omega, fun _ => ⟨by omega, fun z => ?_, fun z => ?_⟩, fun z => by omega⟩
    · rw [if_pos z, ← or_N (weN_lt b) (by omega), ← sh_N b (by omega)] at k
      exact k
    · rw [if_neg z] at k
      rw [or_0]
      exact k
theorem xl_265 {z : Nat} (hz : z ≤ 2) (ho : ok n ns (I 127)) (hp : ∀ T' : Nat → Int64, Q (some (.long (wyV n (I 127) z))) (xq_s g (va_up J 141 T') I)) : xq_wp (d + 3) 265 (xq_s g (va_up J 141 T) I) 0 [.ref 126, .int (nI z), xq_un, xq_un, xq_un] [] Q := by
  have n14 := ho.1.2.1
  have p14 : 2 ^ n ≤ 2 ^ 14 := Nat.pow_le_pow_right (by omega) n14
  have p1 := Nat.two_pow_pos n
  have hw := weN_lt (W := I 127) n
  have hx : (2 ^ n - 1) ^^^ weN (I 127) n < 2 ^ n := Nat.xor_lt_two_pow (by omega) hw
  unfold wyV at hp
  refine wm_265 (d := d + 2) (n := 0) ⟨fun q => ?_, fun _ => ⟨fun q => ?_, fun _ => wm_265_13 (d := d + 3) ?_⟩⟩
  · rw [xn_lt (by omega) (by omega)] at q; omega
  · rw [xn_lt (by omega) (by omega)] at q; omega
  have eal : (nI 1 <<< (I 127 0 &&& 31)) - nI 1 = nI (2 ^ n - 1) := by rw [ho.1.1]; exact nb_all n n14
  rw [eal]
  refine xl_265_29 (d := d + 2) ho (fun u4 => ?_) n 0 (by omega)
  have : z = 0 ∨ z = 1 ∨ z = 2 := by omega
  rcases this with e | e | e <;> subst e
  · rw [if_neg (by omega), if_neg (by omega)] at hp
    exact wm_265_67_0 (d := d + 2) (xl_266 (d := d) (Or.inl rfl) ho (by omega) (by omega) (fun T' => wm_265_110_0 (d := d + 3) (hp T')))
  · rw [if_pos rfl] at hp
    refine wm_265_67_1 (d := d + 2) (xl_266 (d := d) (Or.inl rfl) ho hw (by omega) (fun T' => wm_265_79 (d := d + 2) (ea := (2 ^ n - 1) ^^^ weN (I 127) n) ⟨?_, xl_266 (d := d) (Or.inl rfl) ho hx hw (fun T2 => wm_265_90 (d := d + 3) (hp T2))⟩))
    rw [← nb_all n n14]
    exact nb_rest n14 hw
  · rw [if_neg (by omega), if_pos rfl] at hp
    exact wm_265_67_2 (d := d + 2) (xl_266 (d := d) (Or.inr rfl) ho (by omega) (by omega) (fun T' => wm_265_110_2 (d := d + 3) (hp T')))
end xk_wm
