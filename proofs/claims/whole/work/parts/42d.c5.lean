/-! what is laid: sets, weights -/
theorem fb_rng (x : Int32) : -2147483648 ≤ x.toInt ∧ x.toInt < 2147483648 := by
  have h1 := Int32.le_toInt x
  have h2 := Int32.toInt_lt x
  omega
theorem fb_bmod {z : Int} (h1 : -2147483648 ≤ z) (h2 : z < 2147483648) : z.bmod (2 ^ 32) = z := by
  apply Int.bmod_eq_of_le <;> omega
theorem fb_addI {x y : Int32} (h1 : -2147483648 ≤ x.toInt + y.toInt) (h2 : x.toInt + y.toInt < 2147483648) : (x + y).toInt = x.toInt + y.toInt := by
  rw [Int32.toInt_add, fb_bmod h1 h2]
theorem fb_subI {x y : Int32} (h1 : -2147483648 ≤ x.toInt - y.toInt) (h2 : x.toInt - y.toInt < 2147483648) : (x - y).toInt = x.toInt - y.toInt := by
  rw [Int32.toInt_sub, fb_bmod h1 h2]
theorem fb_negI {x : Int32} (h : x.toInt ≠ -2147483648) : (-x).toInt = -x.toInt := by
  have := fb_rng x
  rw [Int32.toInt_neg, fb_bmod (by omega) (by omega)]
theorem fb_ofI {z : Int} (h1 : -2147483648 ≤ z) (h2 : z < 2147483648) : (Int32.ofInt z).toInt = z := by
  rw [Int32.toInt_ofInt, fb_bmod h1 h2]
section yk_c5
variable {d : Nat} {g : xq_V} {J : Nat → Nat → Int64} {I : Nat → Nat → Int32} {Q : Option Value → xq_S → Prop} {q : Bool} {n ns : Nat} {R R' : Nat → xw} {W W' : xw}
theorem ok_wei {b : Nat} (h : ok n ns W) (hb : b < n) : -20 ≤ (sp_wei W b).toInt ∧ (sp_wei W b).toInt ≤ 20 := by
  obtain ⟨⟨k, h1, h2, e⟩, _⟩ := h.2.2.2.2.2.2.2.2.1 b hb
  unfold sp_wei
  rw [e]
  have t : (nI k).toInt = k := nI_toInt (by omega)
  split
  · rw [fb_negI (by omega), t]; omega
  · rw [t]; omega
theorem lean_bd (h : ok n ns W) : ∀ (c b : Nat) (v : Int32), b + c = n → v.toInt ≤ 20 * b → -(20 * b : Int) ≤ v.toInt → (sp_lean W c b v).toInt ≤ 20 * n ∧ -(20 * n : Int) ≤ (sp_lean W c b v).toInt := by
  have n14 := h.1.2.1
  intro c
  induction c with
  | zero => intro b v e h1 h2; simp only [sp_lean]; subst e; exact ⟨h1, h2⟩
  | succ c ih =>
    intro b v e h1 h2
    have w := ok_wei h (show b < n by omega)
    simp only [sp_lean]
    refine ih (b + 1) _ (by omega) ?_ ?_
    · split
      · rw [fb_addI (by omega) (by omega)]; omega
      · omega
    · split
      · rw [fb_addI (by omega) (by omega)]; omega
      · omega
theorem lean_bd0 (h : ok n ns W) : (sp_lean W n 0 (nI 0)).toInt ≤ 280 ∧ -280 ≤ (sp_lean W n 0 (nI 0)).toInt := by
  have n14 := h.1.2.1
  have := lean_bd h n 0 (nI 0) (by omega) (by decide) (by decide)
  omega
theorem lset_or (x : Int32) : ∀ (c b : Nat) (v : Int32), sp_lset W c b (v ||| x) = sp_lset W c b v ||| x
  | 0, _, _ => rfl
  | c + 1, b, v => by
    simp only [sp_lset]
    rw [← lset_or x c (b + 1), Int32.or_assoc, Int32.or_assoc, Int32.or_comm x]
theorem lset_put {b : Nat} (o4 : ¬ W (50 + 14 * b + 4) = nI 4) (hx : ∀ x, ¬ x = b → (W' (50 + 14 * x + 4) = nI 4 ↔ W (50 + 14 * x + 4) = nI 4)) (n4 : W' (50 + 14 * b + 4) = nI 4) : ∀ (c s : Nat) (v : Int32), s ≤ b → b < s + c → sp_lset W' c s v = sp_lset W c s v ||| (nI 1 <<< (nI b &&& 31))
  | 0, s, v, h1, h2 => by omega
  | c + 1, s, v, h1, h2 => by
    simp only [sp_lset]
    by_cases e : s = b
    · subst e
      rw [if_pos n4, if_neg o4, show v ||| nI 0 = v from Int32.or_zero, lset_or]
      rw [sp_lset_cg c (s + 1) v (fun x h3 h4 => hx x (by omega))]
    · simp only [hx s e]
      exact lset_put o4 hx n4 c (s + 1) _ (by omega) (by omega)
theorem lean_add (x : Int32) : ∀ (c b : Nat) (v : Int32), sp_lean W c b (v + x) = sp_lean W c b v + x
  | 0, _, _ => rfl
  | c + 1, b, v => by
    simp only [sp_lean]
    split
    · rw [← lean_add x c (b + 1), Int32.add_assoc, Int32.add_assoc, Int32.add_comm x]
    · exact lean_add x c (b + 1) v
theorem lean_put {b : Nat} (o4 : ¬ W (50 + 14 * b + 4) = nI 4) (hx : ∀ x, ¬ x = b → (W' (50 + 14 * x + 4) = nI 4 ↔ W (50 + 14 * x + 4) = nI 4)) (hw : ∀ x, sp_wei W' x = sp_wei W x) (n4 : W' (50 + 14 * b + 4) = nI 4) : ∀ (c s : Nat) (v : Int32), s ≤ b → b < s + c → sp_lean W' c s v = sp_lean W c s v + sp_wei W b
  | 0, s, v, h1, h2 => by omega
  | c + 1, s, v, h1, h2 => by
    simp only [sp_lean]
    by_cases e : s = b
    · subst e
      rw [if_pos n4, if_neg o4, lean_add, hw, sp_lean_cg c (s + 1) v (fun x h3 h4 => ⟨hx x (by omega), hw x⟩)]
    · simp only [hx s e, hw]
      exact lean_put o4 hx hw n4 c (s + 1) _ (by omega) (by omega)
/-- how many are laid, as a number -/
def lmN (W : xw) : Nat → Nat
  | 0 => 0
  | c + 1 => lmN W c + (if W (50 + 14 * c + 4) = nI 4 then 1 else 0)
def lsN (W : xw) : Nat → Nat
  | 0 => 0
  | c + 1 => lsN W c + (if W (50 + 14 * c + 4) = nI 4 then 2 ^ c else 0)
theorem lmN_le : ∀ c, lmN W c ≤ c
  | 0 => Nat.le_refl _
  | c + 1 => by
    have := lmN_le c
    unfold lmN
    split <;> omega
theorem lsN_lt : ∀ c, lsN W c < 2 ^ c
  | 0 => by simp [lsN]
  | c + 1 => by
    have := lsN_lt c
    unfold lsN
    rw [Nat.pow_succ]
    split <;> omega
theorem lmany_acc : ∀ (c b a : Nat), sp_lmany W c b (nI a) = nI (a + (lmN W (b + c) - lmN W b)) ∧ lmN W b ≤ lmN W (b + c)
  | 0, b, a => by simp [sp_lmany]
  | c + 1, b, a => by
    simp only [sp_lmany]
    have e1 : lmN W (b + 1) = lmN W b + (if W (50 + 14 * b + 4) = nI 4 then 1 else 0) := rfl
    have eb : b + (c + 1) = b + 1 + c := by omega
    have key := fun a => lmany_acc c (b + 1) a
    have k2 := (key 0).2
    rw [eb]
    split
    · rename_i z
      rw [if_pos z] at e1
      rw [nI_add, (key (a + 1)).1]
      refine ⟨?_, by omega⟩
      congr 1; omega
    · rename_i z
      rw [if_neg z] at e1
      rw [nI_add, show a + 0 = a from rfl, (key a).1]
      refine ⟨?_, by omega⟩
      congr 1; omega
theorem lmany_N : sp_lmany W n 0 (nI 0) = nI (lmN W n) := by
  rw [(lmany_acc n 0 0).1]; simp [lmN]
theorem sh_N : ∀ b, b < 15 → nI 1 <<< (nI b &&& 31) = nI (2 ^ b) := by decide +kernel
theorem or_N {s b : Nat} (hs : s < 2 ^ b) (hb : b < 15) : nI s ||| nI (2 ^ b) = nI (s + 2 ^ b) := by
  have e : s ||| 2 ^ b = s + 2 ^ b := by
    have := Nat.two_pow_add_eq_or_of_lt hs 1
    rw [Nat.mul_one] at this
    rw [Nat.or_comm, ← this, Nat.add_comm]
  rw [← e]
  apply Int32.toBitVec_inj.mp
  apply BitVec.eq_of_toNat_eq
  have h1 : 2 ^ b ≤ 2 ^ 14 := Nat.pow_le_pow_right (by omega) (by omega)
  have h2 : s ||| 2 ^ b < 2 ^ 32 := by rw [e]; omega
  rw [Int32.toBitVec_or, BitVec.toNat_or, pk_tn (by omega), pk_tn (by omega), pk_tn h2]
theorem lset_acc : ∀ (c b a : Nat), b + c ≤ 14 → a < 2 ^ b → sp_lset W c b (nI a) = nI (a + (lsN W (b + c) - lsN W b)) ∧ lsN W b ≤ lsN W (b + c)
  | 0, b, a, _, _ => by simp [sp_lset]
  | c + 1, b, a, h1, h2 => by
    simp only [sp_lset]
    have e1 : lsN W (b + 1) = lsN W b + (if W (50 + 14 * b + 4) = nI 4 then 2 ^ b else 0) := rfl
    have eb : b + (c + 1) = b + 1 + c := by omega
    have p2 : 2 ^ (b + 1) = 2 ^ b * 2 := Nat.pow_succ ..
    have k2 := (lset_acc c (b + 1) 0 (by omega) (Nat.two_pow_pos _)).2
    rw [eb]
    split
    · rename_i z
      rw [if_pos z] at e1
      rw [sh_N b (by omega), or_N h2 (by omega), (lset_acc c (b + 1) (a + 2 ^ b) (by omega) (by omega)).1]
      refine ⟨?_, by omega⟩
      congr 1; omega
    · rename_i z
      rw [if_neg z] at e1
      rw [show nI a ||| nI 0 = nI a from Int32.or_zero, (lset_acc c (b + 1) a (by omega) (by omega)).1]
      refine ⟨?_, by omega⟩
      congr 1; omega
theorem lset_N (hn : n ≤ 14) : sp_lset W n 0 (nI 0) = nI (lsN W n) := by
  rw [(lset_acc n 0 0 (by omega) (by decide)).1]; simp [lsN]
theorem lsN_lmN0 : ∀ c, lsN W c = 0 ↔ lmN W c = 0
  | 0 => Iff.rfl
  | c + 1 => by
    have := lsN_lmN0 c
    have := Nat.two_pow_pos c
    unfold lsN lmN
    split <;> omega
theorem lsN_lmN1 : ∀ c, lsN W c = 2 ^ c - 1 ↔ lmN W c = c
  | 0 => by simp [lsN, lmN]
  | c + 1 => by
    have h1 := lsN_lmN1 c
    have h2 := lsN_lt (W := W) c
    have h3 := lmN_le (W := W) c
    have h4 := Nat.two_pow_pos c
    unfold lsN lmN
    rw [Nat.pow_succ]
    split
    · omega
    · omega
theorem pow14 (hn : n ≤ 14) : 2 ^ n ≤ 16384 := Nat.pow_le_pow_right (n := 2) (by omega) hn
theorem lset_0 (hn : n ≤ 14) : sp_lset W n 0 (nI 0) = nI 0 ↔ sp_lmany W n 0 (nI 0) = nI 0 := by
  have := pow14 hn
  have := lsN_lt (W := W) n
  have := lmN_le (W := W) n
  rw [lset_N hn, lmany_N, xn_eq (by omega) (by omega), xn_eq (by omega) (by omega)]
  exact lsN_lmN0 n
theorem lset_1 (hn : n ≤ 14) : sp_lset W n 0 (nI 0) = nI 1 <<< (nI n &&& 31) - nI 1 ↔ sp_lmany W n 0 (nI 0) = nI n := by
  have := pow14 hn
  have := lsN_lt (W := W) n
  have := lmN_le (W := W) n
  have := Nat.two_pow_pos n
  rw [lset_N hn, lmany_N, sh_N n (by omega), pk_sub (by omega), xn_eq (by omega) (by omega), xn_eq (by omega) (by omega)]
  exact lsN_lmN1 n
theorem lmN_put {b : Nat} (o4 : ¬ W (50 + 14 * b + 4) = nI 4) (hx : ∀ x, ¬ x = b → (W' (50 + 14 * x + 4) = nI 4 ↔ W (50 + 14 * x + 4) = nI 4)) (n4 : W' (50 + 14 * b + 4) = nI 4) : ∀ c, lmN W' c = lmN W c + (if b < c then 1 else 0)
  | 0 => rfl
  | c + 1 => by
    have := lmN_put o4 hx n4 c
    unfold lmN
    rw [this]
    by_cases e : c = b
    · subst e
      rw [if_pos n4, if_neg o4, if_neg (by omega), if_pos (by omega)]
    · simp only [hx c e]
      by_cases z : b < c
      · rw [if_pos z, if_pos (show b < c + 1 by omega)]; omega
      · rw [if_neg z, if_neg (show ¬ b < c + 1 by omega)]; omega
/-! the class's own words -/
def cwei (I : Nat → xw) (b : Nat) : Int32 := if I 5 b = nI 1 then -(I 3 b) else I 3 b
def cCan (I R : Nat → xw) (b : Nat) : Bool := decide (R 4 b = nI 3) && decide (I 6 b &&& (R 0 13 ^^^ Int32.ofInt (-1)) = nI 0) && !decide (R 1 10 < xq_abs (R 0 14 + cwei I b))
def cDr (R : Nat → xw) : Int32 := nI 1664525 * R 0 8 + nI 1013904223
def cDv (R : Nat → xw) : Int32 := xq_rem (xq_ush (cDr R) (nI 8)) (nI 1000)
theorem yl_90 {b : Nat} (hb : b < 14) (hp : Q (some (.int (sp_b2 (cCan I R b)))) (xq_s g J (xc q I R))) : xq_wp (d + 1) 90 (xq_s g J (xc q I R)) 0 [.ref (xid q 9), .int (nI b)] [] Q := by
  unfold cCan cwei at hp
  refine yu_90 ⟨hb, fun z1 => ⟨fun z2 => ⟨fun z3 => ⟨fun z4 => ?_, fun z4 => ?_⟩, fun z3 => ⟨fun z4 => ?_, fun z4 => ?_⟩⟩, fun z2 => ?_⟩, fun z1 => ?_⟩
  · simpa only [z1, z2, if_pos z3, z4, decide_true, Bool.true_and, Bool.not_true, sp_b2, if_true, Bool.false_eq_true, if_false] using hp
  · simpa only [z1, z2, if_pos z3, z4, decide_true, decide_false, Bool.true_and, Bool.not_false, sp_b2, if_true, Bool.false_eq_true, if_false] using hp
  · simpa only [z1, z2, if_neg z3, z4, decide_true, Bool.true_and, Bool.not_true, sp_b2, if_true, Bool.false_eq_true, if_false] using hp
  · simpa only [z1, z2, if_neg z3, z4, decide_true, decide_false, Bool.true_and, Bool.not_false, sp_b2, if_true, Bool.false_eq_true, if_false] using hp
  · simpa only [z1, z2, decide_true, decide_false, Bool.true_and, Bool.false_and, sp_b2, if_true, Bool.false_eq_true, if_false] using hp
  · simpa only [z1, decide_false, Bool.false_and, sp_b2, if_true, Bool.false_eq_true, if_false] using hp
theorem yl_74 (hp : ∀ (dv ds : Int32), dv = cDr R → ds = cDv R → Q (some (.int ds)) (xq_s g J (xc q I (xq_w R 0 8 dv)))) : xq_wp d 74 (xq_s g J (xc q I R)) 0 [.ref (xid q 0), .int (nI 1000)] [] Q := yu_74 (hp _ _ rfl rfl)
theorem abs_bal {t : Int32} {k : Nat} (hk : k ≤ 999) (h1 : t.toInt ≤ 1000) (h2 : -1000 ≤ t.toInt) : decide (nI k < xq_abs t) = !(!decide (t < -(nI k)) && !decide (nI k < t)) := by
  have tk : (nI k).toInt = k := nI_toInt (by omega)
  have tn : (-(nI k)).toInt = -(k : Int) := by rw [fb_negI (by omega), tk]
  have a : nI k < xq_abs t ↔ (t < -(nI k) ∨ nI k < t) := by
    unfold xq_abs
    have z0 : (nI 0).toInt = 0 := by decide
    split
    · rename_i z
      rw [Int32.le_iff_toInt_le, z0] at z
      rw [Int32.lt_iff_toInt_lt, Int32.lt_iff_toInt_lt, tk, tn]; omega
    · rename_i z
      rw [Int32.le_iff_toInt_le, z0] at z
      rw [Int32.lt_iff_toInt_lt, Int32.lt_iff_toInt_lt, Int32.lt_iff_toInt_lt, tk, tn, fb_negI (by omega)]; omega
  by_cases z1 : t < -(nI k) <;> by_cases z2 : nI k < t <;> simp [a, z1, z2]
theorem CR_wei {b : Nat} (h : CR q n ns I R W) (hb : b < n) : cwei I b = sp_wei W b := by
  obtain ⟨h1, ⟨h2, _⟩, _⟩ := (CR_G h).2.2.1 b hb
  unfold cwei sp_wei
  rw [h1, h2]
theorem CR_can {b : Nat} (ho : ok n ns W) (h : CR q n ns I R W) (hb : b < n) : cCan I R b = sp_canB n W b := by
  obtain ⟨k, hk, ek⟩ := ok_tl ho (show 10 < 12 by omega)
  have ek : W 20 = nI k := ek
  have hk : k ≤ 999 := hk
  have w := ok_wei ho hb
  have l := lean_bd0 ho
  have e1 : R 1 10 = nI k := (CR_1 h 10 (by omega)).trans ek
  unfold cCan sp_canB
  rw [CR_4 h b hb, ((CR_G h).2.2.1 b hb).2.2, (CR_L h).1, (CR_L h).2, CR_wei h hb, e1, ek, abs_bal hk (by rw [fb_addI (by omega) (by omega)]; omega) (by rw [fb_addI (by omega) (by omega)]; omega)]
  simp only [Bool.not_not, Bool.and_assoc]
theorem CR_dr (h : CR q n ns I R W) : cDr R = sp_dr W ∧ cDv R = sp_drv W := by
  unfold cDv sp_drv cDr sp_dr
  rw [(CR_0 h).2.2.2.2]
  exact ⟨rfl, rfl⟩
end yk_c5
