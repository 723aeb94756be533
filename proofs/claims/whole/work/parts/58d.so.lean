/-! small sets as numbers; lists of blocks -/
theorem nb_m1 : Int32.ofInt (-1) = nI 4294967295 := by decide
section xk_nb
variable {a b s n : Nat}
theorem nb_and (ha : a < 2 ^ 32) (hb : b < 2 ^ 32) : nI a &&& nI b = nI (a &&& b) := by
  apply Int32.toBitVec_inj.mp
  apply BitVec.eq_of_toNat_eq
  rw [Int32.toBitVec_and, BitVec.toNat_and, pk_tn (by omega), pk_tn (by omega), pk_tn (Nat.and_lt_two_pow _ hb)]
theorem nb_or (ha : a < 2 ^ 32) (hb : b < 2 ^ 32) : nI a ||| nI b = nI (a ||| b) := by
  apply Int32.toBitVec_inj.mp
  apply BitVec.eq_of_toNat_eq
  rw [Int32.toBitVec_or, BitVec.toNat_or, pk_tn (by omega), pk_tn (by omega), pk_tn (Nat.or_lt_two_pow ha hb)]
theorem nb_xor (ha : a < 2 ^ 32) (hb : b < 2 ^ 32) : nI a ^^^ nI b = nI (a ^^^ b) := by
  apply Int32.toBitVec_inj.mp
  apply BitVec.eq_of_toNat_eq
  rw [Int32.toBitVec_xor, BitVec.toNat_xor, pk_tn (by omega), pk_tn (by omega), pk_tn (Nat.xor_lt_two_pow ha hb)]
theorem nb_shr (hs : s < 2 ^ 31) (hb : b ≤ 24) : nI s >>> (nI b &&& 31) = nI (s >>> b) := by
  apply Int32.toBitVec_inj.1
  rw [Int32.toBitVec_shiftRight]
  have h1 : (nI s).toBitVec.sshiftRight' ((nI b &&& 31).toBitVec.smod 32) = (nI s).toBitVec.sshiftRight b := by
    show (nI s).toBitVec.sshiftRight ((nI b &&& 31).toBitVec.smod 32).toNat = _
    rw [by_l b hb]
  have hm : (nI s).toBitVec.msb = false := by
    rw [BitVec.msb_eq_decide, pk_tn (by omega), decide_eq_false_iff_not]
    omega
  rw [h1, BitVec.sshiftRight_eq_of_msb_false hm]
  apply BitVec.eq_of_toNat_eq
  have h2 : s >>> b < 2 ^ 32 := by
    rw [Nat.shiftRight_eq_div_pow]
    exact Nat.lt_of_le_of_lt (Nat.div_le_self _ _) (by omega)
  rw [BitVec.toNat_ushiftRight, pk_tn (by omega), pk_tn h2]
theorem nb_bit (hs : s < 2 ^ 31) (hb : b ≤ 24) : (nI s >>> (nI b &&& 31)) &&& nI 1 = if s.testBit b then nI 1 else nI 0 := by
  have h2 : s >>> b < 2 ^ 32 := by
    rw [Nat.shiftRight_eq_div_pow]
    exact Nat.lt_of_le_of_lt (Nat.div_le_self _ _) (by omega)
  rw [nb_shr hs hb, nb_and h2 (by omega), Nat.testBit, Nat.and_comm 1]
  rw [Nat.and_one_is_mod]
  rcases Nat.mod_two_eq_zero_or_one (s >>> b) with h | h <;> rw [h] <;> rfl
theorem nb_b0 (hs : s < 2 ^ 31) (hb : b ≤ 24) : (nI s >>> (nI b &&& 31)) &&& nI 1 = nI 0 ↔ s.testBit b = false := by
  rw [nb_bit hs hb]
  cases s.testBit b
  · exact ⟨fun _ => rfl, fun _ => rfl⟩
  · exact ⟨fun z => absurd z (by decide), fun z => absurd z (by decide)⟩
theorem nb_b1 (hs : s < 2 ^ 31) (hb : b ≤ 24) : (nI s >>> (nI b &&& 31)) &&& nI 1 = nI 1 ↔ s.testBit b = true := by
  rw [nb_bit hs hb]
  cases s.testBit b
  · exact ⟨fun z => absurd z (by decide), fun z => absurd z (by decide)⟩
  · exact ⟨fun _ => rfl, fun _ => rfl⟩
theorem nb_tb32 {x : Nat} : (4294967295 : Nat).testBit x = decide (x < 32) := Nat.testBit_two_pow_sub_one 32 x
theorem nb_lt (hs : s < 2 ^ n) {x : Nat} (hx : n ≤ x) : s.testBit x = false := Nat.testBit_lt_two_pow (Nat.lt_of_lt_of_le hs (Nat.pow_le_pow_right (by omega) hx))
/-- all but some -/
theorem nb_andn (ha : a < 2 ^ 31) (hb : b < 2 ^ 31) : nI a &&& (nI b ^^^ Int32.ofInt (-1)) = nI (a &&& (b ^^^ 4294967295)) := by
  rw [nb_m1, nb_xor (by omega) (by omega), nb_and (by omega) (Nat.xor_lt_two_pow (by omega) (by omega))]
theorem nb_an_bit (hs : s < 2 ^ 31) {x : Nat} : (s &&& (b ^^^ 4294967295)).testBit x = (s.testBit x && !b.testBit x) := by
  rw [Nat.testBit_and, Nat.testBit_xor, nb_tb32]
  by_cases h : x < 32
  · rw [decide_eq_true h]; cases s.testBit x <;> cases b.testBit x <;> rfl
  · rw [nb_lt hs (show 31 ≤ x by omega), Bool.false_and, Bool.false_and]
theorem nb_clr (hs : s < 2 ^ 14) (hb : b < 14) (h : s.testBit b = true) : nI s &&& ((nI 1 <<< (nI b &&& 31)) ^^^ Int32.ofInt (-1)) = nI (s ^^^ 2 ^ b) := by
  have h1 : 2 ^ b ≤ 2 ^ 13 := Nat.pow_le_pow_right (by omega) (by omega)
  rw [sh_N b (by omega), nb_andn (by omega) (by omega)]
  congr 1
  apply Nat.eq_of_testBit_eq
  intro x
  rw [nb_an_bit (by omega), Nat.testBit_xor, Nat.testBit_two_pow]
  by_cases e : b = x
  · subst e; rw [h, decide_eq_true rfl]; rfl
  · rw [decide_eq_false e]; cases s.testBit x <;> rfl
theorem nb_all : ∀ n, n ≤ 14 → (nI 1 <<< (nI n &&& 31)) - nI 1 = nI (2 ^ n - 1) := by decide +kernel
theorem nb_rest (hn : n ≤ 14) (hs : s < 2 ^ n) : ((nI 1 <<< (nI n &&& 31)) - nI 1) &&& (nI s ^^^ Int32.ofInt (-1)) = nI ((2 ^ n - 1) ^^^ s) := by
  have h1 : 2 ^ n ≤ 2 ^ 14 := Nat.pow_le_pow_right (by omega) (by omega)
  rw [nb_all n hn, nb_andn (by omega) (by omega)]
  congr 1
  apply Nat.eq_of_testBit_eq
  intro x
  rw [nb_an_bit (by omega), Nat.testBit_xor, Nat.testBit_two_pow_sub_one]
  by_cases e : x < n
  · rw [decide_eq_true e]; cases s.testBit x <;> rfl
  · rw [decide_eq_false e, nb_lt hs (by omega)]; rfl
theorem nb_xlt (hs : s < 2 ^ n) (hb : b < n) : s ^^^ 2 ^ b < 2 ^ n := Nat.xor_lt_two_pow hs (Nat.pow_lt_pow_right (by omega) hb)
/-- the blocks of a set, by number -/
def bq (s b t : Nat) : List Nat := (List.range' b t).filter (fun x => s.testBit x)
def bl (n s : Nat) : List Nat := bq s 0 n
theorem bq_s {t : Nat} : bq s b (t + 1) = if s.testBit b then b :: bq s (b + 1) t else bq s (b + 1) t := by
  rw [bq, List.range'_succ, List.filter_cons]; rfl
theorem bl_eq : bl n s = (List.range n).filter (fun x => s.testBit x) := by rw [bl, bq, List.range_eq_range']
theorem bl_mem : b ∈ bl n s ↔ b < n ∧ s.testBit b = true := by rw [bl_eq, List.mem_filter, List.mem_range]
theorem bl_nd : (bl n s).Nodup := by rw [bl_eq]; exact List.Pairwise.filter _ List.nodup_range
theorem bl_er (h : s.testBit b = true) : bl n (s ^^^ 2 ^ b) = (bl n s).erase b := by
  rw [List.Nodup.erase_eq_filter bl_nd, bl_eq, bl_eq, List.filter_filter]
  apply List.filter_congr
  intro x _
  rw [Nat.testBit_xor, Nat.testBit_two_pow]
  by_cases e : b = x
  · subst e; rw [h, decide_eq_true rfl]; simp
  · rw [decide_eq_false e]
    have : (x != b) = true := by simpa using fun z => e z.symm
    rw [this]; cases s.testBit x <;> rfl
theorem ls_len : ∀ (n : Nat) (l : List Nat), l.Nodup → (∀ x ∈ l, x < n) → l.length ≤ n := by
  intro n
  induction n with
  | zero =>
    intro l _ h
    cases l with
    | nil => exact Nat.le_refl _
    | cons a l => exact absurd (h a List.mem_cons_self) (by omega)
  | succ n ih =>
    intro l h1 h2
    have := ih (l.erase n) (h1.erase n) (fun x hx => by
      have e := (List.Nodup.mem_erase_iff h1).mp hx
      have := h2 x e.2
      have := e.1
      omega)
    have e2 := List.length_erase (a := n) (l := l)
    split at e2 <;> omega
theorem ls_perm : ∀ (n : Nat) (l : List Nat), l.Nodup → (∀ x ∈ l, x < n) → l.length = n → l.Perm (List.range n) := by
  intro n
  induction n with
  | zero => intro l _ _ h; rw [List.eq_nil_of_length_eq_zero h]; exact List.Perm.refl _
  | succ n ih =>
    intro l h1 h2 h3
    have hm : n ∈ l := Classical.byContradiction fun z => by
      have := ls_len n l h1 (fun x hx => by
        have := h2 x hx
        have : ¬ x = n := fun e => z (e ▸ hx)
        omega)
      omega
    have p := ih (l.erase n) (h1.erase n) (fun x hx => by
      have e := (List.Nodup.mem_erase_iff h1).mp hx
      have := h2 x e.2
      have := e.1
      omega) (by rw [List.length_erase_of_mem hm]; omega)
    rw [List.range_succ]
    exact (List.perm_cons_erase hm).trans ((p.cons n).trans (List.perm_append_singleton n (List.range n)).symm)
theorem ls_split {p : Nat → Bool} : ∀ l : List Nat, (l.filter p).length + (l.filter (fun x => !p x)).length = l.length := by
  intro l
  induction l with
  | nil => rfl
  | cons a l ih =>
    rw [List.filter_cons, List.filter_cons]
    cases p a
    · simp only [Bool.not_false, if_true, List.length_cons, Bool.false_eq_true, if_false]; omega
    · simp only [Bool.not_true, if_true, List.length_cons, Bool.false_eq_true, if_false]; omega
end xk_nb
