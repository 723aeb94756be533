/-! soonest: the model's answer -/
def snV (n : Nat) (W : xw) (z : Int32) : Int32 := if z = nI 0 then (sn n W).1 else if z < nI 10 ∨ nI (9 + n) < z then Int32.ofInt (-1) else if (sn n W).1 = Int32.ofInt (-1) then Int32.ofInt (-1) else nI ((sn n W).2.getD (z - nI 10).toNatClampNeg 0)
section xk_so2
variable {d : Nat} {g : xq_V} {J : Nat → Nat → Int64} {I : Nat → Nat → Int32} {Q : Option Value → xq_S → Prop} {n ns m : Nat} {A W P F N Y X B : xw}
theorem la_lt (ho : ok n ns W) : ∀ i, i < n → (laN W i).length ≤ (laN W n).length ∧ (ldB W (sp_ix W (30 + i)) = true → (laN W i).length < (laN W n).length ∧ (laN W n).getD (laN W i).length 0 = sp_ix W (30 + i)) := by
  have pre : ∀ (t i : Nat), ∃ l, laN W (i + t) = laN W i ++ l := by
    intro t
    induction t with
    | zero => intro i; exact ⟨[], by rw [List.append_nil]; rfl⟩
    | succ t ih =>
      intro i
      obtain ⟨l, e⟩ := ih i
      refine ⟨l ++ (if W (50 + 14 * sp_ix W (30 + (i + t)) + 4) = nI 4 then [sp_ix W (30 + (i + t))] else []), ?_⟩
      rw [← List.append_assoc, ← e]; rfl
  intro i hi
  obtain ⟨l, e⟩ := pre (n - i) i
  rw [show i + (n - i) = n by omega] at e
  refine ⟨by rw [e, List.length_append]; omega, fun h => ?_⟩
  obtain ⟨l2, e2⟩ := pre (n - (i + 1)) (i + 1)
  rw [show i + 1 + (n - (i + 1)) = n by omega] at e2
  have h1 : laN W (i + 1) = laN W i ++ [sp_ix W (30 + i)] := by
    rw [laN, if_pos (of_decide_eq_true h)]
  rw [e2, h1, List.append_assoc]
  refine ⟨by rw [List.length_append, List.length_append]; simp only [List.length_cons, List.length_nil]; omega, ?_⟩
  rw [gD_r (Nat.le_refl _), Nat.sub_self]; rfl
theorem la_s {i : Nat} : (laN W (i + 1)).length = (laN W i).length + (if ldB W (sp_ix W (30 + i)) then 1 else 0) := by
  rw [laN, List.length_append]
  unfold ldB
  by_cases h : W (50 + 14 * sp_ix W (30 + i) + 4) = nI 4
  · rw [if_pos h, decide_eq_true h]; rfl
  · rw [if_neg h, decide_eq_false h]; rfl
theorem xl_255_65 {z : Int32} (ho : ok n ns W) (em : (flN W n).length = m) (hp : ∀ X' : xw, (∀ k, m ≤ k → k < n → X' k = nI ((laN W n).getD (k - m) 0)) → xq_wp d 256 (xq_s g J (xt I (upd A 35 (Int32.ofInt (-1))) W P F N Y X' B)) 0 [.ref 126, .int (nI 0), .int (nI ((2 ^ n - 1) ^^^ lsN W n)), xq_un, xq_un] [] (fun v x1 => xq_wp (d + 1) 255 x1 129 [.ref 126, .int z, .int (nI n), .int (nI ((2 ^ n - 1) ^^^ lsN W n)), .int (nI m), .int (nI n), .int (nI n)] (v.toList ++ []) Q)) : ∀ (c i h : Nat) (X : xw), i + c = n → h = m + (laN W i).length → (∀ k, m ≤ k → k < h → X k = nI ((laN W n).getD (k - m) 0)) → xq_wp (d + 1) 255 (xq_s g J (xt I A W P F N Y X B)) 65 [.ref 126, .int z, .int (nI n), .int (nI ((2 ^ n - 1) ^^^ lsN W n)), .int (nI m), .int (nI h), .int (nI i)] [] Q := by
  have n14 := ho.1.2.1
  have hp14 : 2 ^ n ≤ 2 ^ 14 := Nat.pow_le_pow_right (by omega) n14
  have hfl := fl_la ho
  have hs : (2 ^ n - 1) ^^^ lsN W n < 2 ^ n := Nat.xor_lt_two_pow (by have := Nat.two_pow_pos n; omega) (lsN_lt n)
  have sb : ∀ o, o < n → ((2 ^ n - 1) ^^^ lsN W n).testBit o = !ldB W o := fun o ho => by
    rw [Nat.testBit_xor, Nat.testBit_two_pow_sub_one, lsN_bit, decide_eq_true ho]; cases ldB W o <;> rfl
  generalize (2 ^ n - 1) ^^^ lsN W n = s at *
  intro c
  induction c with
  | zero =>
    intro i h X e eh hX
    have ei : i = n := by omega
    subst ei
    have eh2 : h = i := by omega
    subst eh2
    exact xo_255_65 (d := d) (o := 0) ⟨by omega, by omega, fun q => by omega, fun _ => hp X hX⟩
  | succ c ih =>
    intro i h X e eh hX
    have hi : i < n := by omega
    obtain ⟨o, ho2, eo, io⟩ := ok_or ho hi
    obtain ⟨l1, l2⟩ := la_lt ho i hi
    have ls := la_s (W := W) (i := i)
    rw [io] at l2 ls
    refine xo_255_65 (d := d) (o := o) ⟨by omega, by omega, fun _ => ⟨by omega, eo, fun q => ?_, fun q => ⟨eo, ?_⟩⟩, fun q => by omega⟩
    · rw [nb_b1 (by omega) (by omega), sb o ho2] at q
      have q : ldB W o = false := by cases y : ldB W o; rfl; rw [y] at q; exact absurd q (by decide)
      rw [q] at ls
      exact ih (i + 1) h X (by omega) (by rw [ls]; exact eh) hX
    · rw [nb_b1 (by omega) (by omega), sb o ho2] at q
      have q : ldB W o = true := by cases y : ldB W o; rw [y] at q; exact absurd rfl q; rfl
      rw [q] at ls
      obtain ⟨l3, l4⟩ := l2 q
      simp only [if_true] at ls
      refine ⟨by omega, ih (i + 1) (h + 1) _ (by omega) (by rw [ls]; omega) (fun k k1 k2 => ?_)⟩
      by_cases y : k = h
      · subst y; rw [upd_eq, show k - m = (laN W i).length by omega, l4]
      · rw [upd_ne y]; exact hX k k1 (by omega)
theorem sn_fold {m : Nat} (em : (flN W n).length = m) (h1 : 1 ≤ m) (h6 : m ≤ 6) : sn n W = (pm m (flN W n)).foldl (snS n W) (Int32.ofInt (-1), []) := by
  rw [sn, em, if_pos ⟨h1, h6⟩]
theorem sn_no (h : ¬ (1 ≤ (flN W n).length ∧ (flN W n).length ≤ 6)) : (sn n W).1 = Int32.ofInt (-1) := by
  rw [sn, if_neg h]
theorem xl_255 {z : Int32} (ho : ok n ns W) (h29 : A 29 = Int32.ofInt (-1)) (hw : thw W) (hp : ∀ (A' P' F' N' Y' X' B' : xw), (∀ j, ¬ j = 30 → ¬ j = 35 → A' j = A j) → Q (some (.int (snV n W z))) (xq_s g J (xt I A' W P' F' N' Y' X' B'))) : xq_wp (d + 15) 255 (xq_s g J (xt I A W P F N Y X B)) 0 [.ref 126, .int z, xq_un, xq_un, xq_un, xq_un, xq_un] [] Q := by
  have n14 := ho.1.2.1
  have hlm := fl_lm ho
  have lml := lmN_le (W := W) n
  have hfl := fl_la ho
  have emn : nI n - sp_lmany W n 0 (nI 0) = nI (n - lmN W n) := by rw [lmany_N]; exact pk_sub (by omega)
  obtain ⟨m, em⟩ : ∃ m, (flN W n).length = m := ⟨_, rfl⟩
  rw [em] at hlm hfl
  rw [← hlm] at emn
  have no : ¬ (1 ≤ m ∧ m ≤ 6) → Q (some (.int (Int32.ofInt (-1)))) (xq_s g J (xt I A W P F N Y X B)) := fun q => by
    have e1 := sn_no (n := n) (W := W) (by rw [em]; exact q)
    have := hp A P F N Y X B (fun _ _ _ => rfl)
    unfold snV at this
    rw [e1] at this
    split at this
    · exact this
    · split at this
      · exact this
      · rw [if_pos rfl] at this; exact this
  have go : 1 ≤ m → m ≤ 6 → (z = nI 0 ∨ (¬ z = nI 0 ∧ ¬ z < nI 10 ∧ ¬ nI (9 + n) < z)) → xq_wp (d + 15) 255 (xq_s g J (xt I A W P F N Y X B)) 58 [.ref 126, .int z, .int (nI n), .int ((((nI 1) <<< ((nI n) &&& 31)) - (nI 1)) &&& ((sp_lset W n 0 (nI 0)) ^^^ (Int32.ofInt (-1)))), .int ((nI n) - (sp_lmany W n 0 (nI 0))), xq_un, xq_un] [] Q := by
    intro m1 m6 hz
    rw [emn, lset_N n14, nb_rest n14 (lsN_lt n)]
    refine xo_255_58 (d := d + 15) (xl_255_65 (d := d + 14) ho em (fun X1 hX1 => ?_) n 0 m X (by omega) (by rw [show laN W 0 = [] from rfl]; rfl) (fun k k1 k2 => by omega))
    have key := xl_256 (d := d + (6 - m)) (g := g) (J := J) (I := I) (W := W) (m := m) ho hw em m ((2 ^ n - 1) ^^^ lsN W n) [] (Int32.ofInt (-1), []) (upd A 35 (Int32.ofInt (-1))) P F N Y X1 B (fun v x1 => xq_wp (d + 14 + 1) 255 x1 129 [.ref 126, .int z, .int (nI n), .int (nI ((2 ^ n - 1) ^^^ lsN W n)), .int (nI m), .int (nI n), .int (nI n)] (v.toList ++ []) Q) (Nat.xor_lt_two_pow (by have := Nat.two_pow_pos n; omega) (lsN_lt n)) (by rw [fl_bl]; exact em) (by simp) ⟨fun k hk => absurd hk (by simp), hX1⟩ (by rw [fl_bl, List.nil_append]) ⟨upd_eq, Or.inl rfl, fun q => absurd rfl q⟩ (by rw [upd_ne (by omega)]; exact h29)
    rw [show d + (6 - m) + 8 + m = d + 14 by omega] at key
    refine key (fun A' P' F' N' Y' X' B' e1 e2 e3 => ?_)
    rw [fl_bl] at e3
    have ef : (fun (t : Int32 × List Nat) (r : List Nat) => snS n W t ([] ++ r)) = snS n W := by funext t r; rfl
    rw [ef, ← sn_fold em m1 m6] at e3
    obtain ⟨b1, b2, b3⟩ := e3
    have hA : ∀ j, ¬ j = 30 → ¬ j = 35 → A' j = A j := fun j j1 j2 => by rw [e1 j j1 j2, upd_ne j2]
    have hq := hp A' P' F' N' Y' X' B' hA
    unfold snV at hq
    refine xo_255_129 (d := d + 15) ⟨fun y => ?_, fun y => ⟨fun y2 => ?_, fun y2 => ?_⟩⟩
    · rw [b1] at y
      rw [b1, y]
      rcases hz with hz | ⟨z1, z2, z3⟩
      · rw [if_pos hz, y] at hq; exact hq
      · rw [if_neg z1, if_neg (fun q => q.elim z2 z3), if_pos y] at hq; exact hq
    · rw [if_pos y2] at hq
      rw [b1]; exact hq
    · rw [b1] at y
      rcases hz with hz | ⟨z1, z2, z3⟩
      · exact absurd hz y2
      · rw [if_neg z1, if_neg (fun q => q.elim z2 z3), if_neg y] at hq
        have hk : ∃ k, k < n ∧ z = nI (10 + k) := by
          have a := mt Int32.lt_iff_toInt_lt.mpr z2
          have c := mt Int32.lt_iff_toInt_lt.mpr z3
          rw [nI_toInt (by omega)] at a c
          refine ⟨z.toInt.toNat - 10, by omega, Int32.toInt_inj.mp ?_⟩
          rw [nI_toInt (by omega)]
          omega
        obtain ⟨k, hk, ek⟩ := hk
        have e10 : z - nI 10 = nI k := by rw [ek, pk_sub (by omega), show 10 + k - 10 = k by omega]
        rw [e10, nI_clamp (by omega)] at hq ⊢
        exact ⟨xn_in (by omega) (by omega), by rw [b3 y k hk]; exact hq⟩
  refine xo_255 (d := d + 13) (n := n) (m := 0) ⟨ho.1.1, ho.1.1, n14, fun q => ?_, fun q => ⟨fun q2 => ?_, fun q2 => ⟨fun q3 => ?_, fun q3 => ⟨fun q4 => ?_, fun q4 => ⟨fun q5 => ?_, fun q5 => ?_⟩⟩⟩⟩⟩
  · rw [emn, xn_lt (by omega) (by omega)] at q
    exact no (by omega)
  · rw [emn, xn_lt (by omega) (by omega)] at q2
    exact no (by omega)
  · rw [emn, xn_lt (by omega) (by omega)] at q q2
    exact go (by omega) (by omega) (Or.inl q3)
  · have := hp A P F N Y X B (fun _ _ _ => rfl)
    unfold snV at this
    rw [if_neg q3, if_pos (Or.inl q4)] at this
    exact this
  · have := hp A P F N Y X B (fun _ _ _ => rfl)
    rw [nI_add] at q5
    unfold snV at this
    rw [if_neg q3, if_pos (Or.inr q5)] at this
    exact this
  · rw [emn, xn_lt (by omega) (by omega)] at q q2
    rw [nI_add] at q5
    exact go (by omega) (by omega) (Or.inr ⟨q3, q4, q5⟩)
end xk_so2
