/-! more rules of runs, and the small methods that only count -/
def xq_sa (j i : Nat) : Int32 := (xq_sv.getD j []).getD i 0
def xq_ush (u v : Int32) : Int32 := (u.toUInt32 >>> (v.toUInt32 &&& Int32.toUInt32 31)).toInt32
def xq_rem (u v : Int32) : Int32 := u - u / v * v
def xq_max (u v : Int32) : Int32 := if u < v then v else u
def xq_min (u v : Int32) : Int32 := if v < u then v else u
def xq_abs (u : Int32) : Int32 := if nI 0 ≤ u then u else -u
def xq_most (u : Int32) : Int32 := if u = nI 0 then nI 99 else if u = nI 2 then nI 99 else if u = nI 1 then nI 9999 else if u < nI 6 then nI 9 else if u < nI 9 then nI 1000 else if u = nI 9 then nI 52 else if u = nI 10 then nI 999 else nI 520
def xq_gtst (u : Int32) : Int32 := if u = nI 24 then nI 60 else if u = nI 25 then nI 13 else if u < nI 28 then nI 99 else if u < nI 30 then nI 3 else nI 9
def xq_bc1 (u : Int32) : Int32 := u - (xq_ush u (nI 1) &&& nI 1431655765)
def xq_bc2 (u : Int32) : Int32 := (u &&& nI 858993459) + (xq_ush u (nI 2) &&& nI 858993459)
def xq_bc3 (u : Int32) : Int32 := (u + xq_ush u (nI 4)) &&& nI 252645135
def xq_bc4 (u : Int32) : Int32 := u + xq_ush u (nI 8)
def xq_bc5 (u : Int32) : Int32 := u + xq_ush u (nI 16)
def xq_bc (u : Int32) : Int32 := xq_bc5 (xq_bc4 (xq_bc3 (xq_bc2 (xq_bc1 u)))) &&& nI 63
section xq_rules
variable {d m : Nat} {x x' : xq_S} {pc pc' : Nat} {L L' st st' : List Value} {Q Q' : Option Value → xq_S → Prop} {k : Nat}
theorem xq_wp.brT {p : Prop} [Decidable p] {t q : Nat} (h : ∀ F, xq_x (F + k) d m x pc L st = xq_x F d m x' (if decide p = true then t else q) L' st') (hp : p) (g : xq_wp d m x' t L' st' Q) : xq_wp d m x pc L st Q := xq_wp.br h ⟨fun _ => g, fun n => absurd hp n⟩
theorem xq_wp.brF {p : Prop} [Decidable p] {t q : Nat} (h : ∀ F, xq_x (F + k) d m x pc L st = xq_x F d m x' (if decide p = true then t else q) L' st') (hp : ¬ p) (g : xq_wp d m x' q L' st' Q) : xq_wp d m x pc L st Q := xq_wp.br h ⟨fun n => absurd n hp, fun _ => g⟩
theorem xq_wp.als {len b c a0 a n : Nat} {i : Int32} {r : List Value} (hc : xq_code m pc = some (.iaload, len, a0, b, c)) (hk : (!decide (a < xq_tB) && decide (a - xq_tB < 6)) = true) (hn : (xq_sv.getD (a - xq_tB) []).length = n) (g : xq_in i n = true ∧ xq_wp d m x (pc + 1) L (.int (xq_sa (a - xq_tB) i.toNatClampNeg) :: r) Q) : xq_wp d m x pc L (.int i :: .ref a :: r) Q := by
  simp only [Bool.and_eq_true, decide_eq_true_eq, Bool.not_eq_true', decide_eq_false_iff_not] at hk
  refine xq_wp.step hc rfl (by simp only [xq_ret]) ?_ g.2
  simp only [xq_step, xq_aload, if_neg hk.1, hk.2, hn, g.1, decide_true, Bool.and_self, if_true, xq_sa]
theorem xq_wp.div {len a b c : Nat} {u v : Int32} {r : List Value} (hc : xq_code m pc = some (.idiv, len, a, b, c)) (g : ¬ v = 0 ∧ xq_wp d m x (pc + 1) L (.int (u / v) :: r) Q) : xq_wp d m x pc L (.int v :: .int u :: r) Q := by
  refine xq_wp.step hc rfl (by simp only [xq_ret]) ?_ g.2
  simp only [xq_step, xq_div, if_neg g.1]
theorem xq_wp.rem {len a b c : Nat} {u v : Int32} {r : List Value} (hc : xq_code m pc = some (.irem, len, a, b, c)) (g : ¬ v = 0 ∧ xq_wp d m x (pc + 1) L (.int (xq_rem u v) :: r) Q) : xq_wp d m x pc L (.int v :: .int u :: r) Q := by
  refine xq_wp.step hc rfl (by simp only [xq_ret]) ?_ g.2
  simp only [xq_step, xq_div, if_neg g.1, xq_rem]
theorem xq_sw1 {u : Int32} {z : Int} (h : u.toInt = z) : u = Int32.ofInt z := by rw [← h, Int32.ofInt_toInt]
theorem xq_wp.sw {len a b c : Nat} {u : Int32} {dd lo hi : Int} {offs : Array Int} {r : List Value} (hc : xq_code m pc = some (.tableswitch dd lo hi offs, len, a, b, c)) (hs : offs.size = k) (hl : (decide (-2147483648 ≤ lo) && decide (hi < 2147483648) && decide (hi + 1 = lo + k)) = true) (hd : (∀ j : Nat, j < k → ¬ u = Int32.ofInt lo + nI j) → xq_wp d m x (xq_tgt pc dd) L r Q) (hj : ∀ j : Nat, j < k → u = Int32.ofInt lo + nI j → xq_wp d m x (xq_tgt pc (offs.getD j dd)) L r Q) : xq_wp d m x pc L (.int u :: r) Q := by
  simp only [Bool.and_eq_true, decide_eq_true_eq] at hl
  have e : ∀ j : Nat, Int32.ofInt lo + nI j = Int32.ofInt (lo + j) := fun j => by
    rw [Int32.ofInt_add]; rfl
  by_cases q : u.toInt < lo ∨ hi < u.toInt
  · refine xq_wp.step hc rfl (by simp only [xq_ret]) (pc' := xq_tgt pc dd) (x' := x) (L' := L) (st' := r) ?_ (hd fun j hjk hu => ?_)
    · have : (decide (u.toInt < lo) || decide (hi < u.toInt)) = true := by simpa using q
      simp only [xq_step, xq_sw, this, if_true]
    · rw [e, ] at hu
      have : u.toInt = lo + j := by
        rw [hu, Int32.toInt_ofInt_of_le (by omega) (by omega)]
      omega
  · refine xq_wp.step hc rfl (by simp only [xq_ret]) (pc' := xq_tgt pc (offs.getD (u.toInt - lo).toNat dd)) (x' := x) (L' := L) (st' := r) ?_ (hj (u.toInt - lo).toNat (by omega) ?_)
    · have : (decide (u.toInt < lo) || decide (hi < u.toInt)) = false := by
        simp only [Bool.or_eq_false_iff, decide_eq_false_iff_not]
        omega
      simp only [xq_step, xq_sw, this, Bool.false_eq_true, if_false]
    · rw [e]
      exact xq_sw1 (by omega)
end xq_rules
section xq_fns
variable {d : Nat} {x : xq_S} {Q : Option Value → xq_S → Prop} {u v : Int32}
theorem xf_7 (hp : Q (some (.int (xq_max u v))) x) : xq_wp d 7 x 0 [.int u, .int v] [] Q := by
  refine xq_wp.br (k := 3) (x' := x) (p := u < v) (L' := [.int u, .int v]) (st' := []) (fun F => rfl) ⟨fun h => ?_, fun h => ?_⟩
  · exact xq_wp.ret (k := 2) (v := some (.int v)) (x1 := x) (fun F => rfl) (by rwa [xq_max, if_pos h] at hp)
  · exact xq_wp.ret (k := 3) (v := some (.int u)) (x1 := x) (fun F => rfl) (by rwa [xq_max, if_neg h] at hp)
theorem xf_39 (hp : Q (some (.int (xq_min u v))) x) : xq_wp d 39 x 0 [.int u, .int v] [] Q := by
  refine xq_wp.br (k := 3) (x' := x) (p := v < u) (L' := [.int u, .int v]) (st' := []) (fun F => rfl) ⟨fun h => ?_, fun h => ?_⟩
  · exact xq_wp.ret (k := 2) (v := some (.int v)) (x1 := x) (fun F => rfl) (by rwa [xq_min, if_pos h] at hp)
  · exact xq_wp.ret (k := 3) (v := some (.int u)) (x1 := x) (fun F => rfl) (by rwa [xq_min, if_neg h] at hp)
theorem xq_max_le (h : u ≤ v) : xq_max u v = v := by
  unfold xq_max
  split
  · rfl
  · rename_i q
    have h1 := Int32.le_iff_toInt_le.mp h
    have h2 := mt Int32.lt_iff_toInt_lt.mpr q
    exact Int32.toInt_inj.mp (by omega)
theorem xq_min_le (h : v ≤ u) : xq_min u v = v := by
  unfold xq_min
  split
  · rfl
  · rename_i q
    have h1 := Int32.le_iff_toInt_le.mp h
    have h2 := mt Int32.lt_iff_toInt_lt.mpr q
    exact Int32.toInt_inj.mp (by omega)
theorem xf_217 (hp : Q (some (.int (xq_max u v))) x) : xq_wp d 217 x 0 [.int u, .int v] [] Q := by
  refine xq_wp.br (k := 3) (x' := x) (p := u ≤ v) (L' := [.int u, .int v]) (st' := []) (fun F => rfl) ⟨fun h => ?_, fun h => ?_⟩
  · exact xq_wp.ret (k := 2) (v := some (.int v)) (x1 := x) (fun F => rfl) (by rwa [xq_max_le h] at hp)
  · exact xq_wp.ret (k := 3) (v := some (.int u)) (x1 := x) (fun F => rfl) (by rwa [xq_max, if_neg (fun q => h (Int32.le_of_lt q))] at hp)
theorem xf_216 (hp : Q (some (.int (xq_min u v))) x) : xq_wp d 216 x 0 [.int u, .int v] [] Q := by
  refine xq_wp.br (k := 3) (x' := x) (p := v ≤ u) (L' := [.int u, .int v]) (st' := []) (fun F => rfl) ⟨fun h => ?_, fun h => ?_⟩
  · exact xq_wp.ret (k := 2) (v := some (.int v)) (x1 := x) (fun F => rfl) (by rwa [xq_min_le h] at hp)
  · exact xq_wp.ret (k := 3) (v := some (.int u)) (x1 := x) (fun F => rfl) (by rwa [xq_min, if_neg (fun q => h (Int32.le_of_lt q))] at hp)
theorem xf_92 (hp : Q (some (.int (xq_abs u))) x) : xq_wp d 92 x 0 [.int u] [] Q := by
  refine xq_wp.br (k := 2) (x' := x) (p := nI 0 ≤ u) (L' := [.int u]) (st' := []) (fun F => rfl) ⟨fun h => ?_, fun h => ?_⟩
  · exact xq_wp.ret (k := 2) (v := some (.int u)) (x1 := x) (fun F => rfl) (by rwa [xq_abs, if_pos h] at hp)
  · exact xq_wp.ret (k := 4) (v := some (.int (-u))) (x1 := x) (fun F => rfl) (by rwa [xq_abs, if_neg h] at hp)
theorem xf_106 (hp : Q (some (.int (xq_bc u))) x) : xq_wp d 106 x 0 [.int u] [] Q :=
  xq_wp.ret (k := 42) (v := some (.int (xq_bc u))) (x1 := x) (fun F => rfl) hp
end xq_fns
section xq_fns2
variable {d : Nat} {x : xq_S} {Q : Option Value → xq_S → Prop} {u : Int32}
theorem xf_162 (hp : Q (some (.int (xq_most u))) x) : xq_wp d 162 x 0 [.int u] [] Q := by
  unfold xq_most at hp
  refine xq_wp.br (k := 2) (x' := x) (p := u = nI 0) (L' := [.int u]) (st' := []) (fun F => rfl) ⟨fun h => ?_, fun h => ?_⟩
  · rw [if_pos h] at hp
    exact xq_wp.ret (k := 2) (v := some (.int (nI 99))) (x1 := x) (fun F => rfl) hp
  rw [if_neg h] at hp
  refine xq_wp.br (k := 3) (x' := x) (p := ¬ u = nI 2) (L' := [.int u]) (st' := []) (fun F => rfl) ⟨fun h => ?_, fun h => ?_⟩
  rotate_left
  · rw [if_pos (Decidable.not_not.mp h)] at hp
    exact xq_wp.ret (k := 2) (v := some (.int (nI 99))) (x1 := x) (fun F => rfl) hp
  rw [if_neg h] at hp
  refine xq_wp.br (k := 3) (x' := x) (p := ¬ u = nI 1) (L' := [.int u]) (st' := []) (fun F => rfl) ⟨fun h => ?_, fun h => ?_⟩
  rotate_left
  · rw [if_pos (Decidable.not_not.mp h)] at hp
    exact xq_wp.ret (k := 2) (v := some (.int (nI 9999))) (x1 := x) (fun F => rfl) hp
  rw [if_neg h] at hp
  refine xq_wp.br (k := 3) (x' := x) (p := nI 6 ≤ u) (L' := [.int u]) (st' := []) (fun F => rfl) ⟨fun h => ?_, fun h => ?_⟩
  rotate_left
  · rw [if_pos (Int32.not_le.mp h)] at hp
    exact xq_wp.ret (k := 2) (v := some (.int (nI 9))) (x1 := x) (fun F => rfl) hp
  rw [if_neg (fun q => Int32.not_le.mpr q h)] at hp
  refine xq_wp.br (k := 3) (x' := x) (p := nI 9 ≤ u) (L' := [.int u]) (st' := []) (fun F => rfl) ⟨fun h => ?_, fun h => ?_⟩
  rotate_left
  · rw [if_pos (Int32.not_le.mp h)] at hp
    exact xq_wp.ret (k := 2) (v := some (.int (nI 1000))) (x1 := x) (fun F => rfl) hp
  rw [if_neg (fun q => Int32.not_le.mpr q h)] at hp
  refine xq_wp.br (k := 3) (x' := x) (p := ¬ u = nI 9) (L' := [.int u]) (st' := []) (fun F => rfl) ⟨fun h => ?_, fun h => ?_⟩
  rotate_left
  · rw [if_pos (Decidable.not_not.mp h)] at hp
    exact xq_wp.ret (k := 3) (v := some (.int (nI 52))) (x1 := x) (fun F => rfl) hp
  rw [if_neg h] at hp
  refine xq_wp.br (k := 3) (x' := x) (p := ¬ u = nI 10) (L' := [.int u]) (st' := []) (fun F => rfl) ⟨fun h => ?_, fun h => ?_⟩
  rotate_left
  · rw [if_pos (Decidable.not_not.mp h)] at hp
    exact xq_wp.ret (k := 3) (v := some (.int (nI 999))) (x1 := x) (fun F => rfl) hp
  rw [if_neg h] at hp
  exact xq_wp.ret (k := 2) (v := some (.int (nI 520))) (x1 := x) (fun F => rfl) hp
theorem xf_198 {a : Nat} (hp : Q (some (.int (xq_gtst u))) x) : xq_wp d 198 x 0 [.ref a, .int u] [] Q := by
  unfold xq_gtst at hp
  refine xq_wp.br (k := 3) (x' := x) (p := ¬ u = nI 24) (L' := [.ref a, .int u]) (st' := []) (fun F => rfl) ⟨fun h => ?_, fun h => ?_⟩
  rotate_left
  · rw [if_pos (Decidable.not_not.mp h)] at hp
    exact xq_wp.ret (k := 2) (v := some (.int (nI 60))) (x1 := x) (fun F => rfl) hp
  rw [if_neg h] at hp
  refine xq_wp.br (k := 3) (x' := x) (p := ¬ u = nI 25) (L' := [.ref a, .int u]) (st' := []) (fun F => rfl) ⟨fun h => ?_, fun h => ?_⟩
  rotate_left
  · rw [if_pos (Decidable.not_not.mp h)] at hp
    exact xq_wp.ret (k := 2) (v := some (.int (nI 13))) (x1 := x) (fun F => rfl) hp
  rw [if_neg h] at hp
  refine xq_wp.br (k := 3) (x' := x) (p := nI 28 ≤ u) (L' := [.ref a, .int u]) (st' := []) (fun F => rfl) ⟨fun h => ?_, fun h => ?_⟩
  rotate_left
  · rw [if_pos (Int32.not_le.mp h)] at hp
    exact xq_wp.ret (k := 2) (v := some (.int (nI 99))) (x1 := x) (fun F => rfl) hp
  rw [if_neg (fun q => Int32.not_le.mpr q h)] at hp
  refine xq_wp.br (k := 3) (x' := x) (p := nI 30 ≤ u) (L' := [.ref a, .int u]) (st' := []) (fun F => rfl) ⟨fun h => ?_, fun h => ?_⟩
  rotate_left
  · rw [if_pos (Int32.not_le.mp h)] at hp
    exact xq_wp.ret (k := 3) (v := some (.int (nI 3))) (x1 := x) (fun F => rfl) hp
  rw [if_neg (fun q => Int32.not_le.mpr q h)] at hp
  exact xq_wp.ret (k := 2) (v := some (.int (nI 9))) (x1 := x) (fun F => rfl) hp
end xq_fns2
section xq_nats
variable {d m : Nat} {x x' : xq_S} {pc pc' : Nat} {L L' st st' : List Value} {Q Q' : Option Value → xq_S → Prop} {k : Nat}
theorem xn_lt {a b : Nat} (ha : a < 2147483648) (hb : b < 2147483648) : nI a < nI b ↔ a < b := by
  rw [Int32.lt_iff_toInt_lt, nI_toInt (by omega), nI_toInt (by omega)]; omega
theorem xn_le {a b : Nat} (ha : a < 2147483648) (hb : b < 2147483648) : nI a ≤ nI b ↔ a ≤ b := by
  rw [Int32.le_iff_toInt_le, nI_toInt (by omega), nI_toInt (by omega)]; omega
theorem xn_eq {a b : Nat} (ha : a < 2147483648) (hb : b < 2147483648) : nI a = nI b ↔ a = b := by
  rw [← Int32.toInt_inj, nI_toInt (by omega), nI_toInt (by omega)]; omega
theorem xn_ne {a b : Nat} (ha : a < 2147483648) (hb : b < 2147483648) : ¬ nI a = nI b ↔ ¬ a = b := not_congr (xn_eq ha hb)
theorem xn_in {a n : Nat} (h : a < n) (hn : n ≤ 2147483648) : xq_in (nI a) n = true := by
  have h0 : ¬ nI a < 0 := by
    rw [show (0 : Int32) = nI 0 from rfl, xn_lt (by omega) (by omega)]; omega
  simp only [xq_in, nI_clamp (show a < 2 ^ 31 by omega)]
  simp only [h0, decide_false, Bool.false_or, Bool.not_eq_true', decide_eq_false_iff_not]
  omega
theorem xq_wp.top {u v : Int32} {r : List Value} (e : u = v) (g : xq_wp d m x pc L (.int v :: r) Q) : xq_wp d m x pc L (.int u :: r) Q := by rw [e]; exact g
theorem xq_wp.lc (e : L = L') (g : xq_wp d m x pc L' st Q) : xq_wp d m x pc L st Q := by rw [e]; exact g
theorem xq_wp.brN {p p' : Prop} [Decidable p] {t q : Nat} (h : ∀ F, xq_x (F + k) d m x pc L st = xq_x F d m x' (if decide p = true then t else q) L' st') (e : p ↔ p') (g : (p' → xq_wp d m x' t L' st' Q) ∧ (¬ p' → xq_wp d m x' q L' st' Q)) : xq_wp d m x pc L st Q := xq_wp.br h ⟨fun hp => g.1 (e.mp hp), fun hp => g.2 (fun z => hp (e.mpr z))⟩
theorem xn_ge {a b : Nat} (ha : a < 2147483648) (hb : b < 2147483648) : nI b ≤ nI a ↔ ¬ a < b := by rw [xn_le hb ha]; omega
theorem xq_wp.brS {p p' : Prop} [Decidable p] {t q : Nat} (h : ∀ F, xq_x (F + k) d m x pc L st = xq_x F d m x' (if decide p = true then t else q) L' st') (e : p ↔ ¬ p') (g : (p' → xq_wp d m x' q L' st' Q) ∧ (¬ p' → xq_wp d m x' t L' st' Q)) : xq_wp d m x pc L st Q := xq_wp.br h ⟨fun hp => g.2 (e.mp hp), fun hp => g.1 (Classical.byContradiction fun z => hp (e.mpr z))⟩
theorem xq_wp.aldN {len b c a0 a n : Nat} {i : Int32} {r : List Value} {j : Nat} (e : i = nI j) (hc : xq_code m pc = some (.iaload, len, a0, b, c)) (hk : (decide (a < xq_tB) && decide (a < xq_N x) && decide ((xq_K x a).1 = 100) && decide ((xq_K x a).2 ≤ 2147483648)) = true) (hn : (xq_K x a).2 = n) (g : j < n ∧ xq_wp d m x (pc + 1) L (.int (xq_I x a j) :: r) Q) : xq_wp d m x pc L (.int i :: .ref a :: r) Q := by
  rw [Bool.and_eq_true, decide_eq_true_eq] at hk
  have hj := g.1
  have hk2 := hk.2
  rw [hn] at hk2
  refine xq_wp.ald hc hk.1 hn ⟨by rw [e]; exact xn_in hj hk2, ?_⟩
  rw [e, nI_clamp (show j < 2 ^ 31 by omega)]
  exact g.2
theorem xq_wp.astN {len b c a0 a n : Nat} {i v : Int32} {r : List Value} {j : Nat} (e : i = nI j) (hc : xq_code m pc = some (.iastore, len, a0, b, c)) (hk : (decide (a < xq_N x) && decide ((xq_K x a).1 = 100) && decide ((xq_K x a).2 ≤ 2147483648)) = true) (hn : (xq_K x a).2 = n) (g : j < n ∧ xq_wp d m (x.1, x.2.1, xq_w x.2.2 a j v) (pc + 1) L r Q) : xq_wp d m x pc L (.int v :: .int i :: .ref a :: r) Q := by
  rw [Bool.and_eq_true, decide_eq_true_eq] at hk
  have hj := g.1
  have hk2 := hk.2
  rw [hn] at hk2
  refine xq_wp.ast hc hk.1 hn ⟨by rw [e]; exact xn_in hj hk2, ?_⟩
  rw [e, nI_clamp (show j < 2 ^ 31 by omega)]
  exact g.2
end xq_nats
