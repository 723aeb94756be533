/-! soonest: the lists of those that are laid and those that are not -/
def ldB (W : xw) (b : Nat) : Bool := decide (W (50 + 14 * b + 4) = nI 4)
section xk_fl
variable {n ns : Nat} {W : xw}
theorem flN_eq : ∀ c, flN W c = (List.range c).filter (fun b => !ldB W b) := by
  intro c
  induction c with
  | zero => rfl
  | succ c ih =>
    rw [flN, ih, List.range_succ, List.filter_append, List.filter_cons, ldB]
    by_cases h : W (50 + 14 * c + 4) = nI 4
    · rw [if_pos h, decide_eq_true h]; rfl
    · rw [if_neg h, decide_eq_false h]; rfl
theorem laN_eq : ∀ c, laN W c = ((List.range c).map (fun i => sp_ix W (30 + i))).filter (fun b => ldB W b) := by
  intro c
  induction c with
  | zero => rfl
  | succ c ih =>
    rw [laN, ih, List.range_succ, List.map_append, List.filter_append, List.map_cons, List.filter_cons, ldB]
    by_cases h : W (50 + 14 * sp_ix W (30 + c) + 4) = nI 4
    · rw [if_pos h, decide_eq_true h]; rfl
    · rw [if_neg h, decide_eq_false h]; rfl
theorem lsN_bit : ∀ (c x : Nat), (lsN W c).testBit x = (decide (x < c) && ldB W x) := by
  intro c
  induction c with
  | zero => intro x; rw [lsN, Nat.zero_testBit]; simp
  | succ c ih =>
    intro x
    rw [lsN]
    have hl := lsN_lt (W := W) c
    by_cases h : W (50 + 14 * c + 4) = nI 4
    · have e : lsN W c + 2 ^ c = 2 ^ c ||| lsN W c := by
        have := Nat.two_pow_add_eq_or_of_lt hl 1
        rw [Nat.mul_one] at this
        rw [← this, Nat.add_comm]
      rw [if_pos h, e, Nat.testBit_or, Nat.testBit_two_pow, ih]
      by_cases q : c = x
      · subst q
        have : ldB W c = true := decide_eq_true h
        rw [this]; simp
      · rw [decide_eq_false q, Bool.false_or]
        congr 1
        exact decide_eq_decide.mpr (by omega)
    · rw [if_neg h, Nat.add_zero, ih]
      by_cases q : c = x
      · subst q
        have : ldB W c = false := decide_eq_false h
        rw [this]; simp
      · congr 1
        exact decide_eq_decide.mpr (by omega)
theorem fl_bl : bl n ((2 ^ n - 1) ^^^ lsN W n) = flN W n := by
  rw [bl_eq, flN_eq]
  apply List.filter_congr
  intro x hx
  rw [List.mem_range] at hx
  rw [Nat.testBit_xor, Nat.testBit_two_pow_sub_one, lsN_bit, decide_eq_true hx]
  cases ldB W x <;> rfl
theorem or_nd (ho : ok n ns W) : ((List.range n).map (fun i => sp_ix W (30 + i))).Nodup := by
  refine List.pairwise_map.mpr (List.Pairwise.imp_of_mem ?_ List.nodup_range)
  intro a b ha hb hab e
  rw [List.mem_range] at ha hb
  obtain ⟨x, hx, ex, ix⟩ := ok_or ho ha
  obtain ⟨y, hy, ey, iy⟩ := ok_or ho hb
  have e2 : x = y := by rw [← ix, ← iy]; exact e
  exact hab (ho.2.2.2.1.2 a b ha hb (by rw [ex, ey, e2]))
theorem or_lt (ho : ok n ns W) : ∀ x ∈ (List.range n).map (fun i => sp_ix W (30 + i)), x < n := by
  intro x hx
  rw [List.mem_map] at hx
  obtain ⟨i, hi, e⟩ := hx
  rw [List.mem_range] at hi
  obtain ⟨b, hb, eb, ib⟩ := ok_or ho hi
  omega
theorem la_perm (ho : ok n ns W) : (laN W n).Perm ((List.range n).filter (fun b => ldB W b)) := by
  rw [laN_eq]
  exact (ls_perm n _ (or_nd ho) (or_lt ho) (by rw [List.length_map, List.length_range])).filter _
theorem fl_la (ho : ok n ns W) : (flN W n).length + (laN W n).length = n := by
  have h1 := (la_perm ho).length_eq
  have h2 := ls_split (p := fun b => ldB W b) (List.range n)
  rw [List.length_range] at h2
  rw [h1, flN_eq]
  omega
theorem fl_lm (ho : ok n ns W) : (flN W n).length = n - lmN W n := by
  have h : ∀ c, (flN W c).length + lmN W c = c := by
    intro c
    induction c with
    | zero => rfl
    | succ c ih =>
      rw [flN, lmN, List.length_append]
      by_cases h : W (50 + 14 * c + 4) = nI 4
      · rw [if_pos h, if_pos h]; simp only [List.length_nil]; omega
      · rw [if_neg h, if_neg h]; simp only [List.length_cons, List.length_nil]; omega
  have := h n
  omega
theorem so_nd (ho : ok n ns W) {r : List Nat} (hr : r.Perm (flN W n)) : (r ++ laN W n).Nodup := by
  have e1 : (flN W n).Nodup := by rw [flN_eq]; exact List.Pairwise.filter _ List.nodup_range
  have e2 : (laN W n).Nodup := by rw [laN_eq]; exact List.Pairwise.filter _ (or_nd ho)
  rw [List.nodup_append]
  refine ⟨hr.nodup_iff.mpr e1, e2, fun a ha b hb e => ?_⟩
  subst e
  have h1 := hr.mem_iff.mp ha
  rw [flN_eq, List.mem_filter] at h1
  rw [laN_eq, List.mem_filter] at hb
  rw [hb.2] at h1
  exact absurd h1.2 (by decide)
theorem so_lt (ho : ok n ns W) {r : List Nat} (hr : r.Perm (flN W n)) : ∀ x ∈ r ++ laN W n, x < n := by
  intro x hx
  rw [List.mem_append] at hx
  rcases hx with h | h
  · have h1 := hr.mem_iff.mp h
    rw [flN_eq, List.mem_filter, List.mem_range] at h1
    exact h1.1
  · rw [laN_eq, List.mem_filter] at h
    exact or_lt ho x h.1
theorem so_len (ho : ok n ns W) {r : List Nat} (hr : r.Perm (flN W n)) : (r ++ laN W n).length = n := by
  rw [List.length_append, hr.length_eq]; exact fl_la ho
theorem gD {l : List Nat} {i : Nat} (h : i < l.length) : l.getD i 0 = l[i] := by
  rw [List.getD_eq_getElem?_getD, List.getElem?_eq_getElem h]; rfl
theorem nd_inj {l : List Nat} (h : l.Nodup) {i j : Nat} (hi : i < l.length) (hj : j < l.length) (e : l.getD i 0 = l.getD j 0) : i = j := by
  rw [gD hi, gD hj] at e
  have h2 := List.pairwise_iff_getElem.mp h
  rcases Nat.lt_trichotomy i j with q | q | q
  · exact absurd e (h2 i j hi hj q)
  · exact q
  · exact absurd e.symm (h2 j i hj hi q)
theorem thO_o {l : List Nat} {p : Nat} (h : ¬ (30 ≤ p ∧ p < 30 + n)) : thO n W l p = th_0 W p := by rw [thO, if_neg h]
theorem thO_i {l : List Nat} {i : Nat} (h : i < n) : thO n W l (30 + i) = nI (l.getD i 0) := by rw [thO, if_pos (by omega), show 30 + i - 30 = i by omega]
theorem so_ok (ho : ok n ns W) {r : List Nat} (hr : r.Perm (flN W n)) : ok n ns (thO n W (r ++ laN W n)) := by
  have hl := so_len ho hr
  have hlt := so_lt ho hr
  have hnd := so_nd ho hr
  have n14 := ho.1.2.1
  have ns8 := ho.1.2.2.2
  obtain ⟨g1, g2, g3, g4, g5, g6, g7, g8, g9, g10, g11⟩ := ok_0 ho
  have o : ∀ p, ¬ (30 ≤ p ∧ p < 30 + n) → thO n W (r ++ laN W n) p = th_0 W p := fun p hp => thO_o hp
  generalize r ++ laN W n = l at *
  have lt : ∀ i, i < n → l.getD i 0 < n := fun i hi => by
    rw [gD (by omega)]; exact hlt _ (List.getElem_mem _)
  refine ⟨ok1_fr g1 (o _ (by omega)) (o _ (by omega)), okb_fr g2 (o _ (by omega)), ok2_fr g3 (o _ (by omega)), ⟨fun i hi => ⟨l.getD i 0, lt i hi, thO_i hi⟩, fun i j hi hj e => ?_⟩, ok4_fr g5 (fun b hb => o _ (by omega)), ok5_fr g6 (fun b hb => ⟨o _ (by omega), o _ (by omega)⟩), ok6_fr g7 (fun i hi => o _ (by omega)), ok7_fr g8 (fun i hi => o _ (by omega)), ok8_fr g9 (fun b k hb hk => o _ (by omega)), ok9_fr g10 (fun k hk => o _ (by omega)), sp_law_fr g11 (fun p h1 h2 => o _ (by omega))⟩
  rw [thO_i hi, thO_i hj] at e
  have a1 := lt i hi
  have a2 := lt j hj
  exact nd_inj hnd (by omega) (by omega) ((xn_eq (by omega) (by omega)).mp e)
theorem so_thw (hw : thw W) {l : List Nat} : thw (thO n W l) := by
  obtain ⟨k, hk, ek⟩ := hw
  exact ⟨k, hk, by rw [thO_o (by omega), th_0, upd_ne (by omega)]; exact ek⟩
/-- each of all orders is one of the same blocks -/
theorem pm_perm : ∀ (c : Nat) (l : List Nat), l.length = c → ∀ r ∈ pm c l, r.Perm l := by
  intro c
  induction c with
  | zero =>
    intro l h r hr
    rw [List.eq_nil_of_length_eq_zero h]
    rw [pm, List.mem_singleton] at hr
    rw [hr]
  | succ c ih =>
    intro l h r hr
    rw [pm, List.mem_flatMap] at hr
    obtain ⟨b, hb, hr⟩ := hr
    rw [List.mem_map] at hr
    obtain ⟨r2, h2, e⟩ := hr
    rw [← e]
    exact ((ih (l.erase b) (by rw [List.length_erase_of_mem hb]; omega) r2 h2).cons b).trans (List.perm_cons_erase hb).symm
theorem nxA_map {φ : Nat → Nat} {m c : Nat} (hφ : ∀ a b, a < m → b < m → (φ a < φ b ↔ a < b)) : ∀ (t : Nat) (l : List Nat), (∀ l' ∈ nxA c t l, l'.length = c ∧ ∀ i, i < l'.length → l'.getD i 0 < m) → nxA c t (l.map φ) = (nxA c t l).map (fun r => r.map φ) := by
  intro t
  induction t with
  | zero => intro l _; rfl
  | succ t ih =>
    intro l h
    have h0 := h l (by rw [nxA]; exact List.mem_cons_self)
    rw [nxA, nxA, nx_map h0.1 hφ h0.2, List.map_cons]
    congr 1
    rcases e : nx c l with _ | l2
    · rfl
    · exact ih l2 (fun l' hl => h l' (by rw [nxA, e]; exact List.mem_cons_of_mem _ hl))
theorem nx_rg {c : Nat} (h1 : 1 ≤ c) (h6 : c ≤ 6) : nxA c 720 (List.range c) = pm c (List.range c) := by
  obtain ⟨p1, p2, p3, p4, p5, p6⟩ := nx_pm
  have : c = 1 ∨ c = 2 ∨ c = 3 ∨ c = 4 ∨ c = 5 ∨ c = 6 := by omega
  rcases this with e | e | e | e | e | e <;> subst e <;> assumption
theorem map_gD : ∀ l : List Nat, (List.range l.length).map (fun i => l.getD i 0) = l := by
  intro l
  apply List.ext_getElem
  · rw [List.length_map, List.length_range]
  · intro i h1 h2
    rw [List.getElem_map, List.getElem_range, gD h2]
/-- the class's orders are all orders -/
theorem nx_all {l : List Nat} (hs : l.Pairwise (fun a b => a < b)) (h1 : 1 ≤ l.length) (h6 : l.length ≤ 6) : nxA l.length 720 l = pm l.length l := by
  have hφ : ∀ a b, a < l.length → b < l.length → (l.getD a 0 < l.getD b 0 ↔ a < b) := by
    intro a b ha hb
    rw [gD ha, gD hb]
    have h2 := List.pairwise_iff_getElem.mp hs
    refine ⟨fun q => ?_, fun q => h2 a b ha hb q⟩
    rcases Nat.lt_trichotomy a b with z | z | z
    · exact z
    · subst z; omega
    · have := h2 b a hb ha z; omega
  have e := map_gD l
  have p := nx_rg h1 h6
  generalize l.length = c at *
  have hm := nxA_map (φ := fun i => l.getD i 0) (m := c) (c := c) hφ 720 (List.range c) (fun l' hl => by
    rw [p] at hl
    have := pm_perm c (List.range c) List.length_range l' hl
    have e1 : l'.length = c := by rw [this.length_eq, List.length_range]
    refine ⟨e1, fun i hi => ?_⟩
    rw [gD hi]
    exact List.mem_range.mp (this.mem_iff.mp (List.getElem_mem hi)))
  rw [e, p] at hm
  rw [hm]
  have := pm_map (φ := fun i => l.getD i 0) c (List.range c) (fun a b ha hb z => by
    rw [List.mem_range] at ha hb
    have q1 := hφ a b ha hb
    have q2 := hφ b a hb ha
    have z : l.getD a 0 = l.getD b 0 := z
    omega)
  rw [e] at this
  exact this.symm
theorem fl_sorted : (flN W n).Pairwise (fun a b => a < b) := by
  rw [flN_eq]
  exact List.Pairwise.filter _ List.pairwise_lt_range
end xk_fl
