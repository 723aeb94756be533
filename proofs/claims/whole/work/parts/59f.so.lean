/-! soonest: the class's answer -/
/-- the best so far, as the class keeps it -/
def cO (n : Nat) (t : Int32 × List Nat) (I : Nat → xw) : Prop := I 34 5 = t.1 ∧ (t.1 = Int32.ofInt (-1) ∨ ∃ j, j ≤ 19500 ∧ t.1 = nI j) ∧ (¬ t.1 = Int32.ofInt (-1) → ∀ k, k < n → I 45 k = nI (t.2.getD k 0))
def soF (I I' : Nat → xw) : Prop := (∀ a, ¬ a = 34 → ¬ a = 44 → ¬ a = 45 → I' a = I a) ∧ (∀ j, ¬ j = 4 → ¬ j = 5 → I' 34 j = I 34 j)
section yk_so2
variable {d : Nat} {g : xq_V} {J : Nat → Nat → Int64} {I I0 I' : Nat → Nat → Int32} {Q : Option Value → xq_S → Prop} {n ns c : Nat} {R R' : Nat → xw} {W W' : xw} {l : List Nat} {t : Int32 × List Nat}
theorem soF_44 (h : soF I0 I) (e : ∀ a, ¬ a = 44 → I' a = I a) : soF I0 I' := ⟨fun a h1 h2 h3 => (e a h2).trans (h.1 a h1 h2 h3), fun j j1 j2 => by rw [e 34 (by omega)]; exact h.2 j j1 j2⟩
theorem soF_45 (h : soF I0 I) (e : ∀ a, ¬ a = 45 → I' a = I a) : soF I0 I' := ⟨fun a h1 h2 h3 => (e a h3).trans (h.1 a h1 h2 h3), fun j j1 j2 => by rw [e 34 (by omega)]; exact h.2 j j1 j2⟩
theorem soF_34 {v : Int32} (h : soF I0 I) : soF I0 (xq_w I 34 5 v) := ⟨fun a h1 h2 h3 => by rw [xw_i h1]; exact h.1 a h1 h2 h3, fun j j1 j2 => by rw [xw_x j2]; exact h.2 j j1 j2⟩
theorem soF_CR (h : soF I0 I) (hC : CR true n ns I0 (xcR true I0) W) : CR true n ns I (xcR true I) W := CR_cells hC (fun a ha => h.1 a (by omega) (by omega) (by omega)) (by rw [h.1 32 (by omega) (by omega) (by omega)])
theorem CR_so (ho : ok n ns W) (h : CR false n ns I R (th_0 W)) (eR : ∀ a, ¬ a = 3 → R' a = R a) (e3 : ∀ k, k < n → R' 3 k = nI (l.getD k 0)) : CR false n ns I R' (thO n W l) :=
  CR_ord (ok_0 ho) h eR (fun p hp => thO_o hp) (fun i hi => by rw [e3 i hi, thO_i hi])
theorem snS_st {r : List Nat} (h : th_close n (Int32.ofInt (-1)) 0 (thO n W (r ++ laN W n)) = Int32.ofInt (-1) ∨ (¬ t.1 = Int32.ofInt (-1) ∧ ¬ th_close n (Int32.ofInt (-1)) 0 (thO n W (r ++ laN W n)) < t.1)) : snS n W t r = t := by rw [snS, if_pos h]
theorem snS_ch {r : List Nat} (h : ¬ (th_close n (Int32.ofInt (-1)) 0 (thO n W (r ++ laN W n)) = Int32.ofInt (-1) ∨ (¬ t.1 = Int32.ofInt (-1) ∧ ¬ th_close n (Int32.ofInt (-1)) 0 (thO n W (r ++ laN W n)) < t.1))) : snS n W t r = (th_close n (Int32.ofInt (-1)) 0 (thO n W (r ++ laN W n)), r ++ laN W n) := by rw [snS, if_neg h]
/-- one order is tried -/
theorem yl_123_66 {i : Nat} {u4 : Value} (ho : ok n ns W) (hw : thw W) (hC : CR true n ns I0 (xcR true I0) W) (hr : l.Perm (flN W n)) (h6 : l.length ≤ 6) (hf : fR l (I 44)) (hF : soF I0 I) (hO : cO n t I) (h : CR false n ns I R (thO n W (l ++ laN W n))) (h10 : R 9 10 = Int32.ofInt (-1)) (hp : ∀ (I' R' : Nat → xw) (u4 : Value), soF I0 I' → I' 44 = I 44 → I' 34 4 = I 34 4 → cO n (snS n W t l) I' → tk R' → R' 9 10 = Int32.ofInt (-1) → xq_wp (d + 5) 126 (xq_s g J (xc false I' R')) 0 [.ref 34, .int (nI l.length), xq_un, xq_un, xq_un] [] (fun v x1 => xq_wp (d + 6) 123 x1 120 [.ref 34, .int (nI l.length), .int (nI 1), .int (nI i), u4] (v.toList ++ []) Q)) : xq_wp (d + 6) 123 (xq_s g J (xc false I R)) 66 [.ref 34, .int (nI l.length), .int (nI 1), .int (nI i), u4] [] Q := by
  have n14 := ho.1.2.1
  have ho1 := so_ok ho hr
  have hw1 := so_thw (n := n) (l := l ++ laN W n) hw
  have cv := th_close_val (blk := Int32.ofInt (-1)) (idle := 0) ho1 hw1
  obtain ⟨o1, o2, o3⟩ := hO
  have hCI := soF_CR hF hC
  have e0 : I 2 0 = nI n := (CR_G hCI).1.trans ho.1.1
  have e3 : ∀ i, i < n → I 21 i = W (30 + i) := CR_3 hCI
  have e4 : ∀ b, b < n → I 22 b = W (50 + 14 * b + 4) := CR_4 hCI
  have hst := snS_st (n := n) (W := W) (t := t) (r := l)
  have hch := snS_ch (n := n) (W := W) (t := t) (r := l)
  have lb := lim_big (blk := Int32.ofInt (-1)) (idle := 0) ho1 hw1
  have bls : ∀ wk, (∃ j, j ≤ 19500 ∧ wk = nI j) → th_by n (Int32.ofInt (-1)) 0 (wk - nI 1) (thO n W (l ++ laN W n)) = if th_close n (Int32.ofInt (-1)) 0 (thO n W (l ++ laN W n)) = Int32.ofInt (-1) ∨ ¬ th_close n (Int32.ofInt (-1)) 0 (thO n W (l ++ laN W n)) < wk then Int32.ofInt (-1) else th_close n (Int32.ofInt (-1)) 0 (thO n W (l ++ laN W n)) := fun wk hwk => by_less ho1 hw1 hwk
  have kp : ∀ (R2 : Nat → xw) (u : Value), tk R2 → R2 9 10 = Int32.ofInt (-1) → (th_close n (Int32.ofInt (-1)) 0 (thO n W (l ++ laN W n)) = Int32.ofInt (-1) ∨ (¬ t.1 = Int32.ofInt (-1) ∧ ¬ th_close n (Int32.ofInt (-1)) 0 (thO n W (l ++ laN W n)) < t.1)) → xq_wp (d + 5) 126 (xq_s g J (xc false I R2)) 0 [.ref 34, .int (nI l.length), xq_un, xq_un, xq_un] [] (fun v x1 => xq_wp (d + 6) 123 x1 120 [.ref 34, .int (nI l.length), .int (nI 1), .int (nI i), u] (v.toList ++ []) Q) := fun R2 u t2 q2 y => hp I R2 u hF rfl rfl (by rw [hst y]; exact ⟨o1, o2, o3⟩) t2 q2
  have nw : ∀ (R2 : Nat → xw) (u : Value), tk R2 → R2 9 10 = Int32.ofInt (-1) → ¬ (th_close n (Int32.ofInt (-1)) 0 (thO n W (l ++ laN W n)) = Int32.ofInt (-1) ∨ (¬ t.1 = Int32.ofInt (-1) ∧ ¬ th_close n (Int32.ofInt (-1)) 0 (thO n W (l ++ laN W n)) < t.1)) → xq_wp (d + 5) 125 (xq_s g J (xc false (xq_w I 34 5 (th_close n (Int32.ofInt (-1)) 0 (thO n W (l ++ laN W n)))) R2)) 0 [.ref 34, .ref 45, .int (nI l.length), xq_un, xq_un, xq_un] [] (fun v x1 => xq_wp (d + 6) 123 x1 115 [.ref 34, .int (nI l.length), .int (nI 1), .int (nI i), u] (v.toList ++ []) Q) := fun R2 u t2 q2 y => by
    refine yl_125_45 (W := W) ho (by rw [xw_i (by omega)]; exact e0) (fun i hi => by rw [xw_i (by omega)]; exact e3 i hi) (fun b hb => by rw [xw_i (by omega)]; exact e4 b hb) hr.length_eq h6 (by rw [xw_i (by omega)]; exact hf) (fun V v1 v2 => yo_123_115 (d := d + 5) (hp V R2 u ?_ ?_ ?_ ?_ t2 q2))
    · exact soF_45 (soF_34 hF) v1
    · rw [v1 44 (by omega), xw_i (by omega)]
    · rw [v1 34 (by omega), xw_x (by omega)]
    · rw [hch y]
      exact ⟨by rw [v1 34 (by omega), xw_v], cv, fun _ => v2⟩
  refine yo_123_66 (d := d + 5) ⟨fun z => ?_, fun z => ?_⟩
  · rw [o1] at z
    refine yl_by0 (d := d) ho1 h hw1 h10 (fun R2 t2 q2 => ?_)
    rw [lb]
    refine yo_123_92 (d := d + 5) ⟨fun y => kp R2 _ t2 q2 (Or.inl y), fun y => nw R2 _ t2 q2 (fun q => q.elim y (fun q => q.1 z))⟩
  · rw [o1] at z ⊢
    refine yl_by0 (d := d) ho1 h hw1 h10 (fun R2 t2 q2 => ?_)
    rw [bls _ (o2.resolve_left z)]
    by_cases q : th_close n (Int32.ofInt (-1)) 0 (thO n W (l ++ laN W n)) = Int32.ofInt (-1) ∨ ¬ th_close n (Int32.ofInt (-1)) 0 (thO n W (l ++ laN W n)) < t.1
    · rw [if_pos q]
      exact yo_123_92 (d := d + 5) ⟨fun y => kp R2 _ t2 q2 (q.imp id (fun q => ⟨z, q⟩)), fun y => absurd rfl y⟩
    · rw [if_neg q]
      exact yo_123_92 (d := d + 5) ⟨fun y => absurd (Or.inl y) q, fun y => nw R2 _ t2 q2 (fun q2 => q (q2.imp id (fun q2 => q2.2)))⟩
theorem yl_123_39 (ho : ok n ns W) (hw : thw W) (hC : CR true n ns I0 (xcR true I0) W) (h1 : 1 ≤ c) (h6 : c ≤ 6) : ∀ (s i : Nat) (l : List Nat) (t : Int32 × List Nat) (I R : Nat → xw) (u4 : Value), i + s = 720 → l.length = c → (∀ l' ∈ nxA c s l, l'.Perm (flN W n)) → fR l (I 44) → soF I0 I → I 34 4 = nI 1 → cO n t I → tk R → R 9 10 = Int32.ofInt (-1) → (∀ I' R' : Nat → xw, soF I0 I' → I' 34 4 = nI 1 → cO n ((nxA c s l).foldl (snS n W) t) I' → tk R' → R' 9 10 = Int32.ofInt (-1) → Q (some (.int ((nxA c s l).foldl (snS n W) t).1)) (xq_s g J (xc false I' R'))) → xq_wp (d + 6) 123 (xq_s g J (xc false I R)) 39 [.ref 34, .int (nI c), .int (nI 1), .int (nI i), u4] [] Q := by
  have n14 := ho.1.2.1
  intro s
  induction s with
  | zero =>
    intro i l t I R u4 e hl hpm hf hF h34 hO htk h10 hp
    refine yo_123_39 (d := d + 3) (n := n) (ns := ns) (W := W) ⟨by omega, fun z => by omega, fun _ => ?_⟩
    rw [hO.1]
    exact hp I R hF h34 hO htk h10
  | succ s ih =>
    intro i l t I R u4 e hl hpm hf hF h34 hO htk h10 hp
    have hr : l.Perm (flN W n) := hpm l (by rw [nxA]; exact List.mem_cons_self)
    have hCI := soF_CR hF hC
    have e0 : I 2 0 = nI n := (CR_G hCI).1.trans ho.1.1
    have hb : bd l := fun k hk => by
      rw [gD hk]
      have := hr.mem_iff.mp (List.getElem_mem hk)
      rw [flN_eq, List.mem_filter, List.mem_range] at this
      omega
    subst hl
    refine yo_123_39 (d := d + 3) (n := n) (ns := ns) (W := W) ⟨by omega, fun _ => ⟨ho, hCI, htk, fun R1 C1 r9 r1 => ?_⟩, fun z => by omega⟩
    refine yl_125_38 (W := W) ho e0 (CR_3 hCI) (CR_4 hCI) hr.length_eq h6 hf (fun R2 v1 v2 => ?_)
    refine yl_123_66 (d := d) (t := t) (W := W) ho hw hC hr h6 hf hF hO (CR_so ho C1 v1 v2) (by rw [v1 9 (by omega), r1 10 (by omega)]; exact h10) (fun I3 R3 u3 F3 e44 e34 O3 t3 q3 => ?_)
    refine yl_126 (d := d + 4) (l := l) rfl h1 h6 hb (by rw [e44]; exact hf) (fun y => ?_) (fun l2 y I4 f4 f44 => ?_)
    · have en : nxA l.length (s + 1) l = [l] := by rw [nxA, y]
      rw [en, List.foldl_cons, List.foldl_nil] at hp
      have fin := hp I3 R3 F3 (e34.trans h34) O3 t3 q3
      refine yo_123_120_0 (d := d + 6) (yo_123_39_0 (d := d + 6) ⟨by omega, fun _ => ?_, fun _ => ?_⟩)
      · rw [O3.1]; exact fin
      · rw [O3.1]; exact fin
    · have en : nxA l.length (s + 1) l = l :: nxA l.length s l2 := by rw [nxA, y]
      rw [en, List.foldl_cons] at hp
      refine yo_123_120_1 (d := d + 6) ?_
      have hl2 : s = 0 ∨ l2.length = l.length := by
        rcases Nat.eq_zero_or_pos s with q | q
        · exact Or.inl q
        · right
          have : l2.Perm (flN W n) := hpm l2 (by
            rw [en]
            obtain ⟨s', rfl⟩ : ∃ s', s = s' + 1 := ⟨s - 1, by omega⟩
            rw [nxA]
            exact List.mem_cons_of_mem _ List.mem_cons_self)
          rw [this.length_eq, hr.length_eq]
      have O4 : cO n (snS n W t l) I4 := ⟨by rw [f4 34 (by omega)]; exact O3.1, O3.2.1, fun y => by rw [f4 45 (by omega)]; exact O3.2.2 y⟩
      rcases hl2 with q | q
      · subst q
        refine yo_123_39 (d := d + 3) (n := n) (ns := ns) (W := W) ⟨by omega, fun z => by omega, fun _ => ?_⟩
        rw [O4.1]
        exact hp I4 R3 (soF_44 F3 f4) (by rw [f4 34 (by omega), e34]; exact h34) O4 t3 q3
      · exact ih (i + 1) l2 _ I4 R3 _ (by omega) q (fun l' hl' => hpm l' (by rw [en]; exact List.mem_cons_of_mem _ hl')) f44 (soF_44 F3 f4) (by rw [f4 34 (by omega), e34]; exact h34) O4 t3 q3 hp
theorem yl_123 (ho : ok n ns W) (hw : thw W) (hC : CR true n ns I (xcR true I) W) (htk : tk R) (h10 : R 9 10 = Int32.ofInt (-1)) (hS : I 34 4 = nI 0 ∨ (I 34 4 = nI 1 ∧ I 34 5 = (sn n W).1 ∧ (¬ (sn n W).1 = Int32.ofInt (-1) → ∀ k, k < n → I 45 k = nI ((sn n W).2.getD k 0)))) (hp : ∀ I' R' : Nat → xw, soF I I' → I' 34 4 = nI 1 → I' 34 5 = (sn n W).1 → (¬ (sn n W).1 = Int32.ofInt (-1) → ∀ k, k < n → I' 45 k = nI ((sn n W).2.getD k 0)) → tk R' → R' 9 10 = Int32.ofInt (-1) → Q (some (.int (sn n W).1)) (xq_s g J (xc false I' R'))) : xq_wp (d + 6) 123 (xq_s g J (xc false I R)) 0 [.ref 34, xq_un, xq_un, xq_un, xq_un] [] Q := by
  have n14 := ho.1.2.1
  have s0 : soF I I := ⟨fun _ _ _ _ => rfl, fun _ _ _ => rfl⟩
  refine yo_123 (d := d + 5) ⟨fun z => ?_, fun z => ?_⟩
  · have e0 : I 2 0 = nI n := (CR_G hC).1.trans ho.1.1
    have e4 : ∀ b, b < n → I 22 b = W (50 + 14 * b + 4) := CR_4 hC
    have sF : soF I (xq_w (xq_w I 34 4 (nI 1)) 34 5 (Int32.ofInt (-1))) := ⟨fun a h1 h2 h3 => by rw [xw_i h1, xw_i h1], fun j j1 j2 => by rw [xw_x j2, xw_x j1]⟩
    have i4 : xq_w (xq_w I 34 4 (nI 1)) 34 5 (Int32.ofInt (-1)) 34 4 = nI 1 := by rw [xw_x (by omega), xw_v]
    have i5 : xq_w (xq_w I 34 4 (nI 1)) 34 5 (Int32.ofInt (-1)) 34 5 = Int32.ofInt (-1) := xw_v
    generalize xq_w (xq_w I 34 4 (nI 1)) 34 5 (Int32.ofInt (-1)) = I1 at *
    have no : ¬ (1 ≤ (flN W n).length ∧ (flN W n).length ≤ 6) → ∀ I2 : Nat → xw, (∀ a, ¬ a = 44 → I2 a = I1 a) → xq_wp (d + 5 + 1) 123 (xq_s g J (xc false I2 R)) 26 [.ref 34, xq_un, xq_un, xq_un, xq_un] [.int (nI 0)] Q := fun q I2 f2 => by
      have e1 := sn_no q
      refine yo_123_26 (d := d + 6) ⟨by omega, fun y => by omega, fun _ => yo_123_39_0 (d := d + 6) ⟨by omega, fun _ => ?_, fun y => absurd (by omega) y⟩⟩
      have := hp I2 R (soF_44 sF f2) (by rw [f2 34 (by omega)]; exact i4) (by rw [f2 34 (by omega), e1]; exact i5) (fun y => absurd e1 y) htk h10
      rw [f2 34 (by omega), i5]
      rw [e1] at this
      exact this
    refine xq_wp.go (k := 4) (fun F => rfl) ?_
    refine yl_124_4 (W := W) (I := I1) n14 (by rw [sF.1 2 (by omega) (by omega) (by omega)]; exact e0) (fun b hb => by rw [sF.1 22 (by omega) (by omega) (by omega)]; exact e4 b hb) (fun q I2 f2 => no (by omega) I2 f2) (fun q I2 f2 f44 => ?_) n 0 I1 (by omega) (by simp [flN]) (fun _ _ => rfl) (fun k hk => absurd hk (by simp [flN]))
    by_cases y : 1 ≤ (flN W n).length
    · refine yo_123_26 (d := d + 6) ⟨by omega, fun _ => ?_, fun z => absurd y z⟩
      have ea := nx_all (fl_sorted (W := W) (n := n)) y q
      have key := yl_123_39 (d := d) (g := g) (J := J) (Q := Q) (I0 := I) ho hw hC y q 720 0 (flN W n) (Int32.ofInt (-1), []) I2 R xq_un (by omega) rfl (fun l' hl' => by rw [ea] at hl'; exact pm_perm _ _ rfl l' hl') f44 (soF_44 sF f2) (by rw [f2 34 (by omega)]; exact i4) ⟨by rw [f2 34 (by omega)]; exact i5, Or.inl rfl, fun y => absurd rfl y⟩ htk h10
      rw [ea, ← sn_fold rfl y q] at key
      exact key (fun I3 R3 F3 e34 O3 t3 q3 => hp I3 R3 F3 e34 O3.1 O3.2.2 t3 q3)
    · have := no (by omega) I2 f2
      rw [show (flN W n).length = 0 by omega]
      exact this
  · rcases hS with q | ⟨q1, q2, q3⟩
    · exact absurd q z
    · have := hp I R s0 q1 q2 q3 htk h10
      rw [q2]
      exact this
/-- soonest -/
theorem P16 : xq_P16 126 Inv := by
  intro z
  refine pair_of (fun g J I hi => ?_)
  obtain ⟨n, ns, ⟨ho, hw, hbk, hC, h32, h29⟩, ⟨htk, h10⟩, hPl, hRd, hS, hH, hK, hJ⟩ := hi
  have hw' := w9_th hw
  have n14 := ho.1.2.1
  have e0 : xq_s g J I = xq_s g J (xc false I (xcR false I)) := by rw [← xc_self]
  have e20 : I 2 0 = nI n := (CR_G hC).1.trans ho.1.1
  -- what is left behind: the cache
  have fin : ∀ (I1 R1 : Nat → xw), soF I I1 → (I1 = I ∨ (I1 34 4 = nI 1 ∧ I1 34 5 = (sn n (I 127)).1 ∧ (¬ (sn n (I 127)).1 = Int32.ofInt (-1) → ∀ k, k < n → I1 45 k = nI ((sn n (I 127)).2.getD k 0)))) → tk R1 → R1 9 10 = Int32.ofInt (-1) → xq_wp 90 255 (xq_s g J (xc false I1 R1)) 0 ((.ref 126 :: [.int z]) ++ List.replicate ((xq_mn 255).2.2.1 - ([Value.int z].length + 1)) xq_un) [] (fun v2 x2 => v2 = some (.int (snV n (I 127) z)) ∧ Inv x2) := by
    intro I1 R1 hF hc t1 q1
    have o : ∀ a, ¬ a = 34 → ¬ a = 44 → ¬ a = 45 → I1 a = I a := hF.1
    have hi1 : iv g I1 := by
      refine ⟨n, ns, ⟨?_, ?_, ?_, ?_, ?_, ?_⟩, ⟨?_, ?_⟩, ?_, ?_, ?_, ?_, ?_, hJ⟩
      · rw [o 127 (by omega) (by omega) (by omega)]; exact ho
      · rw [o 127 (by omega) (by omega) (by omega)]; exact hw
      · rw [o 127 (by omega) (by omega) (by omega)]; exact hbk
      · rw [o 127 (by omega) (by omega) (by omega)]; exact soF_CR hF hC
      · rw [o 32 (by omega) (by omega) (by omega)]; exact h32
      · rw [o 126 (by omega) (by omega) (by omega)]; exact h29
      · have a1 : xcR false I1 9 = xcR false I 9 := o 46 (by omega) (by omega) (by omega)
        have a2 : xcR false I1 11 = xcR false I 11 := o 47 (by omega) (by omega) (by omega)
        unfold tk at htk ⊢
        rw [a1, a2]; exact htk
      · rw [o 46 (by omega) (by omega) (by omega)]; exact h10
      · unfold ivP at hPl ⊢
        rw [o 14 (by omega) (by omega) (by omega), o 15 (by omega) (by omega) (by omega), o 16 (by omega) (by omega) (by omega), o 17 (by omega) (by omega) (by omega), o 127 (by omega) (by omega) (by omega)]; exact hPl
      · unfold ivR at hRd ⊢
        rw [o 104 (by omega) (by omega) (by omega), o 105 (by omega) (by omega) (by omega), o 126 (by omega) (by omega) (by omega), o 135 (by omega) (by omega) (by omega)]; exact hRd
      · unfold ivS
        rw [o 127 (by omega) (by omega) (by omega)]
        rcases hc with q | q
        · rw [q]; exact hS
        · exact Or.inr q
      · exact ivH_fr n14 hH (fun a ha => o a (by omega) (by omega) (by omega)) (by rw [o 126 (by omega) (by omega) (by omega)]) (by rw [o 127 (by omega) (by omega) (by omega)]; exact Nat.le_refl _)
      · exact ivK_fr2 hK (o 128 (by omega) (by omega) (by omega)) (fun a ha => o a (by omega) (by omega) (by omega)) (by rw [o 126 (by omega) (by omega) (by omega)]) (by rw [o 32 (by omega) (by omega) (by omega)])
    have e1 : xq_s g J (xc false I1 R1) = xq_s g J (xt (xc false I1 R1) (I1 126) (I1 127) (I1 136) (I1 137) (I1 138) (I1 130) (I1 139) (I1 140)) := congrArg (xq_s g J) md_eq
    rw [e1]
    have e127 := o 127 (by omega) (by omega) (by omega)
    refine xl_255 (d := 75) (n := n) (ns := ns) (by rw [e127]; exact ho) (by rw [o 126 (by omega) (by omega) (by omega)]; exact h29) (by rw [e127]; exact hw') (fun A' P' F' N' Y' X' B' eA => ⟨by rw [e127], g, J, _, rfl, iv_th hi1 t1 q1 (fun j hj => eA j (by omega) (by omega))⟩)
  have s0 : soF I I := ⟨fun _ _ _ _ => rfl, fun _ _ _ => rfl⟩
  have bad : snV n (I 127) z = Int32.ofInt (-1) → ∃ (w : Value) (g1 : xq_V) (J1 : Nat → Nat → Int64) (I1 : Nat → xw), (some (Value.int (Int32.ofInt (-1)))) = some w ∧ (xq_s g J (xc false I (xcR false I))) = xq_s g1 J1 I1 ∧ xq_isI w ∧ xq_wp 90 255 (xq_s g1 J1 I1) 0 ((.ref 126 :: [.int z]) ++ List.replicate ((xq_mn 255).2.2.1 - ([Value.int z].length + 1)) xq_un) [] (fun v2 x2 => v2 = some w ∧ Inv x2) := fun e => by
    have := fin I (xcR false I) s0 (Or.inl rfl) htk h10
    rw [e] at this
    exact ⟨_, g, J, _, rfl, rfl, ⟨_, rfl⟩, this⟩
  rw [e0]
  have run : ∀ pl : Int32, (z = nI 0 ∨ (¬ z = nI 0 ∧ ¬ z < nI 10 ∧ ¬ nI (9 + n) < z ∧ pl = z - nI 10)) → xq_wp (83 + 6) 123 (xq_s g J (xc false I (xcR false I))) 0 [.ref 34, xq_un, xq_un, xq_un, xq_un] [] (fun v x1 => xq_wp (83 + 6 + 1) 122 x1 46 [.ref 0, .int z, .int pl, xq_un] (v.toList ++ []) (fun v x1 => ∃ (w : Value) (g1 : xq_V) (J1 : Nat → Nat → Int64) (I1 : Nat → xw), v = some w ∧ x1 = xq_s g1 J1 I1 ∧ xq_isI w ∧ xq_wp 90 255 (xq_s g1 J1 I1) 0 ((.ref 126 :: [.int z]) ++ List.replicate ((xq_mn 255).2.2.1 - ([Value.int z].length + 1)) xq_un) [] (fun v2 x2 => v2 = some w ∧ Inv x2))) := by
    intro pl hz
    refine yl_123 (d := 83) ho hw' hC htk h10 hS (fun I1 R1 F1 e34 e35 e45 t1 q1 => ?_)
    have f := fin I1 R1 F1 (Or.inr ⟨e34, e35, e45⟩) t1 q1
    have hv : snV n (I 127) z = snV n (I 127) z := rfl
    conv at hv => rhs; unfold snV
    refine yo_122_46 (d := 90) ⟨fun y => ?_, fun y => ⟨fun y2 => ?_, fun y2 => ?_⟩⟩
    · have : snV n (I 127) z = Int32.ofInt (-1) := by
        rw [hv]
        rcases hz with h | ⟨h1, h2, h3, h4⟩
        · rw [if_pos h]; exact y
        · rw [if_neg h1, if_neg (fun q => q.elim h2 h3), if_pos y]
      rw [this] at f
      exact ⟨_, g, J, _, rfl, rfl, ⟨_, rfl⟩, f⟩
    · rw [if_pos y2] at hv
      rw [hv] at f
      exact ⟨_, g, J, _, rfl, rfl, ⟨_, rfl⟩, f⟩
    · rcases hz with h | ⟨h1, h2, h3, h4⟩
      · exact absurd h y2
      · rw [if_neg h1, if_neg (fun q => q.elim h2 h3), if_neg y] at hv
        have hk : ∃ k, k < n ∧ z = nI (10 + k) := by
          have a := mt Int32.lt_iff_toInt_lt.mpr h2
          have c := mt Int32.lt_iff_toInt_lt.mpr h3
          rw [nI_toInt (by omega)] at a c
          refine ⟨z.toInt.toNat - 10, by omega, Int32.toInt_inj.mp ?_⟩
          rw [nI_toInt (by omega)]
          omega
        obtain ⟨k, hk, ek⟩ := hk
        have e10 : z - nI 10 = nI k := by rw [ek, pk_sub (by omega), show 10 + k - 10 = k by omega]
        rw [e10, nI_clamp (by omega)] at hv
        rw [h4, e10, nI_clamp (by omega)]
        refine ⟨xn_in (by omega) (by omega), ?_⟩
        rw [hv] at f
        rw [e45 y k hk]
        exact ⟨_, g, J, _, rfl, rfl, ⟨_, rfl⟩, f⟩
  have s10 : ¬ z < nI 10 → ¬ z - nI 10 < nI 0 ∧ (z - nI 10 < nI n ↔ ¬ nI (9 + n) < z) := fun q => by
    have a := mt Int32.lt_iff_toInt_lt.mpr q
    rw [nI_toInt (by omega)] at a
    have hz2 := Int32.toInt_lt z
    have es : (z - nI 10).toInt = z.toInt - 10 := by
      rw [Int32.toInt_sub, nI_toInt (by omega)]
      exact Int.bmod_eq_of_le (by omega) (by omega)
    refine ⟨?_, ?_⟩
    · rw [Int32.lt_iff_toInt_lt, es, nI_toInt (by omega)]; omega
    · rw [Int32.lt_iff_toInt_lt, Int32.lt_iff_toInt_lt, es, nI_toInt (by omega), nI_toInt (by omega)]; omega
  have z0 : z = nI 0 → z < nI 10 := fun q => by rw [q]; decide
  refine yo_122 (d := 89) (n := 0) ⟨fun y => ⟨fun y2 => run _ (Or.inl y2), fun y2 => bad ?_⟩, fun y => ⟨fun y2 => absurd (z0 y2) y, fun y2 => ⟨fun y3 => absurd y3 (s10 y).1, fun _ => ⟨fun y3 => run _ (Or.inr ⟨y2, y, ?_, rfl⟩), fun y3 => bad ?_⟩⟩⟩⟩
  · rw [snV, if_neg y2, if_pos (Or.inl y)]
  · rw [e20] at y3; exact (s10 y).2.mp y3
  · rw [e20] at y3
    rw [snV, if_neg y2, if_pos (Or.inr (Classical.byContradiction fun q => y3 ((s10 y).2.mpr q)))]
end yk_so2
