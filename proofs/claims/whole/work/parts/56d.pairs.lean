/-! the pair: planned -/
def pc0 (n : Nat) (W : xw) : Int32 := if 0 < n ∧ lmN W n = n then xq_max (nI 0) (W 2 - nI 1) else Int32.ofInt (-1)
def ps1 (n S : Nat) (W : xw) : xw × Int32 × Int32 := plT false n W S 0 (th_0 W, pc0 n (th_0 W), Int32.ofInt (-1))
def pv1 (n S : Nat) (W : xw) : Int32 := if n = 0 then Int32.ofInt (-1) else if (ps1 n S W).2.1 = Int32.ofInt (-1) then th_close n (Int32.ofInt (-1)) 0 (ps1 n S W).1 else (ps1 n S W).2.1
section xk_p10
variable {d : Nat} {g : xq_V} {J : Nat → Nat → Int64} {I : Nat → Nat → Int32} {Q : Option Value → xq_S → Prop} {n ns S x : Nat} {A W P F N Y X B : xw} {R : Nat → xw}
theorem th0_6 (W : xw) : th_0 W 6 = nI 200 := by rw [th_0, upd_eq]
theorem xl_243t {W0 : xw} {s : xw × Int32 × Int32} (hS : S ≤ 100) (h60 : W0 1960 = nI S) (ho : ok n ns s.1) (e : s.1 2 = nI x) (hx : x + 60 * S ≤ 20000) (h29 : A 29 = Int32.ofInt (-1)) (h32 : A 32 = s.2.1) (hM : ∀ j, 0 ≤ j → j < 0 + S → plM W0 j) (hW : ∀ p, 1075 ≤ p → s.1 p = W0 p) (hp : ∀ A' P' F' N' : xw, (∀ j, ¬ j = 30 → ¬ j = 32 → A' j = A j) → A' 32 = (plT false n W0 S 0 s).2.1 → Q none (xq_s g J (xt I A' (plT false n W0 S 0 s).1 P' F' N' Y X B))) : xq_wp (d + 9) 243 (xq_s g J (xt I A s.1 P F N Y X B)) 0 [.ref 126, .int (nI 0), xq_un] [] Q :=
  xu_243 (q := false) (d := d + 9) (xl_243 (q := false) (d := d) (n := n) (ns := ns) hS h60 S 0 s x A P F N (by omega) ho e hx h29 h32 hM hW hp)
/-- the facts of the plan in thought -/
theorem ps_K (hS : S ≤ 100) (ho : ok n ns W) (e : W 2 = nI x) (x9 : x ≤ 9999) (hM : ∀ j, 0 ≤ j → j < 0 + S → plM W j) : ok n ns (ps1 n S W).1 ∧ thw (ps1 n S W).1 ∧ hiK (th_0 W) (ps1 n S W).1 := by
  have e2 : th_0 W 2 = nI x := (upd_ne (by omega)).trans e
  obtain ⟨t1, t2, t3, t4⟩ := plT_K (q := false) (W0 := W) S 0 (th_0 W, pc0 n (th_0 W), Int32.ofInt (-1)) x (ok_0 ho) e2 (by omega) hM
  have le := wsN_le (S := S) S 0 hM
  exact ⟨t1, ⟨_, by omega, t2⟩, hi_pl S 0 _ x (ok_0 ho) e2 (by omega) hM (th0_6 W)⟩
theorem xl_260 {k : Nat} (hk : k ≤ 1) (hS : S ≤ 100) (h60 : W 1960 = nI S) (ho : ok n ns W) (e : W 2 = nI x) (x9 : x ≤ 9999) (h29 : A 29 = Int32.ofInt (-1)) (hM : ∀ j, 0 ≤ j → j < 0 + S → plM W j) (hp : ∀ (A' P' F' N' Y' : xw), (∀ j, j = 4 ∨ j = 5 ∨ j = 18 ∨ j = 25 ∨ j = 27 ∨ j = 29 → A' j = A j) → Q (some (.int (if k = 0 then nI (lmN (ps1 n S W).1 n) else pv1 n S W))) (xq_s g J (xt I A' W P' F' N' Y' X B))) : xq_wp (d + 12) 260 (xq_s g J (xt I A W P F N Y X B)) 0 [.ref 126, .int (nI k), xq_un] [] Q := by
  have n14 := ho.1.2.1
  have e2 : th_0 W 2 = nI x := (upd_ne (by omega)).trans e
  have hn0 : th_0 W 0 = nI n := (ok_0 ho).1.1
  obtain ⟨k1, k2, k3, k4⟩ := ps_K hS ho e x9 hM
  have lm0 := lmN_le (W := th_0 W) n
  refine xq_260 (d := d + 11) ⟨fun z => absurd ((xn_lt (by omega) (by omega)).mp z) (by omega), fun _ => ⟨fun z => absurd ((xn_lt (by omega) (by omega)).mp z) (by omega), fun _ => xq_260_11 (d := d + 11) (xl_252 (fun Y' hY => ?_))⟩⟩
  have fin : ∀ (A1 W1 P1 F1 N1 : xw) (y : Int32), (∀ j, ¬ j = 30 → ¬ j = 32 → A1 j = A j) → (∀ p, 250 ≤ p → W1 p = W p) → y = (if k = 0 then nI (lmN (ps1 n S W).1 n) else pv1 n S W) → xq_wp (d + 12) 260 (xq_s g J (xt I A1 W1 P1 F1 N1 Y' X B)) 107 [.ref 126, .int (nI k), .int y] [] Q := fun A1 W1 P1 F1 N1 y c1 c2 c3 => by
    refine xq_260_107 (d := d + 11) (xl_254 (Wo := W) hY c2 (xq_260_111 (d := d + 12) ?_))
    rw [c3]
    exact hp _ _ _ _ _ (fun j hj => c1 j (by omega) (by omega))
  have run : ∀ c : Int32, c = pc0 n (th_0 W) → xq_wp (d + 11) 243 (xq_s g J (xt I (upd A 32 c) (th_0 W) P F N Y' X B)) 0 [.ref 126, .int (nI 0), xq_un] [] (fun v x1 => xq_wp (d + 12) 260 x1 62 [.ref 126, .int (nI k), xq_un] (v.toList ++ []) Q) := fun c hc => by
    subst hc
    refine xl_243t (d := d + 2) (n := n) (ns := ns) (x := x) (W0 := W) (s := (th_0 W, pc0 n (th_0 W), Int32.ofInt (-1))) hS h60 (ok_0 ho) e2 (by omega) (by rw [upd_ne (by omega)]; exact h29) upd_eq hM (fun p hp => upd_ne (by omega)) (fun A1 P1 F1 N1 c1 c2 => ?_)
    have cA : ∀ j, ¬ j = 30 → ¬ j = 32 → A1 j = A j := fun j j1 j2 => (c1 j j1 j2).trans (upd_ne j2)
    have cW : ∀ p, 250 ≤ p → (ps1 n S W).1 p = W p := fun p hp => (k4 p hp).trans (upd_ne (by omega))
    refine xq_260_62 (d := d + 10) (n := n) ⟨k1.1.1, n14, fun z1 => ⟨k1.1.1, by omega, fun n0 => fin _ _ _ _ _ _ cA cW ?_, fun nn => ⟨fun zc => ?_, fun zc => fin _ _ _ _ _ _ cA cW ?_⟩⟩, fun z0 => fin _ _ _ _ _ _ cA cW ?_⟩
    · have : k = 1 := (xn_eq (by omega) (by omega)).mp z1
      subst this
      rw [if_neg (by omega), pv1, if_pos n0]
    · have : k = 1 := (xn_eq (by omega) (by omega)).mp z1
      subst this
      refine xl_253 (d := d + 4) (n := n) (ns := ns) (blk := Int32.ofInt (-1)) (idle := 0) k1 ((cA 29 (by omega) (by omega)).trans h29) k3 k2 (by omega) (fun v' P2 F2 N2 W2 hW2 => xq_260_99 (d := d + 12) (fin _ _ _ _ _ _ (fun j j1 j2 => (upd_ne j1).trans (cA j j1 j2)) (fun p hp => (hW2 p hp).trans (cW p hp)) ?_))
      have zc' : (ps1 n S W).2.1 = Int32.ofInt (-1) := c2.symm.trans zc
      rw [if_neg (by omega), pv1, if_neg nn, if_pos zc']; rfl
    · have : k = 1 := (xn_eq (by omega) (by omega)).mp z1
      subst this
      have zc' : ¬ (ps1 n S W).2.1 = Int32.ofInt (-1) := fun q => zc (c2.trans q)
      rw [if_neg (by omega), pv1, if_neg nn, if_neg zc']; exact c2
    · have : k = 0 := by
        rcases Nat.lt_or_ge 0 k with q | q
        · exact absurd (by rw [show k = 1 by omega]) z0
        · omega
      rw [if_pos this, lmany_N]; rfl
  refine xq_260_15 (d := d + 10) (n := n) ⟨hn0, by omega, fun hn => ⟨hn0, n14, fun zl => run _ ?_, fun zl => run _ ?_⟩, fun hn => run _ ?_⟩
  · have zl : sp_lmany (th_0 W) n 0 (nI 0) = th_0 W 0 := zl
    rw [lmany_N, hn0, xn_eq (by omega) (by omega)] at zl
    rw [pc0, if_pos ⟨hn, zl⟩]; rfl
  · have zl : ¬ sp_lmany (th_0 W) n 0 (nI 0) = th_0 W 0 := zl
    rw [lmany_N, hn0, xn_eq (by omega) (by omega)] at zl
    rw [pc0, if_neg (fun q => zl q.2)]
  · rw [pc0, if_neg (fun q => hn q.1)]
theorem yl_104 (hS : S ≤ 100) (h14 : I 14 0 = nI S) (ho : ok n ns W) (e : W 2 = nI x) (x9 : x ≤ 9999) (hM : ∀ j, 0 ≤ j → j < 0 + S → plC I W j) (hC : CR true n ns I (xcR true I) W) (htk : tk R) (h10 : R 9 10 = Int32.ofInt (-1)) (hp : ∀ R', tk R' → R' 9 10 = Int32.ofInt (-1) → Q (some (.int (nI (lmN (ps1 n S W).1 n)))) (xq_s g J (xc false I R'))) : xq_wp (d + 7) 104 (xq_s g J (xc false I R)) 0 [.ref 34] [] Q := by
  have n14 := ho.1.2.1
  have e2 : th_0 W 2 = nI x := (upd_ne (by omega)).trans e
  refine yq_104 (d := d + 6) (yl_105 (d := d + 5) ho hC htk (fun R1 c1 c9 cj => yq_104_4 (d := d + 6) (yu_101 (q := false) (d := d + 6) (yl_101_2 (q := false) (d := d + 1) (n := n) (ns := ns) (W0 := W) hS h14 S 0 (th_0 W, pc0 n (th_0 W), Int32.ofInt (-1)) x R1 xq_un (by omega) (ok_0 ho) e2 (by omega) hM c1 ((cj 10 (by omega)).trans h10) c9 (fun R' k1 k2 k3 k4 => yq_104_18 (d := d + 6) ?_)))))
  have eL : R' 0 13 = nI (lsN (ps1 n S W).1 n) := (CR_L k1).1.trans (lset_N n14)
  rw [eL, bc_ls n n14]
  exact hp R' (tk_CR k1) k2
theorem pv_all (ho : ok n ns W) (e : W 2 = nI x) (x9 : x ≤ 9999) (h : lmN (th_0 W) n = n) : th_close n (Int32.ofInt (-1)) 0 (th_0 W) = pv1 n S W := by
  unfold th_close pv1
  by_cases hn : n = 0
  · rw [if_pos hn, if_pos hn]
  · have e2 : th_0 W 2 = nI x := (upd_ne (by omega)).trans e
    have ec : pc0 n (th_0 W) = xq_max (nI 0) (th_0 W 2 - nI 1) := if_pos ⟨by omega, h⟩
    have hm : ¬ pc0 n (th_0 W) = Int32.ofInt (-1) := by
      rw [ec]
      unfold xq_max
      split
      · rename_i z
        intro y
        rw [y] at z
        exact absurd z (by decide)
      · exact nI_m1 (by omega)
    have es : (ps1 n S W).2.1 = pc0 n (th_0 W) := cl_pl S 0 _ hm
    rw [if_neg hn, if_neg hn, if_pos h, es, if_neg hm, ec]
theorem yl_107 (hS : S ≤ 100) (h14 : I 14 0 = nI S) (ho : ok n ns W) (e : W 2 = nI x) (x9 : x ≤ 9999) (hM : ∀ j, 0 ≤ j → j < 0 + S → plC I W j) (hM2 : ∀ j, 0 ≤ j → j < 0 + S → plM W j) (hC : CR true n ns I (xcR true I) W) (htk : tk R) (h10 : R 9 10 = Int32.ofInt (-1)) (hp : ∀ R', tk R' → R' 9 10 = Int32.ofInt (-1) → Q (some (.int (pv1 n S W))) (xq_s g J (xc false I R'))) : xq_wp (d + 8) 107 (xq_s g J (xc false I R)) 0 [.ref 34] [] Q := by
  have n14 := ho.1.2.1
  have e2 : th_0 W 2 = nI x := (upd_ne (by omega)).trans e
  have lm := lmN_le (W := th_0 W) n
  obtain ⟨p1, p2, p3⟩ := ps_K hS ho e x9 hM2
  have hh : ∀ (kw : Nat) (R1 : Nat → xw), R1 9 10 = Int32.ofInt (-1) → ∀ i, i < 300 → ∀ b, b < n → (nI b = (if i < 0 then Int32.ofInt (-1) else Int32.ofInt (-1)) ↔ nI b = R1 9 10 ∧ nI (kw + i) < R1 9 11) := fun kw R1 r10 i _ b hb => by
    rw [if_neg (by omega), r10]
    exact ⟨fun z => absurd z (nI_m1 (by omega)), fun z => absurd z.1 (nI_m1 (by omega))⟩
  refine yq_107 (d := d + 7) (yl_105 (d := d + 6) ho hC htk (fun R1 c1 c9 cj => ?_))
  have r10 : R1 9 10 = Int32.ofInt (-1) := (cj 10 (by omega)).trans h10
  have eA := CR_all (ok_0 ho) c1
  rw [lmany_N] at eA
  refine yq_107_4 (d := d + 6) ⟨fun z => ?_, fun z => ?_⟩
  · rw [eA, sp_b20, decide_eq_false_iff_not, xn_eq (by omega) (by omega)] at z
    have hn : 0 < n := by omega
    have ec : pc0 n (th_0 W) = Int32.ofInt (-1) := if_neg (fun q => z q.2)
    refine yu_101 (q := false) (d := d + 7) (yl_101_2 (q := false) (d := d + 2) (n := n) (ns := ns) (W0 := W) hS h14 S 0 (th_0 W, pc0 n (th_0 W), Int32.ofInt (-1)) x R1 xq_un (by omega) (ok_0 ho) e2 (by omega) hM c1 r10 c9 (fun R' k1 k2 k3 k4 => ?_))
    have pq : pqI n (ps1 n S W) := pq_pl hn S 0 _ x (ok_0 ho) e2 (by omega) hM2 ⟨th0_6 W, ec, fun _ => by show lmN (th_0 W) n < n; omega, fun y => absurd ec y⟩
    have k4' : R' 9 9 = (ps1 n S W).2.2 := k4
    rw [← pq.2.1] at k4'
    refine yq_107_38 (d := d + 7) ⟨fun y => ?_, fun y => ?_⟩
    · rw [k4'] at y
      obtain ⟨kw, hkw, ekw⟩ := p2
      refine yl_108 (d := d + 2) (n := n) (ns := ns) (blk := Int32.ofInt (-1)) (idle := 0) (kw := kw) p1 k1 ekw hkw (hh kw R' k2) (fun R2 t2 b1 b2 => yq_107_68 (d := d + 8) ?_)
      have ev : th_by n (Int32.ofInt (-1)) 0 (nI 1000000) (ps1 n S W).1 = pv1 n S W := by
        rw [lim_big p1 ⟨kw, hkw, ekw⟩, pv1, if_neg (by omega), if_pos y]
      show Q (some (.int (th_by n (Int32.ofInt (-1)) 0 (nI 1000000) (ps1 n S W).1))) _
      rw [ev]
      exact hp R2 t2 (b1.trans k2)
    · rw [k4'] at y ⊢
      have ev : (ps1 n S W).2.1 = pv1 n S W := by rw [pv1, if_neg (by omega), if_neg y]
      rw [ev]
      exact hp R' (tk_CR k1) k2
  · have hl : lmN (th_0 W) n = n := by
      rw [eA, sp_b20, decide_eq_false_iff_not, Classical.not_not, xn_eq (by omega) (by omega)] at z
      exact z
    refine yl_108 (d := d + 2) (n := n) (ns := ns) (blk := Int32.ofInt (-1)) (idle := 0) (kw := x) (ok_0 ho) c1 e2 (by omega) (hh x R1 r10) (fun R2 t2 b1 b2 => yq_107_23 (d := d + 8) ?_)
    rw [lim_big (ok_0 ho) ⟨x, by omega, e2⟩, pv_all (S := S) ho e x9 hl]
    exact hp R2 t2 (b1.trans r10)
theorem P10 : xq_P10 126 Inv := by
  intro z
  refine th_pair (fun g J I n ns hi ho hw hC h29 htk h10 => ?_)
  obtain ⟨n', ns', hA', hT', hP', -⟩ := hi
  obtain ⟨S, s100, h14, h60, hpl⟩ := hP'
  have hpc := pl_of hpl
  obtain ⟨x, x9, ex⟩ := hA'.2.1
  have hM : ∀ j, 0 ≤ j → j < 0 + S → plM (I 127) j := fun j _ hj => (hpc j (by omega)).2
  have hPC : ∀ j, 0 ≤ j → j < 0 + S → plC I (I 127) j := fun j _ hj => (hpc j (by omega)).1
  by_cases hz : ¬ z < nI 0 ∧ ¬ nI 1 < z
  · obtain ⟨k, k0, k1, ek⟩ := i_rng hz.1 hz.2 (by omega) (by omega)
    subst ek
    refine ⟨if k = 0 then nI (lmN (ps1 n S (I 127)).1 n) else pv1 n S (I 127), fun Q hp => yq_103 (d := 89) ⟨fun y => ?_, fun y => ⟨fun y2 => ?_, fun y2 => ?_⟩⟩, fun I1 Q hp => xl_260 (d := 78) k1 s100 h60 ho ex x9 h29 hM (fun A' P' F' N' Y' c => hp A' P' F' N' Y' _ _ c)⟩
    · have : k = 0 := (xn_eq (by omega) (by omega)).mp y
      subst this
      rw [if_pos rfl] at hp
      exact yl_104 (d := 82) s100 h14 ho ex x9 hPC hC htk h10 (fun R' t' q' => yq_103_11 (d := 90) (hp R' t' q'))
    · have : k = 1 := (xn_eq (by omega) (by omega)).mp y2
      subst this
      rw [if_neg (by omega)] at hp
      exact yl_107 (d := 81) s100 h14 ho ex x9 hPC hM hC htk h10 (fun R' t' q' => yq_103_24 (d := 90) (hp R' t' q'))
    · exfalso
      have : k = 0 ∨ k = 1 := by omega
      rcases this with q | q <;> subst q
      · exact y rfl
      · exact y2 rfl
  · refine ⟨Int32.ofInt (-1), fun Q hp => yq_103 (d := 89) ⟨fun y => ?_, fun y => ⟨fun y2 => ?_, fun y2 => hp _ htk h10⟩⟩, fun I1 Q hp => xq_260 (d := 89) ⟨fun _ => hp _ _ _ _ _ _ _ (fun _ _ => rfl), fun y1 => ⟨fun _ => hp _ _ _ _ _ _ _ (fun _ _ => rfl), fun y2 => absurd ⟨y1, y2⟩ hz⟩⟩⟩
    · subst y; exact absurd ⟨by decide, by decide⟩ hz
    · subst y2; exact absurd ⟨by decide, by decide⟩ hz
end xk_p10
