/-! plan: the class's runs; the pair -/
def plC (I : Nat → xw) (W0 : xw) (i : Nat) : Prop := ∃ d a p : Nat, d < 8 ∧ a ≤ plb d ∧ p ≤ 13 ∧ I 15 i = nI d ∧ I 16 i = nI a ∧ I 17 i = nI p ∧ sp_ix W0 (1962 + 3 * i) = 24 + d ∧ sp_ix W0 (1962 + 3 * i + 1) = a ∧ sp_ix W0 (1962 + 3 * i + 2) = p
section xk_plc
variable {d : Nat} {g : xq_V} {J : Nat → Nat → Int64} {I : Nat → Nat → Int32} {Q : Option Value → xq_S → Prop} {q : Bool} {n ns dn a p i : Nat} {W W0 : xw} {R : Nat → xw}
theorem plb_le : dn < 8 → plb dn ≤ 99 := fun h => (by decide : ∀ k, k < 8 → plb k ≤ 99) dn h
theorem yl_101_32 : ∀ (t : Nat) (s : xw × Int32 × Int32) (x : Nat) (R : Nat → xw), t ≤ 60 → ok n ns s.1 → s.1 2 = nI x → x + t ≤ 20000 → CR q n ns I R s.1 → R 9 10 = Int32.ofInt (-1) → R 9 9 = s.2.2 → (∀ R' : Nat → xw, CR q n ns I R' (wkT q n t s).1 → R' 9 10 = Int32.ofInt (-1) → R' 9 11 = R 9 11 → R' 9 9 = (wkT q n t s).2.2 → xq_wp (d + 5) 101 (xq_s g J (xc q I R')) 2 [.ref (xid q 9), .ref 14, .int (nI (i + 1)), .int (nI 0)] [] Q) → xq_wp (d + 5) 101 (xq_s g J (xc q I R)) 32 [.ref (xid q 9), .ref 14, .int (nI i), .int (nI t)] [] Q := by
  intro t
  induction t with
  | zero =>
    intro s x R ht ho e hx hC h10 h9 hp
    exact yu_101_32 (d := d + 4) ⟨by omega, fun h => absurd h (by omega), fun _ => hp R hC h10 rfl h9⟩
  | succ t ih =>
    intro s x R ht ho e hx hC h10 h9 hp
    have n14 := ho.1.2.1
    refine yu_101_32 (d := d + 4) ⟨by omega, fun _ => ?_, fun h => absurd (by omega) h⟩
    refine yl_72 (d := d) (bar := Int32.ofInt (-1)) ho hC (fun b hb => ⟨fun z => absurd z (nI_m1 (by omega)), fun z => absurd (z.1.trans h10) (nI_m1 (by omega))⟩) (fun R' v v9 ev C' g10 g11 g9 => yu_101_40 (d := d + 5) ⟨by omega, ?_⟩)
    rw [show t + 1 - 1 = t by omega]
    have o1 : ok n ns (wk1 q n s).1 := ok_sweek ho (show x < 20000 by omega) e
    refine ih (wk1 q n s) (x + 1) R' (by omega) o1 (by show (sp_week q (Int32.ofInt (-1)) n s.1).1 2 = _; rw [wk_week ho, e, nI_add]) (by omega) C' (g10.trans h10) ?_ (fun R2 k1 k2 k3 k4 => hp R2 k1 k2 (k3.trans g11) k4)
    show R' 9 9 = if ¬ (sp_week q (Int32.ofInt (-1)) n s.1).2 = nI 0 ∧ lmN (sp_week q (Int32.ofInt (-1)) n s.1).1 n = n then s.1 2 else s.2.2
    rw [g9, ev, h9]
    by_cases hc : 0 < v ∧ lmN (sp_week q (Int32.ofInt (-1)) n s.1).1 n = n
    · rw [if_pos hc, if_pos ⟨fun z => absurd ((xn_eq (by omega) (by omega)).mp z) (by omega), hc.2⟩]
    · rw [if_neg hc, if_neg (fun z => hc ⟨Nat.pos_of_ne_zero (fun y => z.1 (by rw [y])), z.2⟩)]
theorem yl_102 (ho : ok n ns W) (h : CR q n ns I R W) (hd : 1 ≤ dn) (hd8 : dn < 8) (ha : a ≤ plb dn) (hp13 : p ≤ 13) (hp : ∀ R' : Nat → xw, CR q n ns I R' (stW n dn a p W) → R' 9 = R 9 → Q none (xq_s g J (xc q I R'))) : xq_wp (d + 3) 102 (xq_s g J (xc q I R)) 0 [.ref (xid q 9), .int (nI dn), .int (nI a), .int (nI p), xq_un] [] Q := by
  have n14 := ho.1.2.1
  have e0 : I 2 0 = nI n := (CR_G h).1.trans ho.1.1
  have e10 : R 1 0 = W 10 := CR_1 h 0 (by omega)
  have : dn = 1 ∨ dn = 2 ∨ dn = 3 ∨ dn = 4 ∨ dn = 5 ∨ dn = 6 ∨ dn = 7 := by omega
  rcases this with z | z | z | z | z | z | z <;> subst z
  · have ha : a ≤ 13 := ha
    refine yu_102_1 (d := d + 2) ?_
    rw [e0]
    by_cases hv : a < n ∧ p < n
    · refine yl_19 (d := d + 1) ho h hv.1 hv.2 (fun fr R' hf ef C' r' => yu_102_pop (d := d + 3) (hp R' ?_ (r' 9 (by omega))))
      show CR q n ns I R' (if a < n ∧ p < n then rkW n (frN W a n) p W else W)
      rw [if_pos hv, fr_eq ho hf ef n hf (Nat.le_refl _)]
      exact C'
    · have fin := yu_102_pop (d := d + 3) (q := q) (g := g) (J := J) (I := I) (Q := Q) (a := a) (p := p) (w := nI 0) (u := .ref (xid q 1)) (hp R (by show CR q n ns I R (if a < n ∧ p < n then rkW n (frN W a n) p W else W); rw [if_neg hv]; exact h) rfl)
      refine yu_19x (d := d + 2) ⟨fun _ => fin, fun _ => ⟨fun z2 => ⟨fun _ => fin, fun _ => ⟨fun z4 => ?_, fun _ => fin⟩⟩, fun _ => fin⟩⟩
      exact absurd ⟨(xn_lt (by omega) (by omega)).mp z2, (xn_lt (by omega) (by omega)).mp z4⟩ hv
  · refine yu_102_2 (d := d + 2) ?_
    rw [e10]
    exact hp _ (CR_told (j := 0) ho h (by omega)) (xw_i (by omega))
  · refine yu_102_3 (d := d + 2) ?_
    rw [e10]
    exact hp _ (CR_told (j := 0) ho h (by omega)) (xw_i (by omega))
  · have ha : a ≤ 3 := ha
    exact yu_102_4 (d := d + 3) ⟨by omega, fun y => absurd y (by omega), fun _ => ⟨fun _ => hp _ (CR_open ho h (by omega)) (xw_i (by omega)), fun y => absurd (by omega) y⟩⟩
  · have ha : a ≤ 3 := ha
    exact yu_102_5 (d := d + 3) ⟨by omega, fun y => absurd y (by omega), fun _ => ⟨fun _ => hp _ (CR_open ho h (by omega)) (xw_i (by omega)), fun y => absurd (by omega) y⟩⟩
  · exact yu_102_6 (d := d + 3) (hp _ (CR_told (j := 3) ho h (by omega)) (xw_i (by omega)))
  · exact yu_102_7 (d := d + 3) (hp _ (CR_told (j := 4) ho h (by omega)) (xw_i (by omega)))
theorem yl_101_2 {S : Nat} (hS : S ≤ 100) (h14 : I 14 0 = nI S) : ∀ (t i : Nat) (s : xw × Int32 × Int32) (x : Nat) (R : Nat → xw) (u : Value), i + t = S → ok n ns s.1 → s.1 2 = nI x → x + 60 * t ≤ 20000 → (∀ j, i ≤ j → j < i + t → plC I W0 j) → CR q n ns I R s.1 → R 9 10 = Int32.ofInt (-1) → R 9 9 = s.2.2 → (∀ R' : Nat → xw, CR q n ns I R' (plT q n W0 t i s).1 → R' 9 10 = Int32.ofInt (-1) → R' 9 11 = R 9 11 → R' 9 9 = (plT q n W0 t i s).2.2 → Q none (xq_s g J (xc q I R'))) → xq_wp (d + 5) 101 (xq_s g J (xc q I R)) 2 [.ref (xid q 9), .ref 14, .int (nI i), u] [] Q := by
  intro t
  induction t with
  | zero =>
    intro i s x R u hi ho e hx hM hC h10 h9 hp
    exact yu_101_2 (d := d + 4) (s := S) (dn := 0) (a := 0) ⟨h14, by omega, by omega, fun h => absurd h (by omega), fun _ => hp R hC h10 rfl h9⟩
  | succ t ih =>
    intro i s x R u hi ho e hx hM hC h10 h9 hp
    obtain ⟨dn, a, p, hd, ha, hp13, f1, f2, f3, e1, e2, e3⟩ := hM i (Nat.le_refl _) (by omega)
    have ha99 := plb_le hd
    obtain ⟨b1, b2, b3, b4⟩ := st1_K (q := q) (p := p) ho e (by omega) hd ha
    have w : (if dn = 0 then a else 0) ≤ 60 := by
      split
      · rename_i z; subst z; exact ha
      · omega
    have ep : plT q n W0 (t + 1) i s = plT q n W0 t (i + 1) (st1 q n dn a p s) := by rw [plT, e1, e2, e3, show 24 + dn - 24 = dn by omega]
    rw [ep] at hp
    have next : ∀ (R1 : Nat → xw) (u1 : Value), CR q n ns I R1 (st1 q n dn a p s).1 → R1 9 10 = Int32.ofInt (-1) → R1 9 11 = R 9 11 → R1 9 9 = (st1 q n dn a p s).2.2 → xq_wp (d + 5) 101 (xq_s g J (xc q I R1)) 2 [.ref (xid q 9), .ref 14, .int (nI (i + 1)), u1] [] Q := fun R1 u1 c1 c2 c3 c4 => ih (i + 1) (st1 q n dn a p s) (x + (if dn = 0 then a else 0)) R1 u1 (by omega) b1 b2 (by omega) (fun j j1 j2 => hM j (by omega) (by omega)) c1 c2 c4 (fun R' k1 k2 k3 k4 => hp R' k1 k2 (k3.trans c3) k4)
    refine yu_101_2 (d := d + 4) (s := S) (dn := dn) (a := a) ⟨h14, by omega, by omega, fun _ => ⟨fun _ => ⟨f1, by omega, fun z => ⟨f2, ?_⟩, fun z => ?_⟩, fun y => absurd (by omega) y⟩, fun h => absurd (show i < S by omega) h⟩
    · subst z
      have ha : a ≤ 60 := ha
      exact yl_101_32 (d := d) a s x R ha ho e (by omega) hC h10 h9 (fun R' k1 k2 k3 k4 => next R' _ k1 k2 k3 k4)
    · rw [f1, f2, f3]
      have es : st1 q n dn a p s = (stW n dn a p s.1, s.2) := by rw [st1, if_neg z]
      refine yl_102 (d := d + 1) ho hC (by omega) hd ha hp13 (fun R' c1 c2 => yu_101_72 (d := d + 5) (next R' u (by rw [es]; exact c1) (by rw [c2]; exact h10) (by rw [c2]) (by rw [c2, es]; exact h9)))
theorem zl_100 {S : Nat} (hS : S ≤ 100) (h14 : I 14 0 = nI S) (hp : Q (some (.int (nI (wsN W0 S 0)))) (xq_s g J I)) : ∀ (t i sm : Nat), i + t = S → (∀ j, i ≤ j → j < i + t → plC I W0 j) → sm + wsN W0 t i = wsN W0 S 0 → xq_wp d 100 (xq_s g J I) 4 [.ref 14, .int (nI sm), .int (nI i)] [] Q := by
  intro t
  induction t with
  | zero =>
    intro i sm hi hM hs
    have hs : sm = wsN W0 S 0 := hs
    subst hs
    exact zc_100_4 (d := d) (s := S) (dn := 0) (a := 0) ⟨h14, by omega, by omega, fun h => absurd h (by omega), fun _ => hp⟩
  | succ t ih =>
    intro i sm hi hM hs
    obtain ⟨dn, a, p, hd, ha, hp13, f1, f2, f3, e1, e2, e3⟩ := hM i (Nat.le_refl _) (by omega)
    rw [wsN, e1, e2] at hs
    refine zc_100_4 (d := d) (s := S) (dn := dn) (a := a) ⟨h14, by omega, by omega, fun _ => ⟨fun _ => ⟨f1, by omega, fun z => ⟨f2, ih (i + 1) (sm + a) (by omega) (fun j j1 j2 => hM j (by omega) (by omega)) ?_⟩, fun z => ih (i + 1) sm (by omega) (fun j j1 j2 => hM j (by omega) (by omega)) ?_⟩, fun y => absurd (by omega) y⟩, fun h => absurd (show i < S by omega) h⟩
    · rw [if_pos (by omega)] at hs; omega
    · rw [if_neg (by omega)] at hs; omega
theorem pl_of {S : Nat} (h : ∀ i, i < S → plS (I 15) (I 16) (I 17) W i) : ∀ i, i < S → plC I W i ∧ plM W i := by
  intro i hi
  obtain ⟨d, a, p, hd, ha, hp, f1, f2, f3, f4, f5, f6⟩ := h i hi
  have := plb_le hd
  have e1 : sp_ix W (1962 + 3 * i) = 24 + d := xk_ix f2 (by omega)
  have e2 : sp_ix W (1962 + 3 * i + 1) = a := xk_ix f4 (by omega)
  have e3 : sp_ix W (1962 + 3 * i + 2) = p := xk_ix f6 (by omega)
  exact ⟨⟨d, a, p, hd, ha, hp, f1, f3, f5, e1, e2, e3⟩, ⟨d, a, p, hd, ha, hp, f2, f4, f6, e1, e2, e3⟩⟩
theorem wsN_le {S : Nat} : ∀ (t i : Nat), (∀ j, i ≤ j → j < i + t → plM W j) → wsN W t i ≤ 60 * t := by
  intro t
  induction t with
  | zero => intro i _; exact Nat.le_refl _
  | succ t ih =>
    intro i hM
    obtain ⟨dn, a, p, hd, ha, hp13, f1, f2, f3, e1, e2, e3⟩ := hM i (Nat.le_refl _) (by omega)
    have := ih (i + 1) (fun j j1 j2 => hM j (by omega) (by omega))
    rw [wsN, e1, e2]
    have w : (if 24 + dn = 24 then a else 0) ≤ 60 := by
      split
      · rename_i z
        have z : dn = 0 := by omega
        subst z; exact ha
      · omega
    omega
end xk_plc
