/-! rank -/
def sg (fr pl i : Nat) : Nat := if i = pl then fr else if fr ≤ i ∧ i < pl then i + 1 else if pl < i ∧ i ≤ fr then i - 1 else i
def rkW (n fr pl : Nat) (W : xw) : xw := fun p => if 30 ≤ p ∧ p < 30 + n then W (30 + sg fr pl (p - 30)) else W p
section xk_rk
variable {d : Nat} {g : xq_V} {J : Nat → Nat → Int64} {I : Nat → xw} {Q : Option Value → xq_S → Prop} {q : Bool} {n ns b pl fr : Nat} {R R' : Nat → xw} {A W W' P F N : xw}
theorem sg_lt {i : Nat} (hf : fr < n) (hp : pl < n) (hi : i < n) : sg fr pl i < n := by
  unfold sg
  repeat' split
  all_goals omega
theorem sg_inj {i j : Nat} (e : sg fr pl i = sg fr pl j) : i = j := by
  unfold sg at e
  repeat' split at e
  all_goals omega
theorem ok_rk (ho : ok n ns W) (hf : fr < n) (hp : pl < n) : ok n ns (rkW n fr pl W) := by
  obtain ⟨g1, g2, g3, g4, g5, g6, g7, g8, g9, g10, g11⟩ := ho
  have n14 := g1.2.1
  have ns8 := g1.2.2.2
  have o : ∀ p, ¬ (30 ≤ p ∧ p < 30 + n) → rkW n fr pl W p = W p := fun p hp => by rw [rkW, if_neg hp]
  have v : ∀ i, i < n → rkW n fr pl W (30 + i) = W (30 + sg fr pl i) := fun i hi => by rw [rkW, if_pos (by omega), show 30 + i - 30 = i by omega]
  refine ⟨ok1_fr g1 (o _ (by omega)) (o _ (by omega)), okb_fr g2 (o _ (by omega)), ok2_fr g3 (o _ (by omega)), ⟨fun i hi => ?_, fun i j hi hj e => ?_⟩, ok4_fr g5 (fun b hb => o _ (by omega)), ok5_fr g6 (fun b hb => ⟨o _ (by omega), o _ (by omega)⟩), ok6_fr g7 (fun i hi => o _ (by omega)), ok7_fr g8 (fun i hi => o _ (by omega)), ok8_fr g9 (fun b k hb hk => o _ (by omega)), ok9_fr g10 (fun k hk => o _ (by omega)), sp_law_fr g11 (fun p h1 h2 => o _ (by omega))⟩
  · rw [v i hi]; exact g4.1 _ (sg_lt hf hp hi)
  · rw [v i hi, v j hj] at e
    exact sg_inj (g4.2 _ _ (sg_lt hf hp hi) (sg_lt hf hp hj) e)
theorem CR_ord (ho : ok n ns W) (h : CR q n ns I R W) (eR : ∀ i, ¬ i = 3 → R' i = R i) (eW : ∀ p, ¬ (30 ≤ p ∧ p < 30 + n) → W' p = W p) (h3 : ∀ i, i < n → R' 3 i = W' (30 + i)) : CR q n ns I R' W' := by
  have n14 := ho.1.2.1
  have ns8 := ho.1.2.2.2
  obtain ⟨g1, g2, g3, g4, g5, g6, g7, g8, g9, g10, g11, g12, g13, g14⟩ := h
  refine ⟨⟨?_, ?_, fun b hb => ?_, fun k hk => ?_⟩, cLaw_fr ho.2.2.2.2.2.2.2.2.2.2 g2 (fun p h1 h2 => eW p (by omega)), ?_, ⟨?_, ?_, ?_, ?_, ?_⟩, fun i hi => ?_, fun i hi => ?_, h3, fun b hb => ?_, fun b hb z => ?_, fun b hb => ?_, fun hq b k hb hk => ?_, ?_, ⟨?_, ?_⟩, ?_⟩
  · rw [eW _ (by omega)]; exact g1.1
  · rw [eW _ (by omega)]; exact g1.2.1
  · rw [eW _ (by omega), eW _ (by omega), eW _ (by omega), eW _ (by omega)]; exact g1.2.2.1 b hb
  · rw [eW _ (by omega), eW _ (by omega)]; exact g1.2.2.2 k hk
  · rw [eR _ (by omega)]; exact g3
  · rw [eR _ (by omega), eW _ (by omega)]; exact g4.1
  · rw [eR _ (by omega), eW _ (by omega)]; exact g4.2.1
  · rw [eR _ (by omega), eW _ (by omega)]; exact g4.2.2.1
  · rw [eR _ (by omega), eW _ (by omega)]; exact g4.2.2.2.1
  · rw [eR _ (by omega), eW _ (by omega)]; exact g4.2.2.2.2
  · rw [eR _ (by omega), eW _ (by omega)]; exact g5 i hi
  · rw [eR _ (by omega), eW _ (by omega)]; exact g6 i hi
  · rw [eR _ (by omega), eW _ (by omega)]; exact g8 b hb
  · rw [eW _ (by omega)] at z
    rw [eR _ (by omega), eR _ (by omega), eW _ (by omega), eW _ (by omega)]; exact g9 b hb z
  · rw [eR _ (by omega), eW _ (by omega)]; exact g10 b hb
  · rw [eR _ (by omega), eW _ (by omega)]; exact g11 hq b k hb hk
  · refine cB_fr g12 (fun i i1 i2 => eR i (by omega)) (eW _ (by omega)) (fun p p1 p2 => eW p (by omega)) ho.2.1
  · rw [eR _ (by omega), g13.1]; exact (sp_lset_cg _ _ _ (fun x h1 h2 => by rw [eW _ (by omega)])).symm
  · rw [eR _ (by omega), g13.2]; exact (sp_lean_cg _ _ _ (fun x h1 h2 => ⟨by rw [eW _ (by omega)], by rw [sp_wei, sp_wei, eW _ (by omega), eW _ (by omega)]⟩)).symm
  · unfold cS
    rw [sp_lmany_cg _ _ _ (fun x h1 h2 => by rw [eW _ (by omega)]), eW _ (by omega)]
    exact g14
/-! the model -/
theorem xl_164_64 {W1 : xw} (hf : fr < 14) (hpl : pl < 14) (hp : ∀ W', (∀ p, W' p = if p = 30 + pl then nI b else if 30 + pl < p ∧ p ≤ 30 + fr then W1 (p - 1) else W1 p) → Q (some (.int (nI 1))) (xq_s g J (xm I A W' P F N))) : ∀ (c i : Nat) (Wi : xw), i ≤ fr → i = c + min pl fr → (∀ p, Wi p = if 30 + i < p ∧ p ≤ 30 + fr then W1 (p - 1) else W1 p) → xq_wp d 164 (xq_s g J (xm I A Wi P F N)) 64 [.ref 126, .int (nI b), .int (nI pl), .int (nI fr), .int (nI i)] [] Q := by
  intro c
  induction c with
  | zero =>
    intro i Wi h1 h2 h3
    refine xu_164_64 (d := d) ⟨by omega, by omega, fun z => by omega, fun _ => ⟨by omega, hp _ (fun p => ?_)⟩⟩
    by_cases e : p = 30 + pl
    · subst e; rw [upd_eq, if_pos rfl]
    · rw [upd_ne e, if_neg e, h3 p]
      by_cases e2 : 30 + i < p ∧ p ≤ 30 + fr
      · rw [if_pos e2, if_pos (by omega)]
      · rw [if_neg e2, if_neg (by omega)]
  | succ c ih =>
    intro i Wi h1 h2 h3
    refine xu_164_64 (d := d) ⟨by omega, by omega, fun _ => ⟨by omega, by omega, by omega, by omega, ih (i - 1) _ (by omega) (by omega) (fun p => ?_)⟩, fun z => by omega⟩
    by_cases e : p = 30 + i
    · subst e; rw [upd_eq, if_pos (by omega), h3, if_neg (by omega)]
    · rw [upd_ne e, h3 p]
      by_cases e2 : 30 + i < p ∧ p ≤ 30 + fr
      · rw [if_pos e2, if_pos (by omega)]
      · rw [if_neg e2, if_neg (by omega)]
theorem xl_164_27 (hf : fr < 14) (hpl : pl < 14) (hp : ∀ W1, (∀ p, W1 p = if 30 + fr ≤ p ∧ p < 30 + pl then W (p + 1) else W p) → xq_wp d 164 (xq_s g J (xm I A W1 P F N)) 64 [.ref 126, .int (nI b), .int (nI pl), .int (nI fr), .int (nI fr)] [] Q) : ∀ (c i : Nat) (Wi : xw), fr ≤ i → i + c = max fr pl → (∀ p, Wi p = if 30 + fr ≤ p ∧ p < 30 + i then W (p + 1) else W p) → xq_wp d 164 (xq_s g J (xm I A Wi P F N)) 27 [.ref 126, .int (nI b), .int (nI pl), .int (nI fr), .int (nI i)] [] Q := by
  intro c
  induction c with
  | zero =>
    intro i Wi h1 h2 h3
    refine xu_164_27 (d := d) ⟨by omega, by omega, fun z => by omega, fun _ => hp Wi (fun p => ?_)⟩
    rw [h3 p]
    by_cases e2 : 30 + fr ≤ p ∧ p < 30 + i
    · rw [if_pos e2, if_pos (by omega)]
    · rw [if_neg e2, if_neg (by omega)]
  | succ c ih =>
    intro i Wi h1 h2 h3
    refine xu_164_27 (d := d) ⟨by omega, by omega, fun _ => ⟨by omega, by omega, ih (i + 1) _ (by omega) (by omega) (fun p => ?_)⟩, fun z => by omega⟩
    by_cases e : p = 30 + i
    · subst e; rw [upd_eq, if_pos (by omega), h3, if_neg (by omega)]
    · rw [upd_ne e, h3 p]
      by_cases e2 : 30 + fr ≤ p ∧ p < 30 + i
      · rw [if_pos e2, if_pos (by omega)]
      · rw [if_neg e2, if_neg (by omega)]
theorem rk_eq {W1 : xw} (hf : fr < n) (hpl : pl < n) (ef : W (30 + fr) = nI b) (h1 : ∀ p, W1 p = if 30 + fr ≤ p ∧ p < 30 + pl then W (p + 1) else W p) (h2 : ∀ p, W' p = if p = 30 + pl then nI b else if 30 + pl < p ∧ p ≤ 30 + fr then W1 (p - 1) else W1 p) : W' = rkW n fr pl W := by
  funext p
  rw [h2 p, rkW]
  by_cases hr : 30 ≤ p ∧ p < 30 + n
  · rw [if_pos hr]
    obtain ⟨j, rfl⟩ : ∃ j, p = 30 + j := ⟨p - 30, by omega⟩
    rw [show 30 + j - 30 = j by omega]
    by_cases e : j = pl
    · rw [if_pos (show 30 + j = 30 + pl by omega), sg, if_pos e, ef]
    · rw [if_neg (show ¬ 30 + j = 30 + pl by omega)]
      by_cases e2 : pl < j ∧ j ≤ fr
      · rw [if_pos (show 30 + pl < 30 + j ∧ 30 + j ≤ 30 + fr by omega), h1, if_neg (show ¬ (30 + fr ≤ 30 + j - 1 ∧ 30 + j - 1 < 30 + pl) by omega), sg, if_neg e, if_neg (show ¬ (fr ≤ j ∧ j < pl) by omega), if_pos e2, show 30 + (j - 1) = 30 + j - 1 by omega]
      · rw [if_neg (show ¬ (30 + pl < 30 + j ∧ 30 + j ≤ 30 + fr) by omega), h1]
        by_cases e3 : fr ≤ j ∧ j < pl
        · rw [if_pos (show 30 + fr ≤ 30 + j ∧ 30 + j < 30 + pl by omega), sg, if_neg e, if_pos e3, show 30 + (j + 1) = 30 + j + 1 by omega]
        · rw [if_neg (show ¬ (30 + fr ≤ 30 + j ∧ 30 + j < 30 + pl) by omega), sg, if_neg e, if_neg e3, if_neg e2]
  · rw [if_neg hr, if_neg (show ¬ p = 30 + pl by omega), if_neg (show ¬ (30 + pl < p ∧ p ≤ 30 + fr) by omega), h1, if_neg (show ¬ (30 + fr ≤ p ∧ p < 30 + pl) by omega)]
theorem xl_164 (ho : ok n ns W) (hb : b < n) (hpl : pl < n) (hp : ∀ fr, fr < n → W (30 + fr) = nI b → Q (some (.int (nI 1))) (xq_s g J (xm I A (rkW n fr pl W) P F N))) : xq_wp (d + 2) 164 (xq_s g J (xm I A W P F N)) 0 [.ref 126, .int (nI b), .int (nI pl), xq_un, xq_un] [] Q := by
  have n14 := ho.1.2.1
  obtain ⟨fr, hf, ef⟩ := ok_pl ho hb
  obtain ⟨q1, q2, q3⟩ := i_in hb (by omega)
  obtain ⟨p1, p2, p3⟩ := i_in hpl (by omega)
  refine xu_164 (d := d) ⟨by omega, fun z => by omega, fun _ => ⟨fun z => ?_, fun _ => ⟨by omega, fun z => by omega, fun _ => ⟨fun z => ?_, fun _ => ?_⟩⟩⟩⟩
  · rw [ho.1.1] at z; exact absurd z q2
  · rw [ho.1.1] at z; exact absurd z p2
  · refine xq_wp.go (k := 2) (fun F => rfl) (zl_166 (I := xm I A W P F N) ho hf hb ef ?_ fr 0 (by omega))
    refine xu_164_23 (d := d + 2) (xl_164_27 (W := W) (by omega) (by omega) (fun W1 h1 => xl_164_64 (W1 := W1) (by omega) (by omega) (fun W' h2 => ?_) (fr - min pl fr) fr W1 (by omega) (by omega) (fun p => ?_)) (max fr pl - fr) fr W (by omega) (by omega) (fun p => ?_))
    · rw [rk_eq hf hpl ef h1 h2]; exact hp fr hf ef
    · rw [if_neg (by omega)]
    · rw [if_neg (by omega)]
/-! the class -/
theorem yl_20 {i0 : Nat} (ho : ok n ns W) (h3 : ∀ i, i < n → R 3 i = W (30 + i)) (hi0 : i0 < n) (hb : b < n) (e0 : W (30 + i0) = nI b) (hp : Q (some (.int (nI i0))) (xq_s g J (xc q I R))) : ∀ (c i : Nat), i + c = i0 → xq_wp d 20 (xq_s g J (xc q I R)) 2 [.ref (xid q 0), .int (nI b), .int (nI n), .int (nI i)] [] Q := by
  have n14 := ho.1.2.1
  intro c
  induction c with
  | zero =>
    intro i e
    have : i = i0 := by omega
    subst this
    exact yu_20 (d := d) (on := b) ⟨by omega, by omega, fun _ => ⟨by omega, (h3 i hi0).trans e0, by omega, by omega, fun _ => hp, fun z => absurd rfl z⟩, fun z => by omega⟩
  | succ c ih =>
    intro i e
    obtain ⟨x, hx, ex, ix⟩ := ok_or ho (show i < n by omega)
    exact yu_20 (d := d) (on := x) ⟨by omega, by omega, fun _ => ⟨by omega, (h3 i (by omega)).trans ex, by omega, by omega, fun z => by
      have := ho.2.2.2.1.2 i i0 (by omega) hi0 (by rw [ex, e0, z]); omega, fun _ => ih (i + 1) (by omega)⟩, fun z => by omega⟩
theorem yl_19_69 {R1 : Nat → xw} (hf : fr < 14) (hpl : pl < 14) (hp : ∀ R' : Nat → xw, (∀ a, ¬ a = 3 → R' a = R1 a) → (∀ j, R' 3 j = if j = pl then nI b else if pl < j ∧ j ≤ fr then R1 3 (j - 1) else R1 3 j) → Q (some (.int (nI 1))) (xq_s g J (xc q I R'))) : ∀ (c i : Nat) (Ri : Nat → xw), i ≤ fr → i = c + min pl fr → (∀ a, ¬ a = 3 → Ri a = R1 a) → (∀ j, Ri 3 j = if i < j ∧ j ≤ fr then R1 3 (j - 1) else R1 3 j) → xq_wp d 19 (xq_s g J (xc q I Ri)) 69 [.ref (xid q 0), .int (nI b), .int (nI pl), .int (nI n), .int (nI fr), .int (nI i)] [] Q := by
  intro c
  induction c with
  | zero =>
    intro i Ri h1 h2 h0 h3
    refine yu_19_69 (d := d) ⟨by omega, by omega, fun z => by omega, fun _ => ⟨by omega, hp _ (fun a ha => by rw [xw_i ha]; exact h0 a ha) (fun p => ?_)⟩⟩
    by_cases e : p = pl
    · subst e; rw [xw_v, if_pos rfl]
    · rw [xw_x e, if_neg e, h3 p]
      by_cases e2 : i < p ∧ p ≤ fr
      · rw [if_pos e2, if_pos (by omega)]
      · rw [if_neg e2, if_neg (by omega)]
  | succ c ih =>
    intro i Ri h1 h2 h0 h3
    refine yu_19_69 (d := d) ⟨by omega, by omega, fun _ => ⟨by omega, by omega, by omega, by omega, ih (i - 1) _ (by omega) (by omega) (fun a ha => by rw [xw_i ha]; exact h0 a ha) (fun p => ?_)⟩, fun z => by omega⟩
    by_cases e : p = i
    · subst e; rw [xw_v, if_pos (by omega), h3, if_neg (by omega)]
    · rw [xw_x e, h3 p]
      by_cases e2 : i < p ∧ p ≤ fr
      · rw [if_pos e2, if_pos (by omega)]
      · rw [if_neg e2, if_neg (by omega)]
theorem yl_19_32 (hf : fr < 14) (hpl : pl < 14) (hp : ∀ R1 : Nat → xw, (∀ a, ¬ a = 3 → R1 a = R a) → (∀ j, R1 3 j = if fr ≤ j ∧ j < pl then R 3 (j + 1) else R 3 j) → xq_wp d 19 (xq_s g J (xc q I R1)) 69 [.ref (xid q 0), .int (nI b), .int (nI pl), .int (nI n), .int (nI fr), .int (nI fr)] [] Q) : ∀ (c i : Nat) (Ri : Nat → xw), fr ≤ i → i + c = max fr pl → (∀ a, ¬ a = 3 → Ri a = R a) → (∀ j, Ri 3 j = if fr ≤ j ∧ j < i then R 3 (j + 1) else R 3 j) → xq_wp d 19 (xq_s g J (xc q I Ri)) 32 [.ref (xid q 0), .int (nI b), .int (nI pl), .int (nI n), .int (nI fr), .int (nI i)] [] Q := by
  intro c
  induction c with
  | zero =>
    intro i Ri h1 h2 h0 h3
    refine yu_19_32 (d := d) ⟨by omega, fun z => by omega, fun _ => ⟨by omega, fun z => by omega, fun _ => hp Ri h0 (fun p => ?_)⟩⟩
    rw [h3 p]
    by_cases e2 : fr ≤ p ∧ p < i
    · rw [if_pos e2, if_pos (by omega)]
    · rw [if_neg e2, if_neg (by omega)]
  | succ c ih =>
    intro i Ri h1 h2 h0 h3
    refine yu_19_32 (d := d) ⟨by omega, fun z => by omega, fun _ => ⟨by omega, fun _ => ⟨by omega, by omega, ih (i + 1) _ (by omega) (by omega) (fun a ha => by rw [xw_i ha]; exact h0 a ha) (fun p => ?_)⟩, fun z => by omega⟩⟩
    by_cases e : p = i
    · subst e; rw [xw_v, if_pos (by omega), h3, if_neg (by omega)]
    · rw [xw_x e, h3 p]
      by_cases e2 : fr ≤ p ∧ p < i
      · rw [if_pos e2, if_pos (by omega)]
      · rw [if_neg e2, if_neg (by omega)]
theorem yl_19 (ho : ok n ns W) (h : CR q n ns I R W) (hb : b < n) (hpl : pl < n) (hp : ∀ (fr : Nat) (R' : Nat → xw), fr < n → W (30 + fr) = nI b → CR q n ns I R' (rkW n fr pl W) → (∀ a, ¬ a = 3 → R' a = R a) → Q (some (.int (nI 1))) (xq_s g J (xc q I R'))) : xq_wp (d + 1) 19 (xq_s g J (xc q I R)) 0 [.ref (xid q 0), .int (nI b), .int (nI pl), .int (nI n), xq_un, xq_un] [] Q := by
  have n14 := ho.1.2.1
  obtain ⟨fr, hf, ef⟩ := ok_pl ho hb
  have c3 := CR_3 h
  refine yu_19 (d := d) ⟨by omega, fun z => by omega, fun _ => ⟨by omega, fun _ => ⟨by omega, fun z => by omega, fun _ => ⟨fun _ => ?_, fun z => absurd hpl z⟩⟩, fun z => absurd hb z⟩⟩
  have e0 : xq_wp d 20 (xq_s g J (xc q I R)) 2 [.ref (xid q 0), .int (nI b), .int (nI n), .int (nI 0)] [] (fun v x1 => xq_wp (d + 1) 19 x1 26 [.ref (xid q 0), .int (nI b), .int (nI pl), .int (nI n), xq_un, xq_un] (v.toList ++ []) Q) := by
    refine yl_20 ho c3 hf hb ef ?_ fr 0 (by omega)
    refine yu_19_26 (d := d + 1) (yl_19_32 (R := R) (by omega) (by omega) (fun R1 h0 h1 => yl_19_69 (R1 := R1) (by omega) (by omega) (fun R' h0' h2 => hp fr R' hf ef (CR_ord ho h (fun i hi => (h0' i hi).trans (h0 i hi)) (fun p hp => by rw [rkW, if_neg hp]) (fun j hj => ?_)) (fun a ha => (h0' a ha).trans (h0 a ha))) (fr - min pl fr) fr R1 (by omega) (by omega) (fun _ _ => rfl) (fun j => by rw [if_neg (by omega)])) (max fr pl - fr) fr R (by omega) (by omega) (fun _ _ => rfl) (fun j => by rw [if_neg (by omega)]))
    have ev : rkW n fr pl W (30 + j) = W (30 + sg fr pl j) := by rw [rkW, if_pos (show 30 ≤ 30 + j ∧ 30 + j < 30 + n by omega), show 30 + j - 30 = j by omega]
    rw [h2 j, ev]
    by_cases e : j = pl
    · rw [if_pos e, sg, if_pos e, ef]
    · rw [if_neg e]
      by_cases e2 : pl < j ∧ j ≤ fr
      · rw [if_pos e2, h1, if_neg (show ¬ (fr ≤ j - 1 ∧ j - 1 < pl) by omega), sg, if_neg e, if_neg (show ¬ (fr ≤ j ∧ j < pl) by omega), if_pos e2]
        exact c3 _ (by omega)
      · rw [if_neg e2, h1]
        by_cases e3 : fr ≤ j ∧ j < pl
        · rw [if_pos e3, sg, if_neg e, if_pos e3]; exact c3 _ (by omega)
        · rw [if_neg e3, sg, if_neg e, if_neg e3, if_neg e2]; exact c3 _ hj
  cases q
  · exact xq_wp.go (k := 2) (fun F => rfl) e0
  · exact xq_wp.go (k := 2) (fun F => rfl) e0
end xk_rk
