/-! the pairs: weeks, undo -/
def utc (a : Nat) : Prop := a < 12 ∨ (14 ≤ a ∧ a < 18) ∨ (35 ≤ a ∧ a < 56) ∨ 104 ≤ a
section xk_p8
variable {d : Nat} {g : xq_V} {J : Nat → Nat → Int64} {Q : Option Value → xq_S → Prop} {n ns m : Nat}
theorem xid_t {i : Nat} (hi : i < 18) : (12 ≤ xid true i ∧ xid true i < 14) ∨ (18 ≤ xid true i ∧ xid true i < 34) := by
  match i, hi with
  | 0, _ | 1, _ | 2, _ | 3, _ | 4, _ | 5, _ | 6, _ | 7, _ | 8, _ | 9, _ | 10, _ | 11, _ | 12, _ | 13, _ | 14, _ | 15, _ | 16, _ | 17, _ => decide
  | i + 18, h => exact absurd h (by omega)
theorem xc_o {I R : Nat → xw} {a : Nat} (h : ¬ ((12 ≤ a ∧ a < 14) ∨ (18 ≤ a ∧ a < 34))) : xc true I R a = I a := xc_out (fun i hi z => h (by rw [z]; exact xid_t hi))
theorem zl_69_35 (hm : m ≤ 60) : ∀ (t k : Nat) (W : xw) (v : Int32) (K : xw) (c x : Nat) (I : Nat → xw), k + t = m → ok n ns W → W 2 = nI x → x + t ≤ 9999 → c ≤ 5 → CR true n ns I (xcR true I) W → I 32 10 = Int32.ofInt (-1) → ring n ns I K W c → (∀ I' : Nat → xw, CR true n ns I' (xcR true I') (wkI n t W v K c).1 → I' 32 10 = Int32.ofInt (-1) → ring n ns I' (wkI n t W v K c).2.2.1 (wkI n t W v K c).1 (wkI n t W v K c).2.2.2 → (∀ a, utc a → I' a = I a) → I' 34 4 = nI 0 → Q (some (.int (wkI n t W v K c).2.1)) (xq_s g J I')) → xq_wp (d + 5) 69 (xq_s g J I) 35 [.ref 0, .int (nI m), .int v, .int (nI k)] [] Q := by
  intro t
  induction t with
  | zero =>
    intro k W v K c x I hk ho ex hx hc hC h32 hr hp
    refine zc_69_35 (d := d + 4) ⟨by omega, by omega, fun h => absurd h (by omega), fun _ => zc_69_80 (d := d + 4) ?_⟩
    have o : ∀ a, ¬ a = 34 → xq_w I 34 4 (nI 0) a = I a := fun a ha => xw_i ha
    refine hp _ (CR_cells hC (fun a ha => o a (by omega)) (by rw [o 32 (by omega)])) (by rw [o 32 (by omega)]; exact h32) (ring_fr hr (fun a ha => o a (by omega)) (Nat.le_refl _)) (fun a ha => o a (by unfold utc at ha; omega)) (by rw [xw_v])
  | succ t ih =>
    intro k W v K c x I hk ho ex hx hc hC h32 hr hp
    have n14 := ho.1.2.1
    have hr0 := hr
    obtain ⟨r, r5, e3, e2, -⟩ := hr0
    refine zc_69_35 (d := d + 4) ⟨by omega, by omega, fun _ => yl_70 (d := d + 3) r5 hc e3 e2 (fun I1 o f3 f2 fl fo fS => ?_), fun h => absurd (show k < m by omega) h⟩
    have e27 : I 27 1 = W 6 := ((CR_B hC).1 rfl).2.1
    rw [e27] at fl
    have o1 : ∀ a, a < 56 ∨ 104 ≤ a → I1 a = I a := fun a ha => o a (by omega) (by omega) (by omega)
    have hC1 : CR true n ns I1 (xcR true I1) W := CR_cells hC (fun a ha => o1 a (by omega)) (by rw [o1 32 (by omega)])
    have hr1 : ring n ns I1 (kpK c K W) W (min 5 (c + 1)) := ring_keep hc hr ho ⟨x, by omega, ex⟩ hC r5 e2 f3 f2 (fun a ha => o1 a (by omega)) fl (fun j j5 jr => ⟨fo j jr, fun i hi => o _ (by omega) (by omega) (by omega)⟩) (fS n W n14 (CR_cSt hC))
    refine zc_69_64 (d := d + 4) ?_
    rw [show xq_s g J I1 = xq_s g J (xc true I1 (xcR true I1)) from congrArg (xq_s g J) xc_self]
    have h10 : xcR true I1 9 10 = Int32.ofInt (-1) := (congrFun (o1 32 (by omega)) 10).trans h32
    refine yl_72 (q := true) (d := d) (bar := Int32.ofInt (-1)) ho hC1 (fun b hb => ⟨fun z => absurd z (nI_m1 (by omega)), fun z => absurd (z.1.trans h10) (nI_m1 (by omega))⟩) (fun R' w w9 ew C' g10 g11 g9 => ?_)
    refine zc_69_72 (d := d + 5) ?_
    have c1 : ∀ a, utc a ∨ (34 ≤ a) → xc true I1 R' a = I1 a := fun a ha => xc_o (by unfold utc at ha; omega)
    have h10' : xc true I1 R' 32 10 = Int32.ofInt (-1) := (congrFun (xc_in (q := true) (I := I1) (R := R') 9 (by omega)) 10).trans (g10.trans h10)
    have hC2 : CR true n ns (xc true I1 R') (xcR true (xc true I1 R')) (sp_week true (Int32.ofInt (-1)) n W).1 := CR_at C' (fun a ha => c1 a (by unfold utc; omega)) (fun i hi => xc_in i (by omega)) (congrFun (xc_in (q := true) (I := I1) (R := R') 9 (by omega)) 4)
    rw [← ew]
    refine ih (k + 1) _ _ (kpK c K W) (min 5 (c + 1)) (x + 1) _ (by omega) (ok_sweek ho (show x < 20000 by omega) ex) (by rw [wk_week ho, ex, nI_add]) (by omega) (by omega) hC2 h10' (ring_fr hr1 (fun a ha => c1 a (by unfold utc; omega)) (bme_week ho).1) (fun I' q1 q2 q3 q4 q5 => hp I' q1 q2 q3 (fun a ha => ?_) q5)
    rw [q4 a ha, c1 a (Or.inl ha), o1 a (by unfold utc at ha; omega)]
theorem xkp_o {I : Nat → xw} {A W P F N K : xw} {a : Nat} (h : ¬ a = 126 ∧ ¬ a = 127 ∧ ¬ a = 129 ∧ ¬ a = 136 ∧ ¬ a = 137 ∧ ¬ a = 138) : xkp I A W P F N K a = I a := by
  unfold xkp xm
  rw [xv_ne h.2.1, xv_ne h.1, xv_ne h.2.2.2.2.2, xv_ne h.2.2.2.2.1, xv_ne h.2.2.2.1, xv_ne h.2.2.1]
theorem P8 : xq_P8 126 Inv := by
  intro z
  refine pair_of (fun g J I hi => ?_)
  have hi' := hi
  obtain ⟨n, ns, hA, hT, hP, hR, hS, hH, hK, hJ⟩ := hi'
  obtain ⟨ho, hw, hbk, hC, h32, h29⟩ := hA
  have n14 := ho.1.2.1
  obtain ⟨x, x9, ex⟩ := hw
  have e18 : I 18 10 = nI x := (CR_0 hC).1.trans ex
  have bad : z < nI 1 ∨ nI 60 < z ∨ nI 9999 < I 127 2 + z → xq_wp 90 211 (xq_s g J I) 0 [.ref 126, .int z, xq_un, xq_un] [] (fun v2 x2 => v2 = some (.int (Int32.ofInt (-1))) ∧ Inv x2) := by
    intro h
    rw [show xq_s g J I = xq_s g J (xkp I (I 126) (I 127) (I 136) (I 137) (I 138) (I 129)) from congrArg (xq_s g J) (xkp_self I).symm]
    refine xu_211 (d := 89) ⟨fun _ => ⟨rfl, g, J, I, congrArg (xq_s g J) (xkp_self I), hi⟩, fun y1 => ⟨fun _ => ⟨rfl, g, J, I, congrArg (xq_s g J) (xkp_self I), hi⟩, fun y2 => ⟨fun _ => ⟨rfl, g, J, I, congrArg (xq_s g J) (xkp_self I), hi⟩, fun y3 => ?_⟩⟩⟩
    rcases h with h | h | h
    · exact absurd h y1
    · exact absurd h y2
    · exact absurd h y3
  refine zc_69 (d := 90) ⟨fun h1 => ⟨_, g, J, I, rfl, rfl, ⟨_, rfl⟩, bad (Or.inl h1)⟩, fun h1 => ⟨fun h2 => ⟨_, g, J, I, rfl, rfl, ⟨_, rfl⟩, bad (Or.inr (Or.inl h2))⟩, fun h2 => ⟨fun h3 => ⟨_, g, J, I, rfl, rfl, ⟨_, rfl⟩, bad (Or.inr (Or.inr (by rw [ex, ← e18]; exact h3)))⟩, fun h3 => ?_⟩⟩⟩
  obtain ⟨m, m1, m60, em⟩ := i_rng h1 h2 (by omega) (by omega)
  subst em
  have xm9 : x + m ≤ 9999 := by
    rw [e18, nI_add] at h3
    exact Nat.le_of_not_lt (fun q => h3 ((xn_lt (by omega) (by omega)).mpr q))
  obtain ⟨c, c5, e4, hr⟩ := iv_ring hH
  obtain ⟨k1, k2, k3, k4, k5⟩ := wkI_ok m (I 127) (nI 0) (I 129) c x ho ex xm9 c5
  refine zl_69_35 (d := 85) (n := n) (ns := ns) m60 m 0 (I 127) (nI 0) (I 129) c x I (by omega) ho ex xm9 c5 hC h32 hr (fun I' q1 q2 q3 q4 q5 => ⟨_, g, J, I', rfl, rfl, ⟨_, rfl⟩, ?_⟩)
  have e126 : I' 126 = I 126 := q4 126 (by unfold utc; omega)
  have e127 : I' 127 = I 127 := q4 127 (by unfold utc; omega)
  have e129 : I' 129 = I 129 := q4 129 (by unfold utc; omega)
  rw [show xq_s g J I' = xq_s g J (xkp I' (I 126) (I 127) (I' 136) (I' 137) (I' 138) (I 129)) from congrArg (xq_s g J) (by rw [← e126, ← e127, ← e129, xkp_self])]
  refine xu_211 (d := 89) ⟨fun y => absurd y h1, fun _ => ⟨fun y => absurd y h2, fun _ => ⟨fun y => absurd (by rw [e18, ← ex]; exact y) h3, fun _ => ?_⟩⟩⟩
  refine xl_211_30 (d := 83) (n := n) (ns := ns) m60 m 0 (I 127) (nI 0) (I 129) c x (I 126) _ _ _ (by omega) ho ex xm9 c5 e4 h29 (fun A' P' F' N' a4 aj => ⟨rfl, g, J, _, rfl, ?_⟩)
  generalize hW : wkI n m (I 127) (nI 0) (I 129) c = w at *
  have o : ∀ a, ¬ a = 126 ∧ ¬ a = 127 ∧ ¬ a = 129 ∧ ¬ a = 136 ∧ ¬ a = 137 ∧ ¬ a = 138 → xkp I' A' w.1 P' F' N' w.2.2.1 a = I' a := fun a ha => xkp_o ha
  have f126 : xkp I' A' w.1 P' F' N' w.2.2.1 126 = A' := rfl
  have f127 : xkp I' A' w.1 P' F' N' w.2.2.1 127 = w.1 := rfl
  have f129 : xkp I' A' w.1 P' F' N' w.2.2.1 129 = w.2.2.1 := rfl
  generalize xkp I' A' w.1 P' F' N' w.2.2.1 = I2 at *
  have r1 : I2 32 4 = nI 1 := by rw [o 32 (by omega)]; exact CR_real q1
  have ou : ∀ a, utc a → ¬ a = 126 ∧ ¬ a = 127 ∧ ¬ a = 129 ∧ ¬ a = 136 ∧ ¬ a = 137 ∧ ¬ a = 138 → I2 a = I a := fun a h1 h2 => (o a h2).trans (q4 a h1)
  refine ⟨n, ns, ⟨?_, ?_, ?_, ?_, ?_, ?_⟩, ivT_fr hT (fun j _ => by rw [ou 46 (by unfold utc; omega) (by omega)]) (fun j _ => by rw [ou 47 (by unfold utc; omega) (by omega)]), ?_, ivR_fr hR (ou 104 (by unfold utc; omega) (by omega)) (ou 105 (by unfold utc; omega) (by omega)) (ou 135 (by unfold utc; omega) (by omega)) (fun j hj => by rw [f126]; exact aj j (by omega) (by omega)), Or.inl (by rw [o 34 (by omega)]; exact q5), ring_iv k5 (by rw [f129, f127]; exact ring_fr q3 (fun a ha => o a (by omega)) (Nat.le_refl _)) (by rw [f126]; exact a4), ivK_fr2 hK (ou 128 (by unfold utc; omega) (by omega)) (fun a ha => ou a (by unfold utc; omega) (by omega)) (by rw [f126]; exact aj 5 (by omega) (by omega)) (r1.trans (CR_real hC).symm), hJ⟩
  · rw [f127]; exact k1
  · rw [f127]; exact k2
  · rw [f127]; exact k3 hbk
  · rw [f127]; exact CR_cells q1 (fun a ha => o a (by omega)) (by rw [o 32 (by omega)])
  · rw [o 32 (by omega)]; exact q2
  · rw [f126]; exact (aj 29 (by omega) (by omega)).trans h29
  · unfold ivP at hP ⊢
    rw [ou 14 (by unfold utc; omega) (by omega), ou 15 (by unfold utc; omega) (by omega), ou 16 (by unfold utc; omega) (by omega), ou 17 (by unfold utc; omega) (by omega), f127]
    exact plR_fr hP (fun p hp => k4 p (by unfold stp; omega))
theorem P28 : xq_P28 126 Inv := by
  refine pair_of (fun g J I hi => ?_)
  have hi' := hi
  obtain ⟨n, ns, hA, hT, hP, hR, hS, hH, hK, hJ⟩ := hi'
  obtain ⟨ho, hw, hbk, hC, h32, h29⟩ := hA
  have n14 := ho.1.2.1
  have ns8 := ho.1.2.2.2
  obtain ⟨c, c5, e4, r, r5, e3, e2, hr⟩ := iv_ring hH
  have es : xq_s g J I = xq_s g J (xkp I (I 126) (I 127) (I 136) (I 137) (I 138) (I 129)) := congrArg (xq_s g J) (xkp_self I).symm
  refine zc_151 (d := 89) (c := c) ⟨e3, by omega, fun c0 => ⟨_, g, J, I, rfl, rfl, ⟨_, rfl⟩, ?_⟩, fun c0 => yl_152 (d := 88) r5 (by omega) e3 e2 (fun I1 o1 f3 f2 fS => zc_151_33 (d := 89) ⟨_, g, J, _, rfl, rfl, ⟨_, rfl⟩, ?_⟩)⟩
  · rw [es]
    exact xu_210 (d := 90) (c := c) ⟨e4, by omega, fun _ => ⟨rfl, g, J, I, congrArg (xq_s g J) (xkp_self I), hi⟩, fun h => absurd c0 h⟩
  have o2 : ∀ a, ¬ a = 27 → ¬ a = 34 → xq_w (xq_w I1 27 1 (I 58 ((r + 4) % 5))) 34 4 (nI 0) a = I1 a := fun a a1 a2 => by rw [xw_i a2, xw_i a1]
  have l1 : xq_w (xq_w I1 27 1 (I 58 ((r + 4) % 5))) 34 4 (nI 0) 27 1 = I 58 ((r + 4) % 5) := by rw [xw_i (by omega), xw_v]
  have l0 : xq_w (xq_w I1 27 1 (I 58 ((r + 4) % 5))) 34 4 (nI 0) 27 0 = I 27 0 := by rw [xw_i (by omega), xw_x (by omega), o1 27 (by omega) (by omega)]
  have s0 : xq_w (xq_w I1 27 1 (I 58 ((r + 4) % 5))) 34 4 (nI 0) 34 4 = nI 0 := by rw [xw_v]
  generalize xq_w (xq_w I1 27 1 (I 58 ((r + 4) % 5))) 34 4 (nI 0) = I2 at *
  have oI : ∀ a, ¬ a = 27 → ¬ a = 34 → ¬ a = 56 → a < 18 ∨ 26 < a → I2 a = I a := fun a a1 a2 a3 a4 => (o2 a a1 a2).trans (o1 a a3 a4)
  have e126 : I2 126 = I 126 := oI 126 (by omega) (by omega) (by omega) (by omega)
  have e127 : I2 127 = I 127 := oI 127 (by omega) (by omega) (by omega) (by omega)
  have e129 : I2 129 = I 129 := oI 129 (by omega) (by omega) (by omega) (by omega)
  rw [show xq_s g J I2 = xq_s g J (xkp I2 (I 126) (I 127) (I2 136) (I2 137) (I2 138) (I 129)) from congrArg (xq_s g J) (by rw [← e126, ← e127, ← e129, xkp_self])]
  refine xu_210 (d := 90) (c := c) ⟨e4, by omega, fun h => absurd h c0, fun _ => ⟨e4, by omega, xl_210_21 (d := 90) (e := c - 1) (by omega) upd_eq 250 0 (I 127) (by omega) ⟨rfl, g, J, _, rfl, ?_⟩⟩⟩
  have eW : ∀ p, 250 ≤ p → (fun p => if 0 ≤ p ∧ p < 250 then I 129 (250 * (c - 1) + p) else I 127 p) p = I 127 p := fun p hp => if_neg (by omega)
  have eV : ∀ p, p < 250 → (fun p => if 0 ≤ p ∧ p < 250 then I 129 (250 * (c - 1) + p) else I 127 p) p = I 129 (250 * (c - 1) + p) := fun p hp => if_pos (by omega)
  generalize (fun p => if 0 ≤ p ∧ p < 250 then I 129 (250 * (c - 1) + p) else I 127 p) = W' at *
  have o : ∀ a, ¬ a = 126 ∧ ¬ a = 127 ∧ ¬ a = 129 ∧ ¬ a = 136 ∧ ¬ a = 137 ∧ ¬ a = 138 → xkp I2 (upd (I 126) 4 (nI (c - 1))) W' (I2 136) (I2 137) (I2 138) (I 129) a = I2 a := fun a ha => xkp_o ha
  have f126 : xkp I2 (upd (I 126) 4 (nI (c - 1))) W' (I2 136) (I2 137) (I2 138) (I 129) 126 = upd (I 126) 4 (nI (c - 1)) := rfl
  have f127 : xkp I2 (upd (I 126) 4 (nI (c - 1))) W' (I2 136) (I2 137) (I2 138) (I 129) 127 = W' := rfl
  have f129 : xkp I2 (upd (I 126) 4 (nI (c - 1))) W' (I2 136) (I2 137) (I2 138) (I 129) 129 = I 129 := rfl
  generalize xkp I2 (upd (I 126) 4 (nI (c - 1))) W' (I2 136) (I2 137) (I2 138) (I 129) = I3 at *
  have oo : ∀ a, ¬ a = 27 → ¬ a = 34 → ¬ a = 56 → a < 18 ∨ 26 < a → ¬ a = 126 ∧ ¬ a = 127 ∧ ¬ a = 129 ∧ ¬ a = 136 ∧ ¬ a = 137 ∧ ¬ a = 138 → I3 a = I a := fun a a1 a2 a3 a4 a5 => (o a a5).trans (oI a a1 a2 a3 a4)
  obtain ⟨⟨t1, t2, t3, t4⟩, t5, t6, t7⟩ := hr (c - 1) (by omega)
  rw [show (r + 5 - c + (c - 1)) % 5 = (r + 4) % 5 by omega] at t4 t5
  have i6 : sp_ix W' 6 = sp_ix (I 129) (250 * (c - 1) + 6) := by unfold sp_ix; rw [eV 6 (by omega)]
  obtain ⟨s1, sb, s2, s3, s4, s5, s6, s7, s8⟩ := okS_ext t1 eV
  have okW : ok n ns W' := ⟨s1, sb, s2, s3, s4, s5, s6, s7, s8, ok9_fr ho.2.2.2.2.2.2.2.2.2.1 (fun k hk => eW _ (by omega)), sp_law_fr ho.2.2.2.2.2.2.2.2.2.2 (fun p p1 p2 => eW p (by omega))⟩
  obtain ⟨lw, hlw, elw⟩ := ho.2.1
  have i6W : sp_ix (I 127) 6 = lw := xk_ix elw (by omega)
  have r1 : I3 32 4 = nI 1 := by rw [oo 32 (by omega) (by omega) (by omega) (by omega) (by omega)]; exact CR_real hC
  refine ⟨n, ns, ⟨?_, ?_, ?_, ?_, ?_, ?_⟩, ivT_fr hT (fun j _ => by rw [oo 46 (by omega) (by omega) (by omega) (by omega) (by omega)]) (fun j _ => by rw [oo 47 (by omega) (by omega) (by omega) (by omega) (by omega)]), ?_, ivR_fr hR (oo 104 (by omega) (by omega) (by omega) (by omega) (by omega)) (oo 105 (by omega) (by omega) (by omega) (by omega) (by omega)) (oo 135 (by omega) (by omega) (by omega) (by omega) (by omega)) (fun j hj => by rw [f126]; exact upd_ne (by omega)), Or.inl (by rw [o 34 (by omega)]; exact s0), ring_iv (c := c - 1) (by omega) ?_ (by rw [f126, upd_eq]), ivK_fr2 hK (oo 128 (by omega) (by omega) (by omega) (by omega) (by omega)) (fun a ha => oo a (by omega) (by omega) (by omega) (by omega) (by omega)) (by rw [f126]; exact upd_ne (by omega)) (r1.trans (CR_real hC).symm), hJ⟩
  · rw [f127]; exact okW
  · rw [f127]; exact w9_fr t2 (eV 2 (by omega))
  · rw [f127]
    intro i hi
    have := hbk i (by omega)
    rw [eW _ (by omega), eW _ (by omega), eW _ (by omega)]
    exact this
  · rw [f127]
    have hG := CR_G hC
    have hB := (CR_B hC).1 rfl
    refine CR_mk ?_ ?_ r1 ?_ ⟨fun _ => ⟨?_, ?_, fun i hi => ?_⟩, fun h => absurd h (by decide)⟩
    · have hb := cGb_V n14 t3 eV
      unfold cG
      unfold cGb at hb
      rw [oo 2 (by omega) (by omega) (by omega) (by omega) (by omega), oo 3 (by omega) (by omega) (by omega) (by omega) (by omega), oo 4 (by omega) (by omega) (by omega) (by omega) (by omega), oo 5 (by omega) (by omega) (by omega) (by omega) (by omega), oo 6 (by omega) (by omega) (by omega) (by omega) (by omega), oo 7 (by omega) (by omega) (by omega) (by omega) (by omega), oo 8 (by omega) (by omega) (by omega) (by omega) (by omega)]
      refine ⟨hb.1, hb.2.1, hb.2.2, fun k hk => ?_⟩
      rw [eW _ (by omega), eW _ (by omega)]
      exact hG.2.2.2 k hk
    · rw [oo 9 (by omega) (by omega) (by omega) (by omega) (by omega), oo 10 (by omega) (by omega) (by omega) (by omega) (by omega), oo 11 (by omega) (by omega) (by omega) (by omega) (by omega)]
      exact cLaw_fr ho.2.2.2.2.2.2.2.2.2.2 (CR_law hC) (fun p p1 p2 => eW p (by omega))
    · have h1 := fS n W' n14 (cSt_V n14 t4 eV)
      have er : ∀ i, i < 9 → xcR true I3 i = xcR true I1 i := by
        intro i hi
        match i, hi with
        | 0, _ | 1, _ | 2, _ | 3, _ | 4, _ | 5, _ | 6, _ | 7, _ | 8, _ => exact (o _ (by decide)).trans (o2 _ (by decide) (by decide))
        | i + 9, h => exact absurd h (by omega)
      exact cSt_ext h1 n14 (fun j _ _ => congrFun (er 0 (by omega)) j) (fun j _ => congrFun (er 1 (by omega)) j) (fun j _ => congrFun (er 2 (by omega)) j) (fun i j i1 i2 _ => congrFun (er i (by omega)) j) (fun j _ => congrFun (er 8 (by omega)) j)
    · show I3 27 0 = nI 200
      rw [o 27 (by omega), l0]; exact hB.1
    · show I3 27 1 = W' 6
      rw [o 27 (by omega), l1, eV 6 (by omega)]; exact t5.symm
    · have := hB.2.2 i (by omega)
      rw [eW _ (by omega), eW _ (by omega), eW _ (by omega), eW _ (by omega)]
      refine ⟨(congrFun (oo 28 (by omega) (by omega) (by omega) (by omega) (by omega)) i).trans this.1, (congrFun (oo 29 (by omega) (by omega) (by omega) (by omega) (by omega)) i).trans this.2.1, (congrFun (oo 30 (by omega) (by omega) (by omega) (by omega) (by omega)) i).trans this.2.2.1, (congrFun (oo 31 (by omega) (by omega) (by omega) (by omega) (by omega)) i).trans this.2.2.2⟩
  · rw [oo 32 (by omega) (by omega) (by omega) (by omega) (by omega)]; exact h32
  · rw [f126, upd_ne (by omega)]; exact h29
  · unfold ivP at hP ⊢
    rw [oo 14 (by omega) (by omega) (by omega) (by omega) (by omega), oo 15 (by omega) (by omega) (by omega) (by omega) (by omega), oo 16 (by omega) (by omega) (by omega) (by omega) (by omega), oo 17 (by omega) (by omega) (by omega) (by omega) (by omega), f127]
    exact plR_fr hP (fun p hp => eW p (by omega))
  · rw [f129, f127]
    refine ⟨(r + 4) % 5, Nat.mod_lt _ (by omega), ?_, ?_, fun j hj => ?_⟩
    · rw [o 56 (by omega), o2 56 (by omega) (by omega)]; exact f3
    · rw [o 56 (by omega), o2 56 (by omega) (by omega)]; exact f2
    · obtain ⟨u1, u2, u3, u4⟩ := hr j (by omega)
      rw [show ((r + 4) % 5 + 5 - (c - 1) + j) % 5 = (r + 5 - c + j) % 5 by omega]
      have hm : (r + 5 - c + j) % 5 < 5 := Nat.mod_lt _ (by omega)
      generalize (r + 5 - c + j) % 5 = ρ at *
      refine ⟨snp_fr u1 (fun a ha => oo a (by omega) (by omega) (by omega) (by omega) (by omega)) (fun i hi => oo _ (by omega) (by omega) (by omega) (by omega) (by omega)), ?_, ?_, u4⟩
      · rw [oo 58 (by omega) (by omega) (by omega) (by omega) (by omega)]; exact u2
      · rw [i6]; exact t7 j hj
end xk_p8
