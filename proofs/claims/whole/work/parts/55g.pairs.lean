/-! the pair: plan -/
section xk_p9
theorem xm_o {I : Nat → xw} {A W P F N : xw} {a : Nat} (h : ¬ a = 126 ∧ ¬ a = 127 ∧ ¬ a = 136 ∧ ¬ a = 137 ∧ ¬ a = 138) : xm I A W P F N a = I a := by
  unfold xm
  rw [xv_ne h.2.1, xv_ne h.1, xv_ne h.2.2.2.2, xv_ne h.2.2.2.1, xv_ne h.2.2.1]
theorem P9 : xq_P9 126 Inv := by
  refine pair_of (fun g J I hi => ?_)
  have hi' := hi
  obtain ⟨n, ns, hA, hT, hP, hR, hS, hH, hK, hJ⟩ := hi'
  obtain ⟨ho, hw, hbk, hC, h32, h29⟩ := hA
  have n14 := ho.1.2.1
  have hP' := hP
  obtain ⟨S, s100, h14, h60, hpl⟩ := hP'
  have hpc := pl_of hpl
  obtain ⟨x, x9, ex⟩ := hw
  have e18 : I 18 10 = nI x := (CR_0 hC).1.trans ex
  have hM : ∀ j, 0 ≤ j → j < 0 + S → plM (I 127) j := fun j _ hj => (hpc j (by omega)).2
  have hPC : ∀ j, 0 ≤ j → j < 0 + S → plC I (I 127) j := fun j _ hj => (hpc j (by omega)).1
  have wsle := wsN_le (S := S) S 0 hM
  refine zc_99 (d := 89) (zc_100 (d := 89) (zl_100 (d := 89) (W0 := I 127) s100 h14 ?_ S 0 0 (by omega) hPC (by omega)))
  refine zc_99_10 (d := 89) ⟨fun y => ⟨_, g, J, I, rfl, rfl, ⟨_, rfl⟩, ?_⟩, fun y => ?_⟩
  · rw [show xq_s g J I = xq_s g J (xm I (I 126) (I 127) (I 136) (I 137) (I 138)) from congrArg (xq_s g J) (xm_self I).symm]
    refine xu_242 (d := 90) (xl_242_4 (d := 89) s100 h60 (fun sm y1 y2 => ⟨rfl, g, J, I, congrArg (xq_s g J) (xm_self I), hi⟩) (fun sm y1 y2 => ?_) S 0 0 (by omega) hM (by omega))
    subst y2
    exact absurd (by rw [ex, ← e18]; exact y) y1
  · rw [show xq_s g J I = xq_s g J (xc true I (xcR true I)) from congrArg (xq_s g J) xc_self]
    refine yu_101 (q := true) (d := 89) (yl_101_2 (q := true) (d := 84) (n := n) (ns := ns) (W0 := I 127) s100 h14 S 0 (I 127, I 126 32, I 32 9) x (xcR true I) xq_un (by omega) ho ex (by omega) hPC hC h32 rfl (fun R' k1 k2 k3 k4 => zc_99_45 (d := 88) ⟨_, g, J, _, rfl, rfl, ⟨_, rfl⟩, ?_⟩))
    have xs : x + wsN (I 127) S 0 ≤ 9999 := by
      rw [e18, nI_add] at y
      exact Nat.le_of_not_lt (fun z => y ((xn_lt (by omega) (by omega)).mpr z))
    have o2 : ∀ a, ¬ a = 34 → ¬ a = 56 → xq_w (xq_w (xc true I R') 56 3 (nI 0)) 34 4 (nI 0) a = xc true I R' a := fun a a1 a2 => by rw [xw_i a1, xw_i a2]
    have p34 : xq_w (xq_w (xc true I R') 56 3 (nI 0)) 34 4 (nI 0) 34 4 = nI 0 := by rw [xw_v]
    have p563 : xq_w (xq_w (xc true I R') 56 3 (nI 0)) 34 4 (nI 0) 56 3 = nI 0 := by rw [xw_i (by omega), xw_v]
    have p562 : xq_w (xq_w (xc true I R') 56 3 (nI 0)) 34 4 (nI 0) 56 2 = I 56 2 := by rw [xw_i (by omega), xw_x (by omega), xc_o (by omega)]
    generalize xq_w (xq_w (xc true I R') 56 3 (nI 0)) 34 4 (nI 0) = I2 at *
    have oI : ∀ a, ¬ a = 34 → ¬ a = 56 → ¬ ((12 ≤ a ∧ a < 14) ∨ (18 ≤ a ∧ a < 34)) → I2 a = I a := fun a a1 a2 a3 => (o2 a a1 a2).trans (xc_o a3)
    have e126 : I2 126 = I 126 := oI 126 (by omega) (by omega) (by omega)
    have e127 : I2 127 = I 127 := oI 127 (by omega) (by omega) (by omega)
    rw [show xq_s g J I2 = xq_s g J (xm I2 (I 126) (I 127) (I2 136) (I2 137) (I2 138)) from congrArg (xq_s g J) (by rw [← e126, ← e127, xm_self])]
    refine xu_242 (d := 90) (xl_242_4 (d := 89) s100 h60 (fun sm y1 y2 => ?_) (fun sm y1 y2 => ?_) S 0 0 (by omega) hM (by omega))
    · subst y2
      exact absurd (by rw [e18, ← ex]; exact y1) y
    · subst y2
      refine xu_243 (q := true) (d := 89) (xl_243 (q := true) (d := 80) (n := n) (ns := ns) (W0 := I 127) s100 h60 S 0 (I 127, I 126 32, I 32 9) x (I 126) _ _ _ (by omega) ho ex (by omega) h29 rfl hM (fun _ _ => rfl) (fun A' P' F' N' a1 a2 => xu_242_81 (d := 89) ⟨rfl, g, J, _, rfl, ?_⟩))
      obtain ⟨t1, t2, t3, t4⟩ := plT_K (q := true) (W0 := I 127) S 0 (I 127, I 126 32, I 32 9) x ho ex (by omega) hM
      generalize plT true n (I 127) S 0 (I 127, I 126 32, I 32 9) = w at *
      have o : ∀ a, ¬ a = 126 ∧ ¬ a = 127 ∧ ¬ a = 136 ∧ ¬ a = 137 ∧ ¬ a = 138 → xm I2 (upd A' 4 (nI 0)) w.1 P' F' N' a = I2 a := fun a ha => xm_o ha
      have f126 : xm I2 (upd A' 4 (nI 0)) w.1 P' F' N' 126 = upd A' 4 (nI 0) := rfl
      have f127 : xm I2 (upd A' 4 (nI 0)) w.1 P' F' N' 127 = w.1 := rfl
      generalize xm I2 (upd A' 4 (nI 0)) w.1 P' F' N' = I3 at *
      have oo : ∀ a, ¬ a = 34 → ¬ a = 56 → ¬ ((12 ≤ a ∧ a < 14) ∨ (18 ≤ a ∧ a < 34)) → ¬ a = 126 ∧ ¬ a = 127 ∧ ¬ a = 136 ∧ ¬ a = 137 ∧ ¬ a = 138 → I3 a = I a := fun a b1 b2 b3 b4 => (o a b4).trans (oI a b1 b2 b3)
      have r9 : ∀ j, I3 32 j = R' 9 j := fun j => by
        rw [o 32 (by omega), o2 32 (by omega) (by omega)]
        exact congrFun (xc_in (q := true) (I := I) (R := R') 9 (by omega)) j
      refine iv_told (n := n) (ns := ns) hi ⟨?_, ?_, ?_, ?_, ?_, ?_⟩ ?_ ?_ ?_ ?_ ?_ (fun a ha => oo a (by omega) (by omega) (by omega) (by omega)) (fun j hj => ?_) ?_
      · rw [f127]; exact t1
      · rw [f127]; exact ⟨_, xs, t2⟩
      · rw [f127]; exact t3 hbk
      · rw [f127]
        refine CR_at k1 (fun a ha => oo a (by omega) (by omega) (by omega) (by omega)) (fun i hi => ?_) (r9 4)
        have hx2 : ¬ xid true i = 34 ∧ ¬ xid true i = 56 ∧ ¬ xid true i = 126 ∧ ¬ xid true i = 127 ∧ ¬ xid true i = 136 ∧ ¬ xid true i = 137 ∧ ¬ xid true i = 138 := by
          rcases i14 hi with e | e | e | e | e | e | e | e | e | e | e | e | e | e <;> (subst e; decide)
        rw [o _ hx2.2.2, o2 _ hx2.1 hx2.2.1, xc_in i (by omega)]
      · rw [r9]; exact k2
      · rw [f126, upd_ne (by omega)]; exact (a1 29 (by omega) (by omega)).trans h29
      · rw [o 34 (by omega)]; exact p34
      · rw [o 56 (by omega)]; exact p563
      · rw [f126, upd_eq]
      · rw [o 56 (by omega)]; exact p562
      · unfold ivP at hP ⊢
        rw [oo 14 (by omega) (by omega) (by omega) (by omega), oo 15 (by omega) (by omega) (by omega) (by omega), oo 16 (by omega) (by omega) (by omega) (by omega), oo 17 (by omega) (by omega) (by omega) (by omega), f127]
        exact plR_fr hP (fun p hp => t4 p (by omega))
      · rw [f126, upd_ne (by omega)]; exact a1 j (by omega) (by omega)
      · rw [r9]; exact (CR_real k1).trans (CR_real hC).symm
end xk_p9
