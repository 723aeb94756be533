/-! new cells -/
section xq_news
variable {p : Program} {l : Launch} {e : Env} {R : Room} {s : State} {mid : MethodId} {args : Array Value} {below : List Frame} {meth : Method} {c : Code} {Q : State → Prop}
variable {t : xq_Th} {o nL n0 z0 : Nat} {ini : Bool} {by_ : ByteArray} {x x' : xq_S} {q pc pc' : Nat} {L L' st st' r : List Value}
theorem xq_ent_old {k ci n : Nat} (hk : k < xq_N x) : xq_ent t (xq_new x ci n) k = xq_ent t x k := by
  have h : k ≠ xq_N x := by omega
  exact xq_ent_congr (va_up_ne _ _ h) (va_up_ne _ _ h) (va_up_ne _ _ h) (va_up_ne _ _ h)
theorem xq_S_new {H H1 : Heap} {locs : List Loc} {A : Nat → Prop} {H0 : Heap} (hS : va_S A H0 H locs) (hz : H1.size = H.size + 1) (hq : ∀ q, q < H.size → H1[q]? = H[q]?) : va_S A H0 H1 locs :=
  ⟨Nat.le_trans hS.1 (by omega), fun y h1 h2 => (hq y (Nat.lt_of_lt_of_le h1 hS.1)).trans (hS.2.1 y h1 h2), hS.2.2⟩
theorem xq_sB_big {n : Nat} (h : n < 100000) : n < xq_sB := by
  have : xq_sB = 1000000 := rfl
  omega
theorem xq_newi_ok (Cx : xq_Cx t p R s mid args meth c o ini by_ nL) (hd : decode by_ pc = .ok (.newarray .int, 2)) (h : xq_newa (pc + 2) x L st 100 = some (pc', x', L', st')) (hn : n0 ≤ xq_N x) (hz : z0 ≤ xq_Z x) (hR1 : xq_N x' - n0 ≤ R.cells) (hR2 : xq_Z x' - z0 ≤ R.slots) (harr : (Cond.arrayClass .int) ∈ xq_gw) (kk : xq_Ok p l e R s mid args below meth c Q t nL n0 z0 x' pc' L' st') : xq_Ok p l e R s mid args below meth c Q t nL n0 z0 x pc L st := by
  unfold xq_newa at h
  split at h
  · rename_i n r
    split at h
    · rename_i hb
      simp only [Bool.and_eq_true, decide_eq_true_eq, Bool.not_eq_true', decide_eq_false_iff_not] at hb
      obtain ⟨⟨h1, h2⟩, h3⟩ := hb
      cases h
      intro H locs ls hH hS hL
      have e1 : xq_N (xq_new x 100 n.toNatClampNeg) = xq_N x + 1 := rfl
      have e2 : xq_Z (xq_new x 100 n.toNatClampNeg) = xq_Z x + n.toNatClampNeg := rfl
      rw [e1] at hR1
      rw [e2] at hR2
      refine va_newaK (atype := .int) (g := F0 mid pc ls (.int n :: r.map (xq_sh t))) Cx.1 Cx.2.1 (Cx.2.2.2.2.1 _ harr) rfl hd rfl h1 rfl (by show n.toNatClampNeg * 4 ≤ _; omega) (by omega) (by omega) rfl fun H1 cA g1 g2 g3 g4 g5 => ?_
      have hcA : cA = t.2.2.1.1 := Option.some.inj (g5.symm.trans (Cx.2.2.2.2.2.1.2 0 _ rfl).2)
      subst hcA
      have := kk H1 locs ls (xq_H_new hH (xq_sB_big h3) e1 (fun j hj => xq_ent_old hj) g2 g3 (by
        rw [xq_ent_i (show (xq_K (xq_new x 100 n.toNatClampNeg) (xq_N x)).1 = 100 from congrArg Prod.fst (va_up_self _ _ _))]
        show H1[H.size]? = some (vp_cell _ ((va_up _ (xq_N x) (100, n.toNatClampNeg) (xq_N x)).2, .inl (va_up _ (xq_N x) (fun _ => 0) (xq_N x))))
        rw [va_up_self, va_up_self, g1]
        rfl)) (xq_S_new hS g2 g3) hL
      rw [e1, e2, show xq_N x + 1 - n0 = xq_N x - n0 + 1 by omega, show xq_Z x + n.toNatClampNeg - z0 = xq_Z x - z0 + n.toNatClampNeg by omega] at this
      have e3 : xq_ad t (xq_N x) = H.size := by rw [xq_ad_lt (xq_sB_big h3), hH.1]
      show W _ _ _ _ _ _ _ _ _ _ _ _ _ _ _ (F0 mid (pc + 2) ls (.ref H.size :: r.map (xq_sh t)))
      rw [← e3]
      exact this
    · cases h
  · cases h
theorem xq_newl_ok (Cx : xq_Cx t p R s mid args meth c o ini by_ nL) (hd : decode by_ pc = .ok (.newarray .long, 2)) (h : xq_newa (pc + 2) x L st 101 = some (pc', x', L', st')) (hn : n0 ≤ xq_N x) (hz : z0 ≤ xq_Z x) (hR1 : xq_N x' - n0 ≤ R.cells) (hR2 : xq_Z x' - z0 ≤ R.slots) (harr : (Cond.arrayClass .long) ∈ xq_gw) (kk : xq_Ok p l e R s mid args below meth c Q t nL n0 z0 x' pc' L' st') : xq_Ok p l e R s mid args below meth c Q t nL n0 z0 x pc L st := by
  unfold xq_newa at h
  split at h
  · rename_i n r
    split at h
    · rename_i hb
      simp only [Bool.and_eq_true, decide_eq_true_eq, Bool.not_eq_true', decide_eq_false_iff_not] at hb
      obtain ⟨⟨h1, h2⟩, h3⟩ := hb
      cases h
      intro H locs ls hH hS hL
      have e1 : xq_N (xq_new x 101 n.toNatClampNeg) = xq_N x + 1 := rfl
      have e2 : xq_Z (xq_new x 101 n.toNatClampNeg) = xq_Z x + n.toNatClampNeg := rfl
      rw [e1] at hR1
      rw [e2] at hR2
      refine va_newaK (atype := .long) (g := F0 mid pc ls (.int n :: r.map (xq_sh t))) Cx.1 Cx.2.1 (Cx.2.2.2.2.1 _ harr) rfl hd rfl h1 rfl (by show n.toNatClampNeg * 8 ≤ _; omega) (by omega) (by omega) rfl fun H1 cA g1 g2 g3 g4 g5 => ?_
      have hcA : cA = t.2.2.1.2.1 := Option.some.inj (g5.symm.trans (Cx.2.2.2.2.2.1.2 1 _ rfl).2)
      subst hcA
      have := kk H1 locs ls (xq_H_new hH (xq_sB_big h3) e1 (fun j hj => xq_ent_old hj) g2 g3 (by
        rw [xq_ent_l (show (xq_K (xq_new x 101 n.toNatClampNeg) (xq_N x)).1 = 101 from congrArg Prod.fst (va_up_self _ _ _))]
        show H1[H.size]? = some (vp_cell _ ((va_up _ (xq_N x) (101, n.toNatClampNeg) (xq_N x)).2, .inr (.inl (va_up _ (xq_N x) (fun _ => 0) (xq_N x)))))
        rw [va_up_self, va_up_self, g1]
        rfl)) (xq_S_new hS g2 g3) hL
      rw [e1, e2, show xq_N x + 1 - n0 = xq_N x - n0 + 1 by omega, show xq_Z x + n.toNatClampNeg - z0 = xq_Z x - z0 + n.toNatClampNeg by omega] at this
      have e3 : xq_ad t (xq_N x) = H.size := by rw [xq_ad_lt (xq_sB_big h3), hH.1]
      show W _ _ _ _ _ _ _ _ _ _ _ _ _ _ _ (F0 mid (pc + 2) ls (.ref H.size :: r.map (xq_sh t)))
      rw [← e3]
      exact this
    · cases h
  · cases h
theorem xq_CL_ok {o x a : Nat} (h : xq_CL.contains (o, x, a) = true) : a < 13 ∧ Cond.classLink (xq_cn o) x (xq_cn a) ∈ xq_gw := by
  have h1 := xq_mem h
  rw [xq_CLe] at h1
  obtain ⟨q, hq, e⟩ := List.mem_map.mp h1
  obtain ⟨⟨o', x', a'⟩, k⟩ := q
  cases e
  have h2 := List.all_eq_true.mp xq_CLc _ hq
  simp only [Bool.and_eq_true, decide_eq_true_eq] at h2
  exact ⟨h2.1, xq_tb _ h2.2 rfl⟩
theorem xq_newq_ok (Cx : xq_Cx t p R s mid args meth c o ini by_ nL) {i : Nat} (hd : decode by_ pc = .ok (.anewarray i, 3)) (hok : xq_CL.contains (o, i, 6) = true) (h : xq_newa (pc + 3) x L st 102 = some (pc', x', L', st')) (hn : n0 ≤ xq_N x) (hz : z0 ≤ xq_Z x) (hR1 : xq_N x' - n0 ≤ R.cells) (hR2 : xq_Z x' - z0 ≤ R.slots) (kk : xq_Ok p l e R s mid args below meth c Q t nL n0 z0 x' pc' L' st') : xq_Ok p l e R s mid args below meth c Q t nL n0 z0 x pc L st := by
  unfold xq_newa at h
  split at h
  · rename_i n r
    split at h
    · rename_i hb
      simp only [Bool.and_eq_true, decide_eq_true_eq, Bool.not_eq_true', decide_eq_false_iff_not] at hb
      obtain ⟨⟨h1, h2⟩, h3⟩ := hb
      cases h
      intro H locs ls hH hS hL
      have e1 : xq_N (xq_new x 102 n.toNatClampNeg) = xq_N x + 1 := rfl
      have e2 : xq_Z (xq_new x 102 n.toNatClampNeg) = xq_Z x + n.toNatClampNeg := rfl
      rw [e1] at hR1
      rw [e2] at hR2
      have hE := Cx.2.2.2.2.2.2.1.1
      refine W.anew (g := F0 mid pc ls (.int n :: r.map (xq_sh t))) (C := "DomeCalendar$Site") Cx.1 Cx.2.1 Cx.2.2.2.1 (Cx.2.2.2.2.1 _ (xq_CL_ok hok).2) (va_AO.use hE.2.2.2.2.2.2.1) rfl hd rfl h1 (by omega) (by omega) (by omega) fun cA kA comp f1 f2 f3 f4 => ?_
      generalize hH1 : H.push ({ cls := cA, slots := Array.replicate n.toNatClampNeg .null, vm := .none } : Cell) = H1
      have z1 : H1.size = H.size + 1 := by rw [← hH1, Array.size_push]
      have g1 : H1[H.size]? = some (arrV cA n.toNatClampNeg (fun _ => .null)) := by rw [← hH1, Array.getElem?_push_size, ← arrV_new]
      have o1 : ∀ q : Nat, q < H.size → H1[q]? = H[q]? := fun q hq => by rw [← hH1, Array.getElem?_push, if_neg (Nat.ne_of_lt hq)]
      obtain ⟨kA', comp', j1, j2, j3, j4⟩ := (Cx.2.2.2.2.2.1.2 2 _ rfl).2
      have hcA : cA = t.2.2.1.2.2 := Option.some.inj (f1.symm.trans j4)
      subst hcA
      have := kk H1 locs ls (xq_H_new hH (xq_sB_big h3) e1 (fun j hj => xq_ent_old hj) z1 o1 (by
        rw [xq_ent_q (show (xq_K (xq_new x 102 n.toNatClampNeg) (xq_N x)).1 = 102 from congrArg Prod.fst (va_up_self _ _ _))]
        show H1[H.size]? = some (vp_cell _ ((va_up _ (xq_N x) (102, n.toNatClampNeg) (xq_N x)).2, .inr (.inr (.inr (.inr (fun j => xq_rr t (va_up _ (xq_N x) (fun _ => none) (xq_N x) j)))))))
        rw [va_up_self, va_up_self, g1]
        rfl)) (xq_S_new hS z1 o1) hL
      rw [e1, e2, show xq_N x + 1 - n0 = xq_N x - n0 + 1 by omega, show xq_Z x + n.toNatClampNeg - z0 = xq_Z x - z0 + n.toNatClampNeg by omega] at this
      have e3 : xq_ad t (xq_N x) = H.size := by rw [xq_ad_lt (xq_sB_big h3), hH.1]
      show W _ _ _ _ _ _ _ _ _ _ _ _ _ _ _ (F0 mid (pc + 3) ls (.ref H.size :: r.map (xq_sh t)))
      rw [← e3]
      exact this
    · cases h
  · cases h
theorem xq_dflt {ci k : Nat} (hc : ci < 13) (hk : k < (xq_cd ci).2.2) : defaultValue (xq_ty ci k) = if xq_ft ci k = 2 then .null else .int 0 := by
  have h4 := xq_cls4 hc hk
  by_cases h0 : xq_ft ci k = 0
  · rw [if_pos h0] at h4
    rw [h4, if_neg (by omega)]
    rfl
  · by_cases h1 : xq_ft ci k = 1
    · rw [if_neg h0, if_pos h1] at h4
      rw [h4, if_neg (by omega)]
      rfl
    · rw [if_neg h0, if_neg h1] at h4
      have h2 : xq_ft ci k = 2 := by
        have hall : ∀ a < 13, ∀ b < (xq_cd a).2.2, xq_ft a b ≤ 2 := by decide +kernel
        have := hall ci hc k hk
        omega
      rw [if_pos h2]
      generalize xq_ty ci k = ty at h4
      cases ty <;> first | rfl | (exact absurd h4.1 (by simp [fits]))
theorem xq_vV (F : Nat → Value) {n k : Nat} (hk : k < n) : vp_V ((List.range n).map F) k = F k := by
  have hv : ((List.range n).map F)[k]? = some (F k) := by rw [List.getElem?_map, List.getElem?_range hk]; rfl
  show ((List.range n).map F).getD k .null = F k
  rw [List.getD_eq_getElem?_getD, hv]
  rfl
theorem xq_obj_ok (Cx : xq_Cx t p R s mid args meth c o ini by_ nL) {i ci : Nat} (hd : decode by_ pc = .ok (.new i, 3)) (hok : xq_CL.contains (o, i, ci) = true) (h : xq_obj (pc + 3) x L st ci = some (pc', x', L', st')) (hn : n0 ≤ xq_N x) (hz : z0 ≤ xq_Z x) (hR1 : xq_N x' - n0 ≤ R.cells) (hR2 : xq_Z x' - z0 ≤ R.slots) (kk : xq_Ok p l e R s mid args below meth c Q t nL n0 z0 x' pc' L' st') : xq_Ok p l e R s mid args below meth c Q t nL n0 z0 x pc L st := by
  unfold xq_obj at h
  split at h
  · rename_i hb
    simp only [Bool.and_eq_true, decide_eq_true_eq] at hb
    obtain ⟨hc, h3⟩ := hb
    cases h
    obtain ⟨-, hini, hins, hlen⟩ := xq_cls1 hc
    rw [hlen] at hR1 hR2 kk
    intro H locs ls hH hS hL
    have e1 : xq_N (xq_new x ci (xq_cd ci).2.2) = xq_N x + 1 := rfl
    have e2 : xq_Z (xq_new x ci (xq_cd ci).2.2) = xq_Z x + (xq_cd ci).2.2 := rfl
    rw [e1] at hR1
    rw [e2] at hR2
    have hKn := Cx.2.2.2.2.2.1.1 ci _ (xq_cls0 hc)
    refine W.newcK (g := F0 mid pc ls (st.map (xq_sh t))) Cx.1 Cx.2.1 Cx.2.2.2.1 (Cx.2.2.2.2.1 _ (xq_CL_ok hok).2) (Cx.2.2.2.2.1 _ hins) (Cx.2.2.2.2.1 _ hini) rfl hd (by omega) (by omega) hKn.2.1 rfl fun H1 kC hkC g1 z1 o1 => ?_
    have hob := u_born (xq_ty ci) Cx.2.2.2.2.1 (xq_cls2 hc) hKn hkC g1 (xq_cls3 hc)
    have := kk H1 locs ls (xq_H_new hH (xq_sB_big h3) e1 (fun j hj => xq_ent_old hj) z1 o1 (by
      have eK : xq_K (xq_new x ci (xq_cd ci).2.2) (xq_N x) = (ci, (xq_cd ci).2.2) := va_up_self _ _ _
      rw [xq_ent_o (by rw [eK]; exact hc), eK]
      refine ⟨_, xq_cls0 hc, hob.to (fun k hk => ?_)⟩
      rw [xq_dflt hc hk]
      have hk' : k < (xq_cd ci).2.2 := hk
      rw [xq_vV _ hk']
      show _ = (if xq_ft (xq_K (xq_new x ci (xq_cd ci).2.2) (xq_N x)).1 k = 2 then va_rf (xq_rr t (va_up _ (xq_N x) (fun _ => none) (xq_N x) k)) else Value.int (va_up _ (xq_N x) (fun _ => 0) (xq_N x) k))
      rw [va_up_self, va_up_self, eK]
      rfl)) (xq_S_new hS z1 o1) hL
    rw [e1, e2, show xq_N x + 1 - n0 = xq_N x - n0 + 1 by omega, show xq_Z x + (xq_cd ci).2.2 - z0 = xq_Z x - z0 + (xq_cd ci).2.2 by omega] at this
    have e3 : xq_ad t (xq_N x) = H.size := by rw [xq_ad_lt (xq_sB_big h3), hH.1]
    show W _ _ _ _ _ _ _ _ _ _ _ _ _ _ _ (F0 mid (pc + 3) ls (.ref H.size :: st.map (xq_sh t)))
    rw [← e3]
    exact this
  · cases h
end xq_news
