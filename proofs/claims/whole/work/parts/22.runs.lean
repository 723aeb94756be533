/-! THE SOUNDNESS OF RUNS -/
/-- what is claimed of runs with fuel F -/
def xq_SF (l : Launch) (t : xq_Th) (F : Nat) : Prop := ∀ (d m : Nat) (x : xq_S) (pc : Nat) (L st : List Value) (v : Option Value) (x' : xq_S), m < 273 → xq_x F d m x pc L st = some (v, x') →
  ∀ (p : Program) (e : Env) (R : Room) (s : State) (mid : MethodId) (args : Array Value) (below : List Frame) (meth : Method) (c : Code) (n0 z0 : Nat) (Qc : Array Value → State → Outcome → State → Prop),
  xq_Cx t p R s mid args meth c (xq_mn m).2.2.2.2 ((xq_pm m).1 == 2) (xq_mn m).2.1 (xq_mn m).2.2.1 → meth.sig.returnType = xq_rty (xq_mn m).2.2.2.1 → n0 ≤ xq_N x → z0 ≤ xq_Z x → xq_N x' - n0 ≤ R.cells → xq_Z x' - z0 ≤ R.slots → d + 8 ≤ R.frames → 30 * d + 300 ≤ R.locals →
  (∀ (H : Heap) (u : State), xq_H t x' H → u.heap = H → s.WarmedH u.vm → va_F (xq_A t) s u → Qc args s (.returned (v.map (xq_sh t))) u) →
  xq_Ok p l e R s mid args below meth c (MQ below Qc args s (xq_N x' - n0) (xq_Z x' - z0) (xq_A t)) t (xq_mn m).2.2.1 n0 z0 x pc L st
def xq_rm (d : Nat) (x x' : xq_S) : Room := { frames := d + 8, cells := xq_N x' - xq_N x, slots := xq_Z x' - xq_Z x, locals := 30 * d + 300 }
def xq_ws (m : Nat) : List Cond := Cond.code (xq_mn m).1 (xq_mn m).2.1 (xq_mn m).2.2.1 (xq_rty (xq_mn m).2.2.2.1) :: xq_gw
/-- the contract of a call -/
theorem xq_met {l : Launch} {t : xq_Th} {F : Nat} (hF : xq_SF l t F) {d m : Nat} {x : xq_S} {As : List Value} {v : Option Value} {x' : xq_S} (hm : m < 273) (hc : ∀ w ∈ As, w.category = 1) (hn : As.length ≤ (xq_mn m).2.2.1) (h : xq_x F d m x 0 (As ++ List.replicate ((xq_mn m).2.2.1 - As.length) xq_un) [] = some (v, x')) :
    Met l (xq_mn m).1 (xq_ws m) (xq_rm d x x') (va_Pc (As.map (xq_sh t)) (fun U => xq_P t x U)) (xq_Q t (v.map (xq_sh t)) x') (xq_N x' - xq_N x) (xq_Z x' - xq_Z x) (xq_A t) := by
  obtain ⟨w1, w2, w3, w4, w5, w6, w7, w8, w9, w10, w11, w12, w13⟩ := xq_meth hm
  refine va_MetF (cc := (xq_mn m).2.1) (maxL := (xq_mn m).2.2.1) (ret := xq_rty (xq_mn m).2.2.2.1) w3 rfl ?_
  intro p e s mid args below meth c s₁ B hml hv
  obtain ⟨rfl, hE, hH, hK⟩ := hv
  have hts := xq_tl (atoms_spec (ws := xq_ws m) B.pre)
  have hown : s.vm.findClass (xq_cn (xq_mn m).2.2.2.2) = some mid.cls := by rw [← w4]; exact findClass_of_methodNamed B.named
  obtain ⟨ls, e1, e2⟩ := xq_entry (t := t) mid As (xq_mn m).2.2.1 hc hn
  have Cx : xq_Cx t p (xq_rm d x x') s mid (As.map (xq_sh t)).toArray meth c (xq_mn m).2.2.2.2 ((xq_pm m).1 == 2) (xq_mn m).2.1 (xq_mn m).2.2.1 :=
    ⟨B.exec, B.bytes, hml, hown, hts, hK, hE, B.notSynchronized, by rw [hH.1]; omega, fun z => by
      have z2 : (xq_pm m).1 = 2 := by simpa using z
      rw [(name_of_methodNamed B.named B.method).1]
      exact (w12 z2).1, by show 8 ≤ d + 8; omega, by show 300 ≤ 30 * d + 300; omega⟩
  have key := hF d m x 0 _ [] v x' hm h p e (xq_rm d x x') s mid (As.map (xq_sh t)).toArray below meth c (xq_N x) (xq_Z x) (xq_Q t (v.map (xq_sh t)) x') Cx B.returns (Nat.le_refl _) (Nat.le_refl _) (Nat.le_refl _) (Nat.le_refl _) (Nat.le_refl _) (Nat.le_refl _) (fun H u h1 h2 _ h4 => ⟨rfl, by rw [h2]; exact h1, h4⟩) s.heap [] ls hH va_S.rf e2
  rw [Nat.sub_self, Nat.sub_self] at key
  rw [e1]
  exact key
theorem xq_ow13 : ∀ m < 273, (xq_pm m).1 = 0 → xq_ow m < 13 := by decide +kernel
set_option maxRecDepth 20000 in
theorem xq_arith {k d R : Nat} (h : k ≤ 8) (h2 : 30 * (d + 1) + 300 ≤ R) : 8 + (k + 11) + (30 * d + 300) ≤ R := by omega
section xq_final
variable {p : Program} {l : Launch} {e : Env} {R : Room} {s : State} {mid : MethodId} {args : Array Value} {below : List Frame} {meth : Method} {c : Code} {Q : State → Prop}
variable {t : xq_Th} {o nL n0 z0 : Nat} {ini : Bool} {by_ : ByteArray} {x x' x1 : xq_S} {q pc pc' : Nat} {L L' st st' r : List Value}
theorem xq_call_ok {F : Nat} (hF : xq_SF l t F) (Cx : xq_Cx t p R s mid args meth c o ini by_ nL) {i : Instr} {len a b c' d : Nat} {As : List Value} {v : Option Value} (hdl : decode by_ pc = .ok (i, len)) (hlen : xq_isSw i = true ∨ len = xq_len i) (hok : xq_aok o ini i a b c' = true) (hcl : xq_isCall i a = true) (ha : xq_args b st = some (As, r)) (hr : xq_room r = true) (hrc : xq_rc i x (xq_ow a) As = true) (h : xq_x F d a x 0 (As ++ List.replicate (c' - b) xq_un) [] = some (v, x1))
    (hn : n0 ≤ xq_N x) (hz : z0 ≤ xq_Z x) (hR1 : xq_N x1 - n0 ≤ R.cells) (hR2 : xq_Z x1 - z0 ≤ R.slots) (hRf : d + 1 + 8 ≤ R.frames) (hRl : 30 * (d + 1) + 300 ≤ R.locals) (kk : xq_Ok p l e R s mid args below meth c Q t nL n0 z0 x1 (pc + 3) L (v.toList ++ r)) : xq_Ok p l e R s mid args below meth c Q t nL n0 z0 x pc L st := by
  obtain ⟨q1, q2, q3⟩ := xq_args_ok _ _ _ _ ha
  have hle := xq_le_x _ _ _ _ _ _ _ _ _ h
  intro H locs ls hH hS hL
  have hs := xq_room_sum (t := t) hr
  have hE := Cx.2.2.2.2.2.2.1
  have hK := Cx.2.2.2.2.2.1
  have hts := Cx.2.2.2.2.1
  have fix : CallFix p mid c by_ nL s args xq_gw (xq_cn o) := ⟨Cx.1, Cx.2.1, Cx.2.2.1, Cx.2.2.2.1, hts⟩
  have c1 : xq_N x - n0 + (xq_N x1 - xq_N x) = xq_N x1 - n0 := by have := hle.1; omega
  have c2 : xq_Z x - z0 + (xq_Z x1 - xq_Z x) = xq_Z x1 - z0 := by have := hle.2; omega
  have hf : xq_N x - n0 + (xq_N x1 - xq_N x) ≤ R.cells ∧ xq_Z x - z0 + (xq_Z x1 - xq_Z x) ≤ R.slots := by rw [c1, c2]; exact ⟨hR1, hR2⟩
  have fin : ∀ (H1 : Heap) (locs1 : List Loc), xq_H t x1 H1 → va_S (xq_A t) s.heap H1 locs1 → W p l e R s mid args below meth c H1 locs1 (xq_N x - n0 + (xq_N x1 - xq_N x)) (xq_Z x - z0 + (xq_Z x1 - xq_Z x)) Q (F0 mid (pc + 3) ls ((v.map (xq_sh t)).toList ++ r.map (xq_sh t))) := by
    intro H1 locs1 g1 g2
    have := kk H1 locs1 ls g1 g2 hL
    rw [c1, c2]
    cases v with
    | none => exact this
    | some w => exact this
  have hst : st.map (xq_sh t) = (As.map (xq_sh t)).reverse ++ r.map (xq_sh t) := by rw [q1]; simp
  rw [hst]
  have hRl2 : 8 + ((xq_mn a).2.2.1 + 11) + (30 * d + 300) ≤ R.locals ∨ ¬ a < 273 := by
    by_cases ha2 : a < 273
    · have := (xq_meth ha2).2.2.2.2.2.2.2.1
      exact Or.inl (xq_arith this hRl)
    · exact Or.inr ha2
  have hRm : a < 273 → (xq_rm d x x1).frames + 1 ≤ R.frames ∧ 8 + ((xq_mn a).2.2.1 + 11) + (xq_rm d x x1).locals ≤ R.locals := by
    intro ha2
    refine ⟨by show d + 8 + 1 ≤ _; omega, ?_⟩
    show 8 + ((xq_mn a).2.2.1 + 11) + (30 * d + 300) ≤ _
    exact hRl2.resolve_right (fun z => z ha2)
  cases i
  case invokevirtual n =>
    have hd := hlen.resolve_left (fun z => by cases z)
    subst hd
    have ha0 : a < 1000 := by simpa [xq_isCall] using hcl
    simp only [xq_aok, if_pos ha0] at hok
    obtain ⟨k1, k2, k3, k4, k5, k6, -⟩ := xq_KL_ok hok (by decide)
    rw [if_neg (by decide)] at k5
    rw [if_neg (by omega)] at k3
    obtain ⟨w1, w2, w3, w4, w5, w6, w7, w8, w9, w10, w11, w12, w13⟩ := xq_meth k1
    rw [k2, ← q2] at h
    have hM := xq_met hF k1 q3 (by omega) h
    simp only [xq_rc] at hrc
    split at hrc
    · rename_i ra As'
      simp only [Bool.and_eq_true, decide_eq_true_eq] at hrc
      have how : xq_ow a < 13 := xq_ow13 a k1 k5
      have hP := hH.at hrc.1
      rw [xq_ent_o (by omega), hrc.2] at hP
      have hrec := va_recv hK hP (xq_cls0 how) (q0 := 0) rfl
      have hPre := (xq_PreP hE hK hH hS ((Value.ref ra :: As').map (xq_sh t))).2
      refine xq_callq (va_runV (C := (xq_mn a).1.cls) (b := xq_ad t ra) (As := As'.map (xq_sh t)) (rest := r.map (xq_sh t)) fix hM (cwV (xq_pm a).2.2.2.2.2.2 hts (xq_goodIn (xq_good4 (k6 (by decide)) (w11 (by omega)) (w13 k5) w2 (xq_goodC w1))) rfl rfl rfl ⟨rfl, w6, w7, w5⟩ (hRm k1)) ⟨xq_blindP, by rw [w4]; exact hrec, hPre⟩ rfl ?_ hL.2.1 ?_ (lv_room hs) hdl hf) hS fin
      · have : (Value.ref ra :: As').length = b := q2
        simp only [List.length_cons] at this
        simp only [List.length_map]
        omega
      · show _ = (As'.map (xq_sh t)).reverse ++ Value.ref (xq_ad t ra) :: r.map (xq_sh t)
        simp [xq_sh]
    · cases hrc
  case invokestatic n =>
    have hd := hlen.resolve_left (fun z => by cases z)
    subst hd
    have ha0 : a < 1000 := by simpa [xq_isCall] using hcl
    simp only [xq_aok, if_pos ha0] at hok
    obtain ⟨k1, k2, k3, k4, k5, k6, -⟩ := xq_KL_ok hok (by decide)
    rw [if_neg (by decide)] at k5
    rw [if_pos k5] at k3
    obtain ⟨w1, w2, w3, w4, w5, w6, w7, w8, w9, w10, w11, w12, w13⟩ := xq_meth k1
    rw [k2, ← q2] at h
    have hM := xq_met hF k1 q3 (by omega) h
    refine xq_callq (va_runS (As := As.map (xq_sh t)) (rest := r.map (xq_sh t)) fix hM (va_cwS (xq_pm a).2.2.2.2.2.2 hts (xq_goodIn (xq_good3 (k6 (by decide)) (w10 k5) w2 (xq_goodC w1))) rfl rfl rfl ⟨w6, w7, w5⟩ (hRm k1)) (xq_PreP hE hK hH hS _) rfl ?_ hL.2.1 rfl (lv_room hs) hdl hf) hS fin
    simp only [List.length_map]
    omega
  case invokespecial n =>
    have hd := hlen.resolve_left (fun z => by cases z)
    subst hd
    have ha0 : a < 1000 := by simpa [xq_isCall] using hcl
    simp only [xq_aok, if_pos ha0, Bool.or_eq_true] at hok
    have hk1 : a < 273 := by
      rcases hok with hok | hok
      · exact (xq_KL_ok hok (by decide)).1
      · exact (xq_KL_ok hok (by decide)).1
    obtain ⟨w1, w2, w3, w4, w5, w6, w7, w8, w9, w10, w11, w12, w13⟩ := xq_meth hk1
    have hk : c' = (xq_mn a).2.2.1 ∧ b = (xq_pm a).2.2.2.2.2.2 + 1 ∧ b ≤ c' ∧ (xq_pm a).1 = 2 := by
      rcases hok with hok | hok
      · obtain ⟨k1, k2, k3, k4, k5, k6, -⟩ := xq_KL_ok hok (by decide)
        rw [if_neg (by decide)] at k5
        rw [if_neg (by omega)] at k3
        exact ⟨k2, k3, k4, k5⟩
      · obtain ⟨k1, k2, k3, k4, k5, k6, -⟩ := xq_KL_ok hok (by decide)
        rw [if_pos rfl] at k5
        rw [if_neg (by omega)] at k3
        exact ⟨k2, k3, k4, k5⟩
    obtain ⟨k2, k3, k4, k5⟩ := hk
    rw [k2, ← q2] at h
    have hM := xq_met hF hk1 q3 (by omega) h
    have hw0 : xq_ws a = Cond.code (xq_mn a).1 (xq_mn a).2.1 (xq_mn a).2.2.1 none :: xq_gw := by
      show Cond.code (xq_mn a).1 (xq_mn a).2.1 (xq_mn a).2.2.1 (xq_rty (xq_mn a).2.2.2.1) :: xq_gw = _
      rw [(w12 k5).2]
      rfl
    have hG : GoodIn xq_gw (xq_ws a) := xq_goodIn (xq_goodC w1)
    simp only [xq_rc] at hrc
    split at hrc
    · rename_i ra As'
      have hl2 : (As'.map (xq_sh t)).length = (xq_pm a).2.2.2.2.2.2 := by
        have : (Value.ref ra :: As').length = b := q2
        simp only [List.length_cons] at this
        simp only [List.length_map]
        omega
      have hs2 : ((Value.ref ra :: As').map (xq_sh t)).reverse ++ r.map (xq_sh t) = (As'.map (xq_sh t)).reverse ++ Value.ref (xq_ad t ra) :: r.map (xq_sh t) := by simp [xq_sh]
      rcases hok with hok | hok
      · obtain ⟨-, -, -, -, -, k6, -⟩ := xq_KL_ok hok (by decide)
        exact xq_callq (va_runI (b := xq_ad t ra) (As := As'.map (xq_sh t)) (rest := r.map (xq_sh t)) fix hM (cwI (xq_pm a).2.2.2.2.2.2 hts hG hw0 rfl rfl (hts _ w2) (hts _ (k6 (by decide))) (hts _ (w11 (by omega))) (w12 k5).1 ⟨w6, w7, w5⟩ (hRm hk1)) (xq_PreP hE hK hH hS _) rfl hl2 hL.2.1 hs2 (lv_room hs) hdl hf) hS fin
      · obtain ⟨-, -, -, -, -, -, k7⟩ := xq_KL_ok hok (by decide)
        exact xq_callq (va_runIN (b := xq_ad t ra) (As := As'.map (xq_sh t)) (rest := r.map (xq_sh t)) fix hM ⟨va_cnB (xq_pm a).2.2.2.2.2.2 hts hG hw0 rfl rfl (hE.1.2.2.2.2.1 _ (k7 rfl)) (hts _ w2) ⟨w6, w7, w5⟩ (hRm hk1), (w12 k5).1, hts _ (w11 (by omega))⟩ (xq_PreP hE hK hH hS _) rfl hl2 hL.2.1 hs2 (lv_room hs) hdl hf) hS fin
    · cases hrc
  all_goals (simp [xq_isCall] at hcl)
end xq_final

theorem xq_sound (l : Launch) (t : xq_Th) : ∀ F, xq_SF l t F := by
  intro F
  induction F with
  | zero => intro d m x pc L st v x' hm h; cases h
  | succ F ih =>
    intro d m x pc L st v x' hm h p e R s mid args below meth c n0 z0 Qc Cx hret hn hz hRc hRs hRf hRl hQ
    unfold xq_x at h
    split at h
    · cases h
    · rename_i i len a b c' hcode
      have hrow := xq_row hm hcode
      simp only [xq_rok, Bool.and_eq_true, Bool.or_eq_true, decide_eq_true_eq] at hrow
      obtain ⟨⟨⟨r1, r2⟩, r3⟩, r4⟩ := hrow
      split at h
      · rename_i hcl
        split at h
        · rename_i d' As r hargs
          split at h
          · rename_i hb
            simp only [Bool.and_eq_true] at hb
            split at h
            · rename_i w x1 h1
              have hle := xq_le_x _ _ _ _ _ _ _ _ _ h
              have hle1 := xq_le_x _ _ _ _ _ _ _ _ _ h1
              refine xq_call_ok ih Cx r1 r2 r4 hcl hargs hb.1 hb.2 h1 hn hz (by have := hle.1; omega) (by have := hle.2; omega) hRf hRl ?_
              exact ih _ _ _ _ _ _ _ _ hm h p e R s mid args below meth c n0 z0 Qc Cx hret (Nat.le_trans hn hle1.1) (Nat.le_trans hz hle1.2) hRc hRs hRf hRl hQ
            · cases h
          · cases h
        · cases h
      · rename_i hcl
        have hcl : xq_isCall i a = false := by simpa using hcl
        split at h
        · rename_i w hw
          cases h
          intro H locs ls hH hS hL
          unfold xq_ret at hw
          have hlk := Cx.2.2.2.2.2.2.2.1
          split at hw
          · cases hw
            have hd := r2.resolve_left (fun z => by cases z)
            subst hd
            have hr0 : meth.sig.returnType = none := by rw [hret]; show xq_rty (xq_rt m) = none; rw [show xq_rt m = 0 by assumption]; rfl
            exact W.vret Cx.1 Cx.2.1 hr0 (fun u hu hW => hQ H u hH hu hW (hS.F hu)) hS.2.2 r1 hlk
          · cases hw
            have hd := r2.resolve_left (fun z => by cases z)
            subst hd
            have hr0 : meth.sig.returnType = some .int := by rw [hret]; show xq_rty (xq_rt m) = some .int; rw [show xq_rt m = 1 by assumption]; rfl
            exact W.iret Cx.1 Cx.2.1 hr0 (fun u hu hW => hQ H u hH hu hW (hS.F hu)) hS.2.2 r1 hlk
          · rename_i v0 e1 e2
            split at hw
            · rename_i hv
              cases hw
              have hd := r2.resolve_left (fun z => by cases z)
              subst hd
              have hr0 : meth.sig.returnType = some .boolean := by rw [hret]; show xq_rty (xq_rt m) = some .boolean; rw [show xq_rt m = 2 by assumption]; rfl
              have hnv : narrow .boolean (.int v0) = .int v0 := by
                simp only [Bool.or_eq_true, decide_eq_true_eq] at hv
                rcases hv with rfl | rfl <;> decide
              exact W.zret Cx.1 Cx.2.1 hr0 hnv (fun u hu hW => hQ H u hH hu hW (hS.F hu)) hS.2.2 r1 hlk
            · cases hw
          · cases hw
            have hd := r2.resolve_left (fun z => by cases z)
            subst hd
            have hr0 : meth.sig.returnType = some .long := by rw [hret]; show xq_rty (xq_rt m) = some .long; rw [show xq_rt m = 3 by assumption]; rfl
            exact W.lret Cx.1 Cx.2.1 hr0 (fun u hu hW => hQ H u hH hu hW (hS.F hu)) hS.2.2 r1 hlk
          · cases hw
        · split at h
          · rename_i pc1 x1 L1 st1 h1
            have hle := xq_le_x _ _ _ _ _ _ _ _ _ h
            have hle1 := xq_le_step h1
            refine xq_step_ok Cx r1 r2 r3 r4 hcl h1 hn hz (by have := hle.1; omega) (by have := hle.2; omega) ?_
            exact ih _ _ _ _ _ _ _ _ hm h p e R s mid args below meth c n0 z0 Qc Cx hret (Nat.le_trans hn hle1.1) (Nat.le_trans hz hle1.2) hRc hRs hRf hRl hQ
          · cases h
