/-! every instruction that is no call: one step -/
section xq_one
variable {p : Program} {l : Launch} {e : Env} {R : Room} {s : State} {mid : MethodId} {args : Array Value} {below : List Frame} {meth : Method} {c : Code} {Q : State → Prop}
variable {t : xq_Th} {o nL n0 z0 : Nat} {ini : Bool} {by_ : ByteArray} {x x' : xq_S} {q pc pc' : Nat} {L L' st st' r : List Value}
theorem xq_tgt_ok {off : Int} (h : 0 ≤ (pc : Int) + off) : (pc : Int) + off = ((xq_tgt pc off : Nat) : Int) := by
  show _ = ((((pc : Int) + off).toNat : Nat) : Int)
  omega
theorem xq_dup_ok (Cx : xq_Cx t p R s mid args meth c o ini by_ nL) (hd : decode by_ pc = .ok (.dup, 1)) (h : xq_dup (pc + 1) x L st = some (pc', x', L', st')) (kk : xq_Ok p l e R s mid args below meth c Q t nL n0 z0 x' pc' L' st') : xq_Ok p l e R s mid args below meth c Q t nL n0 z0 x pc L st := by
  unfold xq_dup at h
  split at h
  · cases h
    exact xq_pure kk (fun H locs ls ce sl w => lv_dup Cx.1 Cx.2.1 hd rfl w)
  · cases h
    exact xq_pure kk (fun H locs ls ce sl w => lv_dup Cx.1 Cx.2.1 hd rfl w)
  · cases h
theorem xq_dup2_ok (Cx : xq_Cx t p R s mid args meth c o ini by_ nL) (hd : decode by_ pc = .ok (.dup2, 1)) (h : xq_dup2 (pc + 1) x L st = some (pc', x', L', st')) (kk : xq_Ok p l e R s mid args below meth c Q t nL n0 z0 x' pc' L' st') : xq_Ok p l e R s mid args below meth c Q t nL n0 z0 x pc L st := by
  unfold xq_dup2 at h
  split at h
  · cases h
    exact xq_pure kk (fun H locs ls ce sl w => lv_dup2_11 Cx.1 Cx.2.1 hd rfl rfl w)
  · cases h
theorem xq_pop_ok (Cx : xq_Cx t p R s mid args meth c o ini by_ nL) (hd : decode by_ pc = .ok (.pop, 1)) (h : xq_pop (pc + 1) x L st = some (pc', x', L', st')) (kk : xq_Ok p l e R s mid args below meth c Q t nL n0 z0 x' pc' L' st') : xq_Ok p l e R s mid args below meth c Q t nL n0 z0 x pc L st := by
  unfold xq_pop at h
  split at h
  · cases h
    exact xq_pure kk (fun H locs ls ce sl w => lv_pop Cx.1 Cx.2.1 hd rfl w)
  · cases h
theorem xq_ifnn_ok (Cx : xq_Cx t p R s mid args meth c o ini by_ nL) {off : Int} (hd : decode by_ pc = .ok (.ifnonnull off, 3)) (hj : 0 ≤ (pc : Int) + off) (h : xq_null (pc + 3) (xq_tgt pc off) x L st = some (pc', x', L', st')) (kk : xq_Ok p l e R s mid args below meth c Q t nL n0 z0 x' pc' L' st') : xq_Ok p l e R s mid args below meth c Q t nL n0 z0 x pc L st := by
  unfold xq_null at h
  split at h
  · cases h
    exact xq_pure kk (fun H locs ls ce sl w => lv_ifnonnullN Cx.1 Cx.2.1 hd w)
  · cases h
    exact xq_pure kk (fun H locs ls ce sl w => lv_ifnonnull Cx.1 Cx.2.1 hd (xq_tgt_ok hj) w)
  · cases h
theorem xq_sw_ok (Cx : xq_Cx t p R s mid args meth c o ini by_ nL) {d lo hi : Int} {offs : Array Int} {len : Nat} (hd : decode by_ pc = .ok (.tableswitch d lo hi offs, len)) (hj : (decide (0 ≤ (pc : Int) + d) && offs.toList.all (fun z => decide (0 ≤ (pc : Int) + z)) && decide ((offs.size : Int) = hi - lo + 1)) = true) (h : xq_sw pc d lo hi offs x L st = some (pc', x', L', st')) (kk : xq_Ok p l e R s mid args below meth c Q t nL n0 z0 x' pc' L' st') : xq_Ok p l e R s mid args below meth c Q t nL n0 z0 x pc L st := by
  simp only [Bool.and_eq_true, decide_eq_true_eq, List.all_eq_true] at hj
  obtain ⟨⟨j1, j2⟩, j3⟩ := hj
  unfold xq_sw at h
  split at h
  · rename_i v r
    split at h
    · rename_i hb
      simp only [Bool.or_eq_true, decide_eq_true_eq] at hb
      cases h
      exact xq_pure kk (fun H locs ls ce sl w => lv_tableOut Cx.1 Cx.2.1 hd hb (xq_tgt_ok j1) w)
    · rename_i hb
      simp only [Bool.or_eq_true, decide_eq_true_eq, not_or] at hb
      cases h
      have hlt : (v.toInt - lo).toNat < offs.size := by omega
      have e1 : offs.getD (v.toInt - lo).toNat d = offs[(v.toInt - lo).toNat] := by simp [Array.getD_eq_getD_getElem?, Array.getElem?_eq_getElem hlt]
      rw [e1] at kk
      refine xq_pure kk (fun H locs ls ce sl w => lv_tableIn Cx.1 Cx.2.1 hd hb.1 hb.2 (Array.getElem?_eq_getElem hlt) (xq_tgt_ok (j2 _ ?_)) w)
      rw [Array.mem_toList_iff]
      exact Array.getElem_mem hlt
  · cases h
theorem xq_SR_ok {o i a : Nat} (h : xq_SR.contains (o, i, a) = true) : (o, i, a) ∈ xq_SR ∧ a < 32 := by
  have h1 := xq_mem h
  refine ⟨h1, ?_⟩
  rw [xq_SRe] at h1
  obtain ⟨q, hq, e⟩ := List.mem_map.mp h1
  obtain ⟨⟨o', x', a'⟩, k⟩ := q
  cases e
  have h2 := List.all_eq_true.mp xq_SRc _ hq
  simpa using h2
theorem xq_IC_ok {o i a : Nat} (h : xq_IC.contains (o, i, a) = true) : Cond.constant (xq_cn o) i (nI a) ∈ xq_gw := by
  have h1 := xq_mem h
  rw [xq_ICe] at h1
  obtain ⟨q, hq, e⟩ := List.mem_map.mp h1
  obtain ⟨⟨o', x', a'⟩, k⟩ := q
  cases e
  have h2 := List.all_eq_true.mp xq_ICc _ hq
  simp only [decide_eq_true_eq] at h2
  exact xq_tb _ h2 rfl
theorem xq_JC_ok {o i a : Nat} (h : xq_JC.contains (o, i, a) = true) : Cond.constantLong (xq_cn o) i (-(lN a)) ∈ xq_gw := by
  have h1 := xq_mem h
  rw [xq_JCe] at h1
  obtain ⟨q, hq, e⟩ := List.mem_map.mp h1
  obtain ⟨⟨o', x', a'⟩, k⟩ := q
  cases e
  have h2 := List.all_eq_true.mp xq_JCc _ hq
  simp only [decide_eq_true_eq] at h2
  exact xq_tb _ h2 rfl
theorem xq_gets_ok (Cx : xq_Cx t p R s mid args meth c o ini by_ nL) {i a b : Nat} (hd : decode by_ pc = .ok (.getstatic i, 3)) (hok : (xq_SL.contains (o, i, a, b) && decide (b ≤ 1)) = true) (kk : xq_Ok p l e R s mid args below meth c Q t nL n0 z0 x (pc + 3) L (.ref (xq_tB + a) :: st)) : xq_Ok p l e R s mid args below meth c Q t nL n0 z0 x pc L st := by
  simp only [Bool.and_eq_true, decide_eq_true_eq] at hok
  have h1 := xq_mem hok.1
  have h1' := h1
  rw [xq_SLe] at h1
  obtain ⟨q, hq, e⟩ := List.mem_map.mp h1
  obtain ⟨⟨o', x', a', b'⟩, k⟩ := q
  cases e
  have h2 := List.all_eq_true.mp xq_SLc _ hq
  simp only [Bool.and_eq_true, Bool.or_eq_true, decide_eq_true_eq] at h2
  have hE := Cx.2.2.2.2.2.2.1
  intro H locs ls hH hS hL
  have key := kk H locs ls hH hS hL
  have e1 : xq_sh t (.ref (xq_tB + a)) = .ref (t.2.2.2.2.2 a) := by
    show Value.ref (xq_ad t (xq_tB + a)) = _
    rw [xq_ad_t (by omega), Nat.add_sub_cancel_left]
  rw [List.map_cons, e1] at key
  by_cases hb : b = 1
  · subst hb
    have hw : Cond.fieldLinkNest (xq_cn o) i (xq_snl.getD a ("", "")).1 (xq_snl.getD a ("", "")).2 "[I" xq_host ∈ xq_nw := List.mem_map.mpr ⟨(o, i, a, 1), List.mem_filter.mpr ⟨h1', rfl⟩, rfl⟩
    exact va_getsN Cx.1 Cx.2.1 (hE.1.1 a h2.1).1 hS Cx.2.2.2.1 (va_Nw.use rfl (hE.1.2.2.2.1 _ hw)) (fun _ z => z) hd key
  · have h3 := h2.2.resolve_left hb
    exact va_gets Cx.1 Cx.2.1 (hE.1.1 a h2.1).1 hS Cx.2.2.2.1 (Cx.2.2.2.2.1 _ (xq_tb _ h3 rfl)) (fun _ z => z) hd key
theorem xq_cast_ok (Cx : xq_Cx t p R s mid args meth c o ini by_ nL) {i v : Nat} (hd : decode by_ pc = .ok (.checkcast i, 3)) (ho : o = 6) (hi : i = 14) (h1 : v < xq_N x) (h2 : (xq_K x v).1 = 100) (kk : xq_Ok p l e R s mid args below meth c Q t nL n0 z0 x (pc + 3) L (.ref v :: r)) : xq_Ok p l e R s mid args below meth c Q t nL n0 z0 x pc L (.ref v :: r) := by
  subst ho
  subst hi
  intro H locs ls hH hS hL
  have hP := hH.at h1
  rw [xq_ent_i h2] at hP
  exact va_castA Cx.1 Cx.2.1 Cx.2.2.2.1 (Cx.2.2.2.2.1 _ xq_wk5) hP 0 rfl (va_nm_int (Cx.2.2.2.2.2.1.2 0 _ rfl).2) hd (kk H locs ls hH hS hL)

set_option maxHeartbeats 4000000 in
theorem xq_step_ok (Cx : xq_Cx t p R s mid args meth c o ini by_ nL) {i : Instr} {len a b c' : Nat} (hdl : decode by_ pc = .ok (i, len)) (hlen : xq_isSw i = true ∨ len = xq_len i) (hj : xq_jok pc i = true) (hok : xq_aok o ini i a b c' = true) (hnc : xq_isCall i a = false) (h : xq_step i a b pc x L st = some (pc', x', L', st')) (hn : n0 ≤ xq_N x) (hz : z0 ≤ xq_Z x) (hR1 : xq_N x' - n0 ≤ R.cells) (hR2 : xq_Z x' - z0 ≤ R.slots) (kk : xq_Ok p l e R s mid args below meth c Q t nL n0 z0 x' pc' L' st') : xq_Ok p l e R s mid args below meth c Q t nL n0 z0 x pc L st := by
  have hx := Cx.1
  have hb := Cx.2.1
  cases i
  case aconst_null =>
    have hd := hlen.resolve_left (fun z => by cases z)
    subst hd
    cases h
    exact xq_pure kk (fun H locs ls ce sl w => lv_null hx hb hdl w)
  case iconst n =>
    have hd := hlen.resolve_left (fun z => by cases z)
    subst hd
    cases h
    exact xq_pure kk (fun H locs ls ce sl w => lv_iconst hx hb hdl rfl w)
  case lconst n =>
    have hd := hlen.resolve_left (fun z => by cases z)
    subst hd
    cases h
    exact xq_pure kk (fun H locs ls ce sl w => lv_lconst hx hb hdl rfl w)
  case bipush n =>
    have hd := hlen.resolve_left (fun z => by cases z)
    subst hd
    cases h
    exact xq_pure kk (fun H locs ls ce sl w => lv_bipush hx hb hdl rfl w)
  case sipush n =>
    have hd := hlen.resolve_left (fun z => by cases z)
    subst hd
    cases h
    exact xq_pure kk (fun H locs ls ce sl w => lv_sipush hx hb hdl rfl w)
  case ldc n =>
    have hd := hlen.resolve_left (fun z => by cases z)
    subst hd
    simp only [xq_step] at h
    simp only [xq_aok] at hok
    split at h
    · rename_i hb0
      rw [if_pos hb0] at hok
      cases h
      exact xq_pure kk (fun H locs ls ce sl w => lv_ldc hx hb Cx.2.2.2.1 (Cx.2.2.2.2.1 _ (xq_IC_ok hok)) hdl w)
    · rename_i hb0
      rw [if_neg hb0] at hok
      cases h
      obtain ⟨q1, q2⟩ := xq_SR_ok hok
      refine xq_pure kk (fun H locs ls ce sl w => ?_)
      have e1 : xq_sh t (.ref (xq_sB + a)) = .ref (t.2.2.2.1 a) := by
        show Value.ref (xq_ad t (xq_sB + a)) = _
        rw [xq_ad_s (by omega) (by omega), Nat.add_sub_cancel_left]
      rw [List.map_cons, e1] at w
      exact va_ldcS hx hb Cx.2.2.2.1 (Cx.2.2.2.2.2.2.1.1.2.1 _ q1) hdl w
  case ldc_w n =>
    have hd := hlen.resolve_left (fun z => by cases z)
    subst hd
    simp only [xq_step] at h
    split at h
    · cases h
      exact xq_pure kk (fun H locs ls ce sl w => lv_ldcw hx hb Cx.2.2.2.1 (Cx.2.2.2.2.1 _ (xq_IC_ok hok)) hdl w)
    · cases h
  case ldc2_w n =>
    have hd := hlen.resolve_left (fun z => by cases z)
    subst hd
    cases h
    exact xq_pure kk (fun H locs ls ce sl w => lv_ldc2 hx hb Cx.2.2.2.1 (Cx.2.2.2.2.1 _ (xq_JC_ok hok)) hdl w)
  case iload n =>
    have hd := hlen.resolve_left (fun z => by cases z)
    subst hd
    exact xq_load_ok h kk (fun _ H locs ls ce sl v r hv w => lv_iload hx hb hdl hv w) (fun z => by cases z) (fun z => by cases z)
  case aload n =>
    have hd := hlen.resolve_left (fun z => by cases z)
    subst hd
    exact xq_load_ok h kk (fun z => by cases z) (fun _ H locs ls ce sl v r hv w => lv_aload hx hb hdl hv w) (fun _ H locs ls ce sl r hv w => lv_aloadN hx hb hdl hv w)
  case iload_n n =>
    have hd := hlen.resolve_left (fun z => by cases z)
    subst hd
    exact xq_load_ok h kk (fun _ H locs ls ce sl v r hv w => lv_iload_n hx hb hdl rfl hv w) (fun z => by cases z) (fun z => by cases z)
  case aload_n n =>
    have hd := hlen.resolve_left (fun z => by cases z)
    subst hd
    exact xq_load_ok h kk (fun z => by cases z) (fun _ H locs ls ce sl v r hv w => lv_aload_n hx hb hdl rfl hv w) (fun _ H locs ls ce sl r hv w => lv_aload_nN hx hb hdl rfl hv w)
  case istore n =>
    have hd := hlen.resolve_left (fun z => by cases z)
    subst hd
    exact xq_store_ok h kk (fun _ H locs ls ls2 ce sl v r hv w => xq_Wistore hx hb hdl hv w) (fun z => by cases z)
  case astore n =>
    have hd := hlen.resolve_left (fun z => by cases z)
    subst hd
    exact xq_store_ok h kk (fun z => by cases z) (fun _ H locs ls ls2 ce sl v r hv w => xq_Wastore hx hb hdl hv w)
  case istore_n n =>
    have hd := hlen.resolve_left (fun z => by cases z)
    subst hd
    exact xq_store_ok h kk (fun _ H locs ls ls2 ce sl v r hv w => xq_Wistore_n hx hb hdl hv w) (fun z => by cases z)
  case astore_n n =>
    have hd := hlen.resolve_left (fun z => by cases z)
    subst hd
    exact xq_store_ok h kk (fun z => by cases z) (fun _ H locs ls ls2 ce sl v r hv w => xq_Wastore_n hx hb hdl hv w)
  case iinc k n =>
    have hd := hlen.resolve_left (fun z => by cases z)
    subst hd
    exact xq_iinc_ok Cx hdl h kk
  case iadd =>
    have hd := hlen.resolve_left (fun z => by cases z)
    subst hd
    exact xq_bin_ok h kk (fun H locs ls ce sl u v r w => lv_iadd hx hb hdl w)
  case isub =>
    have hd := hlen.resolve_left (fun z => by cases z)
    subst hd
    exact xq_bin_ok h kk (fun H locs ls ce sl u v r w => lv_isub hx hb hdl w)
  case imul =>
    have hd := hlen.resolve_left (fun z => by cases z)
    subst hd
    exact xq_bin_ok h kk (fun H locs ls ce sl u v r w => lv_imul hx hb hdl w)
  case iand =>
    have hd := hlen.resolve_left (fun z => by cases z)
    subst hd
    exact xq_bin_ok h kk (fun H locs ls ce sl u v r w => lv_iand hx hb hdl w)
  case ior =>
    have hd := hlen.resolve_left (fun z => by cases z)
    subst hd
    exact xq_bin_ok h kk (fun H locs ls ce sl u v r w => lv_ior hx hb hdl w)
  case ixor =>
    have hd := hlen.resolve_left (fun z => by cases z)
    subst hd
    exact xq_bin_ok h kk (fun H locs ls ce sl u v r w => lv_ixor hx hb hdl w)
  case ishl =>
    have hd := hlen.resolve_left (fun z => by cases z)
    subst hd
    exact xq_bin_ok h kk (fun H locs ls ce sl u v r w => lv_ishl hx hb hdl w)
  case ishr =>
    have hd := hlen.resolve_left (fun z => by cases z)
    subst hd
    exact xq_bin_ok h kk (fun H locs ls ce sl u v r w => lv_ishr hx hb hdl w)
  case iushr =>
    have hd := hlen.resolve_left (fun z => by cases z)
    subst hd
    exact xq_bin_ok h kk (fun H locs ls ce sl u v r w => lv_iushr hx hb hdl rfl w)
  case idiv =>
    have hd := hlen.resolve_left (fun z => by cases z)
    subst hd
    exact xq_div_ok h kk (fun H locs ls ce sl u v r hv w => lv_idiv hx hb hdl hv w)
  case irem =>
    have hd := hlen.resolve_left (fun z => by cases z)
    subst hd
    exact xq_div_ok h kk (fun H locs ls ce sl u v r hv w => lv_irem hx hb hdl hv w)
  case ineg =>
    have hd := hlen.resolve_left (fun z => by cases z)
    subst hd
    simp only [xq_step] at h
    split at h
    · cases h
      exact xq_pure kk (fun H locs ls ce sl w => lv_ineg hx hb hdl w)
    · cases h
  case ladd =>
    have hd := hlen.resolve_left (fun z => by cases z)
    subst hd
    exact xq_lbin_ok h kk (fun H locs ls ce sl u v r w => lv_ladd hx hb hdl w)
  case lmul =>
    have hd := hlen.resolve_left (fun z => by cases z)
    subst hd
    exact xq_lbin_ok h kk (fun H locs ls ce sl u v r w => lv_lmul hx hb hdl w)
  case lcmp =>
    have hd := hlen.resolve_left (fun z => by cases z)
    subst hd
    simp only [xq_step] at h
    split at h
    · cases h
      exact xq_pure kk (fun H locs ls ce sl w => W.lcmp hx hb hdl w)
    · cases h
  case dup =>
    have hd := hlen.resolve_left (fun z => by cases z)
    subst hd
    exact xq_dup_ok Cx hdl h kk
  case dup2 =>
    have hd := hlen.resolve_left (fun z => by cases z)
    subst hd
    exact xq_dup2_ok Cx hdl h kk
  case pop =>
    have hd := hlen.resolve_left (fun z => by cases z)
    subst hd
    exact xq_pop_ok Cx hdl h kk
  case ifCond cd off =>
    have hd := hlen.resolve_left (fun z => by cases z)
    subst hd
    have hjj : 0 ≤ (pc : Int) + off := by simpa [xq_jok] using hj
    cases cd
    case eq =>
      refine xq_if1_ok h kk (fun H locs ls ce sl u r w => ?_)
      exact lv_if_eq hx hb hdl (xq_tgt_ok hjj) (fun z => by rw [if_pos (decide_eq_true z)] at w; exact w) (fun z => by rw [if_neg (by simpa using z)] at w; exact w)
    case ne =>
      refine xq_if1_ok h kk (fun H locs ls ce sl u r w => ?_)
      exact lv_if_ne hx hb hdl (xq_tgt_ok hjj) (fun z => by rw [if_pos (decide_eq_true z)] at w; exact w) (fun z => by rw [if_neg (by simpa using z)] at w; exact w)
    case lt =>
      refine xq_if1_ok h kk (fun H locs ls ce sl u r w => ?_)
      exact lv_if_lt hx hb hdl (xq_tgt_ok hjj) (fun z => by rw [if_pos (decide_eq_true z)] at w; exact w) (fun z => by rw [if_neg (by simpa using z)] at w; exact w)
    case ge =>
      refine xq_if1_ok h kk (fun H locs ls ce sl u r w => ?_)
      exact lv_if_ge hx hb hdl (xq_tgt_ok hjj) (fun z => by rw [if_pos (decide_eq_true z)] at w; exact w) (fun z => by rw [if_neg (by simpa using z)] at w; exact w)
    case gt =>
      refine xq_if1_ok h kk (fun H locs ls ce sl u r w => ?_)
      exact lv_if_gt hx hb hdl (xq_tgt_ok hjj) (fun z => by rw [if_pos (decide_eq_true z)] at w; exact w) (fun z => by rw [if_neg (by simpa using z)] at w; exact w)
    case le =>
      refine xq_if1_ok h kk (fun H locs ls ce sl u r w => ?_)
      exact lv_if_le hx hb hdl (xq_tgt_ok hjj) (fun z => by rw [if_pos (decide_eq_true z)] at w; exact w) (fun z => by rw [if_neg (by simpa using z)] at w; exact w)
  case if_icmp cd off =>
    have hd := hlen.resolve_left (fun z => by cases z)
    subst hd
    have hjj : 0 ≤ (pc : Int) + off := by simpa [xq_jok] using hj
    cases cd
    case eq =>
      refine xq_if2_ok h kk (fun H locs ls ce sl u v r w => ?_)
      exact lv_icmp_eq hx hb hdl (xq_tgt_ok hjj) (fun z => by rw [if_pos (decide_eq_true z)] at w; exact w) (fun z => by rw [if_neg (by simpa using z)] at w; exact w)
    case ne =>
      refine xq_if2_ok h kk (fun H locs ls ce sl u v r w => ?_)
      exact lv_icmp_ne hx hb hdl (xq_tgt_ok hjj) (fun z => by rw [if_pos (decide_eq_true z)] at w; exact w) (fun z => by rw [if_neg (by simpa using z)] at w; exact w)
    case lt =>
      refine xq_if2_ok h kk (fun H locs ls ce sl u v r w => ?_)
      exact lv_icmp_lt hx hb hdl (xq_tgt_ok hjj) (fun z => by rw [if_pos (decide_eq_true z)] at w; exact w) (fun z => by rw [if_neg (by simpa using z)] at w; exact w)
    case ge =>
      refine xq_if2_ok h kk (fun H locs ls ce sl u v r w => ?_)
      exact lv_icmp_ge hx hb hdl (xq_tgt_ok hjj) (fun z => by rw [if_pos (decide_eq_true z)] at w; exact w) (fun z => by rw [if_neg (by simpa using z)] at w; exact w)
    case gt =>
      refine xq_if2_ok h kk (fun H locs ls ce sl u v r w => ?_)
      exact lv_icmp_gt hx hb hdl (xq_tgt_ok hjj) (fun z => by rw [if_pos (decide_eq_true z)] at w; exact w) (fun z => by rw [if_neg (by simpa using z)] at w; exact w)
    case le =>
      refine xq_if2_ok h kk (fun H locs ls ce sl u v r w => ?_)
      exact lv_icmp_le hx hb hdl (xq_tgt_ok hjj) (fun z => by rw [if_pos (decide_eq_true z)] at w; exact w) (fun z => by rw [if_neg (by simpa using z)] at w; exact w)
  case goto off =>
    have hd := hlen.resolve_left (fun z => by cases z)
    subst hd
    cases h
    have hj : 0 ≤ (pc : Int) + off := by simpa [xq_jok] using hj
    exact xq_pure kk (fun H locs ls ce sl w => lv_goto hx hb hdl (xq_tgt_ok hj) w)
  case ifnonnull off =>
    have hd := hlen.resolve_left (fun z => by cases z)
    subst hd
    have hj : 0 ≤ (pc : Int) + off := by simpa [xq_jok] using hj
    exact xq_ifnn_ok Cx hdl hj h kk
  case tableswitch d lo hi offs =>
    exact xq_sw_ok Cx hdl hj h kk
  case getfield n =>
    have hd := hlen.resolve_left (fun z => by cases z)
    subst hd
    exact xq_getf_ok Cx hdl hok h kk
  case putfield n =>
    have hd := hlen.resolve_left (fun z => by cases z)
    subst hd
    exact xq_putf_ok Cx hdl hok h kk
  case getstatic n =>
    have hd := hlen.resolve_left (fun z => by cases z)
    subst hd
    cases h
    exact xq_gets_ok Cx hdl hok kk
  case iaload =>
    have hd := hlen.resolve_left (fun z => by cases z)
    subst hd
    exact xq_iaload_ok Cx hdl h kk
  case laload =>
    have hd := hlen.resolve_left (fun z => by cases z)
    subst hd
    exact xq_laload_ok Cx hdl h kk
  case aaload =>
    have hd := hlen.resolve_left (fun z => by cases z)
    subst hd
    exact xq_aaload_ok Cx hdl h kk
  case iastore =>
    have hd := hlen.resolve_left (fun z => by cases z)
    subst hd
    exact xq_iastore_ok Cx hdl h kk
  case lastore =>
    have hd := hlen.resolve_left (fun z => by cases z)
    subst hd
    exact xq_lastore_ok Cx hdl h kk
  case aastore =>
    have hd := hlen.resolve_left (fun z => by cases z)
    subst hd
    exact xq_aastore_ok Cx hdl h kk
  case arraylength =>
    have hd := hlen.resolve_left (fun z => by cases z)
    subst hd
    exact xq_alen_ok Cx hdl h kk
  case newarray ty =>
    have hd := hlen.resolve_left (fun z => by cases z)
    subst hd
    cases ty
    case int => exact xq_newi_ok Cx hdl h hn hz hR1 hR2 xq_wi1 kk
    case long => exact xq_newl_ok Cx hdl h hn hz hR1 hR2 xq_wi2 kk
    all_goals (cases h)
  case anewarray n =>
    have hd := hlen.resolve_left (fun z => by cases z)
    subst hd
    exact xq_newq_ok Cx hdl hok h hn hz hR1 hR2 kk
  case new n =>
    have hd := hlen.resolve_left (fun z => by cases z)
    subst hd
    exact xq_obj_ok Cx hdl hok h hn hz hR1 hR2 kk
  case checkcast n =>
    have hd := hlen.resolve_left (fun z => by cases z)
    subst hd
    simp only [xq_step] at h
    simp only [xq_aok, Bool.and_eq_true, decide_eq_true_eq] at hok
    split at h
    · split at h
      · rename_i hb0
        simp only [Bool.and_eq_true, decide_eq_true_eq] at hb0
        cases h
        exact xq_cast_ok Cx hdl hok.1 hok.2 hb0.1 hb0.2 kk
      · cases h
    · cases h
  case invokevirtual n =>
    have hd := hlen.resolve_left (fun z => by cases z)
    subst hd
    have ha : ¬ a < 1000 := by simpa [xq_isCall] using hnc
    simp only [xq_aok, if_neg ha] at hok
    exact xq_selfv_ok Cx hdl hok h hn hz hR1 hR2 kk
  case invokespecial n =>
    have hd := hlen.resolve_left (fun z => by cases z)
    subst hd
    have ha : ¬ a < 1000 := by simpa [xq_isCall] using hnc
    simp only [xq_aok, if_neg ha] at hok
    exact xq_selfp_ok Cx hdl hok h kk
  case invokestatic n =>
    have hd := hlen.resolve_left (fun z => by cases z)
    subst hd
    have ha : ¬ a < 1000 := by simpa [xq_isCall] using hnc
    simp only [xq_aok, if_neg ha] at hok
    exact xq_selfs_ok Cx hdl hok h hR1 hR2 kk
  case ifnull off =>
    have hd := hlen.resolve_left (fun z => by cases z)
    subst hd
    have hj : 0 ≤ (pc : Int) + off := by simpa [xq_jok] using hj
    simp only [xq_step, xq_null] at h
    split at h
    · cases h
      exact xq_pure kk (fun H locs ls ce sl w => lv_ifnullN hx hb hdl (xq_tgt_ok hj) w)
    · cases h
      exact xq_pure kk (fun H locs ls ce sl w => lv_ifnull hx hb hdl w)
    · cases h
  all_goals (cases h)
end xq_one
