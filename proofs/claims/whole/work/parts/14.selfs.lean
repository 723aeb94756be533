/-! what the machine does itself, and the rest of the instructions -/
theorem xq_wo1 : Cond.instanceMethod objectInit ∈ xq_gw := xq_t1 (List.mem_of_getElem? (i := 28) rfl) rfl
theorem xq_wo2 : Cond.code objectInit ⟨#[0xb1]⟩ 1 none ∈ xq_gw := xq_t1 (List.mem_of_getElem? (i := 29) rfl) rfl
theorem xq_wa1 : Cond.native arraycopyName ∈ xq_gw := xq_t3 (List.mem_of_getElem? (i := 96) rfl) rfl
theorem xq_wa2 : Cond.static arraycopyName ∈ xq_gw := xq_t3 (List.mem_of_getElem? (i := 95) rfl) rfl
theorem xq_wa3 : Cond.initialized "java/lang/System" ∈ xq_gw := xq_t1 (List.mem_of_getElem? (i := 15) rfl) rfl
theorem xq_wk1 : Cond.sameMethod "[I" "java/lang/Object" "clone" "()Ljava/lang/Object;" ∈ xq_gw := xq_t1 (List.mem_of_getElem? (i := 146) rfl) rfl
theorem xq_wk2 : Cond.native ⟨"java/lang/Object", "clone", "()Ljava/lang/Object;"⟩ ∈ xq_gw := xq_t1 (List.mem_of_getElem? (i := 147) rfl) rfl
theorem xq_wk3 : Cond.instanceMethod ⟨"java/lang/Object", "clone", "()Ljava/lang/Object;"⟩ ∈ xq_gw := xq_t1 (List.mem_of_getElem? (i := 148) rfl) rfl
theorem xq_wk4 : Cond.selects "[I" ⟨"[I", "clone", "()Ljava/lang/Object;"⟩ ⟨"java/lang/Object", "clone", "()Ljava/lang/Object;"⟩ ∈ xq_gw := xq_t1 (List.mem_of_getElem? (i := 149) rfl) rfl
theorem xq_wk5 : Cond.classLink (xq_cn 6) 14 "[I" ∈ xq_gw := xq_t1 (List.mem_of_getElem? (i := 151) rfl) rfl
theorem xq_wi1 : Cond.arrayClass .int ∈ xq_gw := xq_t1 (List.mem_of_getElem? (i := 85) rfl) rfl
theorem xq_wi2 : Cond.arrayClass .long ∈ xq_gw := xq_t2 (List.mem_of_getElem? (i := 150) rfl) rfl
theorem xq_KL9 {o i y b c : Nat} (h : xq_KL.contains (o, i, y, b, c, 9) = true) : Cond.methodLink (xq_cn o) i (xq_in9 y) ∈ xq_gw := by
  have h1 := xq_mem h
  rw [xq_KLe] at h1
  obtain ⟨q, hq, e⟩ := List.mem_map.mp h1
  obtain ⟨⟨o', x', a', b', c', k'⟩, k⟩ := q
  cases e
  have h2 := List.all_eq_true.mp xq_KLc _ hq
  simp only [if_true, Bool.and_eq_true, decide_eq_true_eq] at h2
  exact xq_tb _ h2.2 rfl
theorem xq_room_sum {r : List Value} {t : xq_Th} (h : xq_room r = true) : ((r.map (xq_sh t)).map fun v => v.category).sum ≤ 8 := by
  have e : (r.map (xq_sh t)).map (fun v => v.category) = r.map (fun v => v.category) := by
    rw [List.map_map]
    apply List.map_congr_left
    intro v _
    exact xq_sh_cat t v
  rw [e]
  simpa [xq_room] using h
theorem xq_nfw : nativeFrameWords "java/lang/System" "arraycopy" 5 + 11 ≤ 200 := by decide +kernel
section xq_selfs
variable {p : Program} {l : Launch} {e : Env} {R : Room} {s : State} {mid : MethodId} {args : Array Value} {below : List Frame} {meth : Method} {c : Code} {Q : State → Prop}
variable {t : xq_Th} {o nL n0 z0 : Nat} {ini : Bool} {by_ : ByteArray} {x x' : xq_S} {q pc pc' : Nat} {L L' st st' r : List Value}
theorem xq_oinit_ok (Cx : xq_Cx t p R s mid args meth c o ini by_ nL) {i a b c' : Nat} (hd : decode by_ pc = .ok (.invokespecial i, 3)) (hok : xq_KL.contains (o, i, 1000, b, c', 9) = true) (hr : xq_room r = true) (kk : xq_Ok p l e R s mid args below meth c Q t nL n0 z0 x (pc + 3) L r) : xq_Ok p l e R s mid args below meth c Q t nL n0 z0 x pc L (.ref a :: r) := by
  intro H locs ls hH hS hL
  have hs := xq_room_sum (t := t) hr
  exact W.objInit (g := F0 mid pc ls (.ref (xq_ad t a) :: r.map (xq_sh t))) Cx.1 Cx.2.1 Cx.2.2.2.1 (Cx.2.2.2.2.1 _ (xq_KL9 hok)) (Cx.2.2.2.2.1 _ xq_wo1) (Cx.2.2.2.2.1 _ xq_wo2) rfl (by rw [Cx.2.2.1]; exact hL.2.1) rfl hd (by have := Cx.2.2.2.2.2.2.2.2.2.2.1; omega) (by show 2 * 0 + _ + 12 ≤ _; have := Cx.2.2.2.2.2.2.2.2.2.2.2; omega) (kk H locs ls hH hS hL)
theorem xq_copy_ok (Cx : xq_Cx t p R s mid args meth c o ini by_ nL) {i b c' sc ds : Nat} {sp dp n : Int32} (hd : decode by_ pc = .ok (.invokestatic i, 3)) (hok : xq_KL.contains (o, i, 1001, b, c', 9) = true) (hr : xq_room r = true) (a1 : ds < xq_N x) (a2 : sc < xq_N x) (a3 : (xq_K x ds).1 = 100) (a4 : (xq_K x sc).1 = 100) (h3 : ¬ n < 0) (h2 : ¬ dp < 0) (h1 : ¬ sp < 0) (h4 : sp.toNatClampNeg + n.toNatClampNeg ≤ (xq_K x sc).2) (h5 : dp.toNatClampNeg + n.toNatClampNeg ≤ (xq_K x ds).2)
    (kk : xq_Ok p l e R s mid args below meth c Q t nL n0 z0 (x.1, x.2.1, va_up x.2.2 ds (va_cpy (x.2.2 sc) (x.2.2 ds) sp.toNatClampNeg dp.toNatClampNeg n.toNatClampNeg)) (pc + 3) L r) : xq_Ok p l e R s mid args below meth c Q t nL n0 z0 x pc L (.int n :: .int dp :: .ref ds :: .int sp :: .ref sc :: r) := by
  have nn : ∀ z : Int32, ¬ z < 0 → z.toInt = (z.toNatClampNeg : Int) := by
    intro z hz
    have hz0 : (0 : Int) ≤ z.toInt := by
      have := Int32.not_lt.mp hz
      simpa using Int32.le_iff_toInt_le.mp this
    show z.toInt = ((z.toInt.toNat : Nat) : Int)
    omega
  intro H locs ls hH hS hL T hT X
  have hs := xq_room_sum (t := t) hr
  have hc0 := hH.2.2 sc a2
  rw [← hH.lt a2, xq_ent_i a4] at hc0
  have hc1 := hH.2.2 ds a1
  rw [← hH.lt a1, xq_ent_i a3] at hc1
  have hc0 : H[xq_ad t sc]? = some (vp_cell t.2.2.1.1 ((xq_K x sc).2, .inl (xq_I x sc))) := hc0
  have hc1 : H[xq_ad t ds]? = some (vp_cell t.2.2.1.1 ((xq_K x ds).2, .inl (xq_I x ds))) := hc1
  obtain ⟨-, k0, hk0, cm0, hkk0⟩ := (Cx.2.2.2.2.2.1.2 0 _ rfl).1 0 (fun _ => .null)
  have hk0' : s.vm.classes[(vp_cell t.2.2.1.1 ((xq_K x sc).2, .inl (xq_I x sc))).cls]? = some k0 := hk0
  have hk1' : s.vm.classes[(vp_cell t.2.2.1.1 ((xq_K x ds).2, .inl (xq_I x ds))).cls]? = some k0 := hk0
  obtain ⟨vm', X', step⟩ := X.arraycopy Cx.1 Cx.2.2.2.1 (Cx.2.2.2.2.1 _ (xq_KL9 hok)) (Cx.2.2.2.2.1 _ xq_wa1) (Cx.2.2.2.2.1 _ xq_wa2) (Cx.2.2.2.2.1 _ xq_wa3) (src := xq_ad t sc) (dst := xq_ad t ds) (cs := vp_cell t.2.2.1.1 ((xq_K x sc).2, .inl (xq_I x sc))) (cd := vp_cell t.2.2.1.1 ((xq_K x ds).2, .inl (xq_I x ds))) (srcPos := sp) (destPos := dp) (n := n) (by rw [hT]; exact hc0) (by rw [hT]; exact hc1)
    (fun _ h => by cases h) (fun _ h => by cases h) (fun h => by cases h) (fun h => by cases h) hk0' hk1' hkk0 hkk0 (by simp [refKind]) h1 h2 h3
    (by rw [nn sp h1, nn n h3]; show ¬ _ > ((arrV _ (xq_K x sc).2 (fun j => .int (xq_I x sc j))).slots.size : Int); rw [arrV_size]; omega)
    (by rw [nn dp h2, nn n h3]; show ¬ _ > ((arrV _ (xq_K x ds).2 (fun j => .int (xq_I x ds j))).slots.size : Int); rw [arrV_size]; omega)
    (fun vm₁ _ i hi => by
      have e : (vp_cell t.2.2.1.1 ((xq_K x sc).2, .inl (xq_I x sc))).slots.getD (sp.toNatClampNeg + i) .null = .int (xq_I x sc (sp.toNatClampNeg + i)) := by
        show (arrV _ (xq_K x sc).2 (fun j => .int (xq_I x sc j))).slots.getD _ _ = _
        rw [Array.getD_eq_getD_getElem?, arrV_read _ _ (by omega)]
        rfl
      refine ⟨?_, ?_⟩
      · rw [e]
        rfl
      · rw [e]
        exact trivial)
    (g := F0 mid pc ls (.int n :: .int dp :: .ref (xq_ad t ds) :: .int sp :: .ref (xq_ad t sc) :: r.map (xq_sh t))) rfl (by rw [Cx.2.2.1]; exact hL.2.1) (rest := r.map (xq_sh t)) rfl (by rw [Cx.2.1]; exact hd) (by have := Cx.2.2.2.2.2.2.2.2.2.2.1; omega) (by show 2 * 0 + _ + (nativeFrameWords "java/lang/System" "arraycopy" 5 + 11) ≤ _; have := Cx.2.2.2.2.2.2.2.2.2.2.2; have h9 := xq_nfw; omega)
  have e1 : copied (vp_cell t.2.2.1.1 ((xq_K x sc).2, .inl (xq_I x sc))) (vp_cell t.2.2.1.1 ((xq_K x ds).2, .inl (xq_I x ds))) sp dp n = vp_cell t.2.2.1.1 ((xq_K x ds).2, .inl (va_cpy (xq_I x sc) (xq_I x ds) sp.toNatClampNeg dp.toNatClampNeg n.toNatClampNeg)) := va_copied (fun z => .int z) _ _ _ _ h4
  rw [e1] at X' step
  have hl : xq_ad t ds < H.size := (Array.getElem?_eq_some_iff.mp hc1).1
  generalize hce : vp_cell t.2.2.1.1 ((xq_K x ds).2, .inl (va_cpy (xq_I x sc) (xq_I x ds) sp.toNatClampNeg dp.toNatClampNeg n.toNatClampNeg)) = ce at X' step
  have hheap : ((T.setVm vm').setCell (xq_ad t ds) ce).heap = H.setIfInBounds (xq_ad t ds) ce := by rw [← hT]; rfl
  have oq : ∀ q : Nat, q ≠ xq_ad t ds → (H.setIfInBounds (xq_ad t ds) ce)[q]? = H[q]? := fun q hq => by simp [Array.getElem?_setIfInBounds, Ne.symm hq]
  obtain ⟨t2, b1, b2⟩ := kk (H.setIfInBounds (xq_ad t ds) ce) _ ls (xq_H_set (x' := (x.1, x.2.1, va_up x.2.2 ds (va_cpy (x.2.2 sc) (x.2.2 ds) sp.toNatClampNeg dp.toNatClampNeg n.toNatClampNeg))) hH a1 rfl (fun j hj => xq_ent_congr rfl rfl rfl (va_up_ne _ _ hj)) (by simp) oq (by
      rw [xq_ent_i (show (xq_K (x.1, x.2.1, va_up x.2.2 ds (va_cpy (x.2.2 sc) (x.2.2 ds) sp.toNatClampNeg dp.toNatClampNeg n.toNatClampNeg)) ds).1 = 100 from a3)]
      show (H.setIfInBounds (xq_ad t ds) ce)[xq_ad t ds]? = some (vp_cell _ ((xq_K x ds).2, .inl (va_up x.2.2 ds (va_cpy (x.2.2 sc) (x.2.2 ds) sp.toNatClampNeg dp.toNatClampNeg n.toNatClampNeg) ds)))
      rw [va_up_self, ← hce]
      simp [Array.getElem?_setIfInBounds, hl]))
    ⟨by simp; exact hS.1, fun q g1 g2 => by
      rw [oq q (fun e => g2 (by rw [e]; show t.1 ≤ _; rw [hH.lt a1]; omega))]
      exact hS.2.1 q g1 g2, fun q hq => by
      rcases List.mem_append.mp hq with h | h
      · exact hS.2.2 q h
      · obtain ⟨z, -, hz⟩ := List.mem_map.mp h
        rw [← hz]
        show t.1 ≤ xq_ad t ds
        rw [hH.lt a1]
        omega⟩ hL _ hheap X'
  exact ⟨t2, step t2 b1, b2⟩
end xq_selfs
