/-! the law, over what its calls answer -/
/-- a call of both, with the same arguments: the same answer, and the world goes on -/
def xq_pair (Mi : Nat) (Inv : xq_S → Prop) (mc mm : Nat) (As : List Value) (r : Value → Prop) : Prop := ∀ x, Inv x → ∃ (F : Nat) (v : Value) (x1 x2 : xq_S), r v ∧ xq_x F 90 mc x 0 ((.ref 0 :: As) ++ List.replicate ((xq_mn mc).2.2.1 - (As.length + 1)) xq_un) [] = some (some v, x1) ∧ Mi < xq_N x1 ∧ (xq_K x1 Mi).1 = 12 ∧ xq_x F 90 mm x1 0 ((.ref Mi :: As) ++ List.replicate ((xq_mn mm).2.2.1 - (As.length + 1)) xq_un) [] = some (some v, x2) ∧ Inv x2
def xq_isI (v : Value) : Prop := ∃ z : Int32, v = .int z
def xq_isJ (v : Value) : Prop := ∃ z : Int64, v = .long z
def xq_bz (z : Int32) : Int32 := if z = 0 then 0 else 1
/-- what the runs of calls must keep -/
def xq_Fit (Mi : Nat) (Inv : xq_S → Prop) : Prop := ∀ x, Inv x → 0 < xq_N x ∧ (xq_K x 0).1 = 11 ∧ xq_N x ≤ room_1.cells ∧ xq_Z x ≤ room_1.slots ∧ xq_N x ≤ xq_sB
section xq_law
variable {p : Program} {l : Launch} {e : Env} {s : State} {mid : MethodId} {args : Array Value} {below : List Frame} {meth : Method} {c : Code} {Q : State → Prop}
variable {t : xq_Th} {x x1 : xq_S} {pc : Nat} {r : List Value}
theorem xq_sh_ints : ∀ (zs : List Int32), (zs.map Value.int).map (xq_sh t) = zs.map Value.int := by
  intro zs
  rw [List.map_map]
  rfl
theorem xq_lawcall (Cx : xq_Cx t p room_1 s mid args meth c 13 false code 4) {F i a ra : Nat} {zs : List Int32} {v : Value} (hd : decode code pc = .ok (.invokevirtual i, 3)) (hok : xq_KL.contains (13, i, a, zs.length + 1, (xq_mn a).2.2.1, 0) = true) (hra : ra < xq_N x) (hrk : (xq_K x ra).1 = xq_ow a) (hr : ((r.map fun w => w.category).sum ≤ 8)) (h : xq_x F 90 a x 0 ((.ref ra :: zs.map Value.int) ++ List.replicate ((xq_mn a).2.2.1 - ((zs.map Value.int).length + 1)) xq_un) [] = some (some v, x1)) (hR1 : xq_N x1 ≤ room_1.cells) (hR2 : xq_Z x1 ≤ room_1.slots) {H : Heap} {locs : List Loc} {ls : Array Slot} (hls : ls.size = 4) (hH : xq_H t x H) (hS : va_S (xq_A t) s.heap H locs)
    (kk : ∀ (H1 : Heap) (locs1 : List Loc), xq_H t x1 H1 → va_S (xq_A t) s.heap H1 locs1 → W p l e room_1 s mid args below meth c H1 locs1 (xq_N x1) (xq_Z x1) Q (F0 mid (pc + 3) ls (xq_sh t v :: r))) : W p l e room_1 s mid args below meth c H locs (xq_N x) (xq_Z x) Q (F0 mid pc ls ((zs.map Value.int).reverse ++ .ref (xq_ad t ra) :: r)) := by
  have hle := xq_le_x _ _ _ _ _ _ _ _ _ h
  have hE := Cx.2.2.2.2.2.2.1
  have hK := Cx.2.2.2.2.2.1
  have hts := Cx.2.2.2.2.1
  have fix : CallFix p mid c code 4 s args xq_gw (xq_cn 13) := ⟨Cx.1, Cx.2.1, Cx.2.2.1, Cx.2.2.2.1, hts⟩
  have c1 : xq_N x + (xq_N x1 - xq_N x) = xq_N x1 := by have := hle.1; omega
  have c2 : xq_Z x + (xq_Z x1 - xq_Z x) = xq_Z x1 := by have := hle.2; omega
  obtain ⟨k1, k2, k3, k4, k5, k6, -⟩ := xq_KL_ok hok (by decide)
  rw [if_neg (by decide)] at k5
  rw [if_neg (by omega)] at k3
  obtain ⟨w1, w2, w3, w4, w5, w6, w7, w8, w9, w10, w11, w12, w13⟩ := xq_meth k1
  have hcat : ∀ w ∈ (Value.ref ra :: zs.map Value.int), w.category = 1 := by
    intro w hw
    rcases List.mem_cons.mp hw with rfl | hw
    · rfl
    · obtain ⟨z, -, rfl⟩ := List.mem_map.mp hw
      rfl
  have hl1 : (Value.ref ra :: zs.map Value.int).length = zs.length + 1 := by simp
  have h' : xq_x F 90 a x 0 ((Value.ref ra :: zs.map Value.int) ++ List.replicate ((xq_mn a).2.2.1 - (Value.ref ra :: zs.map Value.int).length) xq_un) [] = some (some v, x1) := h
  have hM := xq_met (xq_sound l t F) k1 hcat (by rw [hl1]; exact k4) h'
  have how : xq_ow a < 13 := xq_ow13 a k1 k5
  have hP := hH.at hra
  rw [xq_ent_o (by omega), hrk] at hP
  have hrec := va_recv hK hP (xq_cls0 how) (q0 := 0) rfl
  have hPre := (xq_PreP hE hK hH hS ((Value.ref ra :: zs.map Value.int).map (xq_sh t))).2
  have e1 : (Value.ref ra :: zs.map Value.int).map (xq_sh t) = Value.ref (xq_ad t ra) :: zs.map Value.int := by
    rw [List.map_cons, xq_sh_ints]
    rfl
  rw [e1] at hM hPre
  have hRm : (xq_rm 90 x x1).frames + 1 ≤ room_1.frames ∧ 8 + ((xq_mn a).2.2.1 + 11) + (xq_rm 90 x x1).locals ≤ room_1.locals := by
    refine ⟨by show 90 + 8 + 1 ≤ 2048; decide, ?_⟩
    show 8 + ((xq_mn a).2.2.1 + 11) + (30 * 90 + 300) ≤ 84000
    exact Nat.le_trans (xq_arith (d := 90) w8 (Nat.le_refl _)) (by decide)
  refine xq_callq (va_runV (C := (xq_mn a).1.cls) (b := xq_ad t ra) (As := zs.map Value.int) (rest := r) fix hM (cwV (xq_pm a).2.2.2.2.2.2 hts (xq_goodIn (xq_good4 (k6 (by decide)) (w11 (by omega)) (w13 k5) w2 (xq_goodC w1))) rfl rfl rfl ⟨rfl, w6, w7, w5⟩ hRm) ⟨xq_blindP, by rw [w4]; exact hrec, hPre⟩ rfl ?_ hls rfl (lv_room hr) hd ?_) hS ?_
  · rw [List.length_map]
    omega
  · rw [c1, c2]
    exact ⟨hR1, hR2⟩
  · intro H1 locs1 g1 g2
    rw [c1, c2]
    exact kk H1 locs1 g1 g2

theorem xq_lwb {a : Nat} {H : Heap} {locs : List Loc} {ce sl : Nat} {ls : Array Slot} {y : Int32} {r : List Value} (h1 : (y = 0 → W p l e room_1 s mid args below meth c H locs ce sl Q (F0 mid (a + 7) ls r)) → (¬ y = 0 → W p l e room_1 s mid args below meth c H locs ce sl Q (F0 mid (a + 3) ls r)) → W p l e room_1 s mid args below meth c H locs ce sl Q (F0 mid a ls (.int y :: r))) (h2 : W p l e room_1 s mid args below meth c H locs ce sl Q (F0 mid (a + 8) ls (.int 1 :: r)) → W p l e room_1 s mid args below meth c H locs ce sl Q (F0 mid (a + 3) ls r)) (h3 : W p l e room_1 s mid args below meth c H locs ce sl Q (F0 mid (a + 8) ls (.int 0 :: r)) → W p l e room_1 s mid args below meth c H locs ce sl Q (F0 mid (a + 7) ls r)) (k : W p l e room_1 s mid args below meth c H locs ce sl Q (F0 mid (a + 8) ls (.int (xq_bz y) :: r))) : W p l e room_1 s mid args below meth c H locs ce sl Q (F0 mid a ls (.int y :: r)) := by
  refine h1 (fun w => h3 ?_) (fun w => h2 ?_)
  · rw [xq_bz, if_pos w] at k
    exact k
  · rw [xq_bz, if_neg w] at k
    exact k
theorem xq_ix {L : Nat} {i k : Nat} (h : i + 6 ≤ L) (hL : L ≤ 3072) (hk : k < 6) : vp_in (nI i + nI k) L ∧ (nI i + nI k).toNatClampNeg = (nI i).toNatClampNeg + k := by
  rw [nI_add, nI_clamp (by omega), nI_clamp (by omega)]
  exact ⟨vp_in_nI (by omega) (by omega), rfl⟩

theorem xq_lk_13 : xq_KL.contains (13, 13, 13, 2, (xq_mn 13).2.2.1, 0) = true := by decide +kernel
theorem xq_lk_17 : xq_KL.contains (13, 17, 158, 2, (xq_mn 158).2.2.1, 0) = true := by decide +kernel
set_option maxHeartbeats 1000000 in
theorem xq_case0 (Cx : xq_Cx t p room_1 s mid args meth c 13 false code 4) {Mi b L i : Nat} {xs : Nat → Int32} {Inv : xq_S → Prop} (hFit : xq_Fit Mi Inv) (hX : va_X b L xs s s.heap) (hbl : b < s.heap.size) (hbA : ¬ xq_A t b) (hL : L ≤ 3072) (hi : i + 6 ≤ L) (hp : xq_pair Mi Inv 13 158 (([xs ((nI i).toNatClampNeg + 1)] : List Int32).map Value.int) xq_isI) (hI : Inv x) {H : Heap} {locs : List Loc} {ls : Array Slot} (hH : xq_H t x H) (hS : va_S (xq_A t) s.heap H locs) (hl : lv_has ls 4 [(0, .ref b), (1, .ref (xq_ad t 0)), (2, .ref (xq_ad t Mi)), (3, .int (nI i))]) (kk : ∀ (x2 : xq_S) (H1 : Heap) (locs1 : List Loc), Inv x2 → xq_H t x2 H1 → va_S (xq_A t) s.heap H1 locs1 → W p l e room_1 s mid args below meth c H1 locs1 (xq_N x2) (xq_Z x2) Q (F0 mid 988 ls [])) : W p l e room_1 s mid args below meth c H locs (xq_N x) (xq_Z x) Q (F0 mid 172 ls []) := by
  obtain ⟨F, v, x1, x2, ⟨z, rfl⟩, h1, hm1, hm2, h2, hI2⟩ := hp x hI
  obtain ⟨f1, f2, -, -, -⟩ := hFit x hI
  obtain ⟨-, -, g3, g4, -⟩ := hFit x2 hI2
  have hle := xq_le_x _ _ _ _ _ _ _ _ _ h2
  have hx := Cx.1
  have hb := Cx.2.1
  obtain ⟨i1, j1⟩ := xq_ix (k := 1) hi hL (by decide)
  refine lv_aload_n hx hb xq_lw_172 rfl (lv_at hl 1 rfl) ?_
  refine lv_aload_n hx hb xq_lw_173 rfl (lv_at hl 0 rfl) ?_
  refine lv_iload_n hx hb xq_lw_174 rfl (lv_at hl 3 rfl) ?_
  refine lv_iconst (v := nI 1) hx hb xq_lw_175 (by decide) ?_
  refine lv_iadd hx hb xq_lw_176 ?_
  refine va_sld hx hb hX hbl hbA hS i1 xq_lw_177 ?_
  rw [j1]
  refine xq_lawcall (ra := 0) (zs := [xs ((nI i).toNatClampNeg + 1)]) (r := []) Cx xq_lw_178 xq_lk_13 f1 (f2.trans (by decide +kernel)) (Nat.zero_le _) h1 (Nat.le_trans hle.1 g3) (Nat.le_trans hle.2 g4) hl.1 hH hS (fun H locs hH hS => ?_)
  refine lv_aload_n hx hb xq_lw_181 rfl (lv_at hl 2 rfl) ?_
  refine lv_aload_n hx hb xq_lw_182 rfl (lv_at hl 0 rfl) ?_
  refine lv_iload_n hx hb xq_lw_183 rfl (lv_at hl 3 rfl) ?_
  refine lv_iconst (v := nI 1) hx hb xq_lw_184 (by decide) ?_
  refine lv_iadd hx hb xq_lw_185 ?_
  refine va_sld hx hb hX hbl hbA hS i1 xq_lw_186 ?_
  rw [j1]
  refine xq_lawcall (ra := Mi) (zs := [xs ((nI i).toNatClampNeg + 1)]) (r := [.int z]) Cx xq_lw_187 xq_lk_17 hm1 (hm2.trans (by decide +kernel)) (Nat.le_of_ble_eq_true rfl) h2 g3 g4 hl.1 hH hS (fun H locs hH hS => ?_)
  exact lv_icmp_eq (tgt := 988) hx hb xq_lw_190 (by decide) (fun _ => kk x2 H locs hI2 hH hS) (fun w => absurd rfl w)
theorem xq_lk_18 : xq_KL.contains (13, 18, 16, 3, (xq_mn 16).2.2.1, 0) = true := by decide +kernel
theorem xq_lk_22 : xq_KL.contains (13, 22, 160, 3, (xq_mn 160).2.2.1, 0) = true := by decide +kernel
set_option maxHeartbeats 1000000 in
theorem xq_case1 (Cx : xq_Cx t p room_1 s mid args meth c 13 false code 4) {Mi b L i : Nat} {xs : Nat → Int32} {Inv : xq_S → Prop} (hFit : xq_Fit Mi Inv) (hX : va_X b L xs s s.heap) (hbl : b < s.heap.size) (hbA : ¬ xq_A t b) (hL : L ≤ 3072) (hi : i + 6 ≤ L) (hp : xq_pair Mi Inv 16 160 (([xs ((nI i).toNatClampNeg + 1), xs ((nI i).toNatClampNeg + 2)] : List Int32).map Value.int) xq_isI) (hI : Inv x) {H : Heap} {locs : List Loc} {ls : Array Slot} (hH : xq_H t x H) (hS : va_S (xq_A t) s.heap H locs) (hl : lv_has ls 4 [(0, .ref b), (1, .ref (xq_ad t 0)), (2, .ref (xq_ad t Mi)), (3, .int (nI i))]) (kk : ∀ (x2 : xq_S) (H1 : Heap) (locs1 : List Loc), Inv x2 → xq_H t x2 H1 → va_S (xq_A t) s.heap H1 locs1 → W p l e room_1 s mid args below meth c H1 locs1 (xq_N x2) (xq_Z x2) Q (F0 mid 988 ls [])) : W p l e room_1 s mid args below meth c H locs (xq_N x) (xq_Z x) Q (F0 mid 195 ls []) := by
  obtain ⟨F, v, x1, x2, ⟨z, rfl⟩, h1, hm1, hm2, h2, hI2⟩ := hp x hI
  obtain ⟨f1, f2, -, -, -⟩ := hFit x hI
  obtain ⟨-, -, g3, g4, -⟩ := hFit x2 hI2
  have hle := xq_le_x _ _ _ _ _ _ _ _ _ h2
  have hx := Cx.1
  have hb := Cx.2.1
  obtain ⟨i1, j1⟩ := xq_ix (k := 1) hi hL (by decide)
  obtain ⟨i2, j2⟩ := xq_ix (k := 2) hi hL (by decide)
  refine lv_aload_n hx hb xq_lw_195 rfl (lv_at hl 1 rfl) ?_
  refine lv_aload_n hx hb xq_lw_196 rfl (lv_at hl 0 rfl) ?_
  refine lv_iload_n hx hb xq_lw_197 rfl (lv_at hl 3 rfl) ?_
  refine lv_iconst (v := nI 1) hx hb xq_lw_198 (by decide) ?_
  refine lv_iadd hx hb xq_lw_199 ?_
  refine va_sld hx hb hX hbl hbA hS i1 xq_lw_200 ?_
  rw [j1]
  refine lv_aload_n hx hb xq_lw_201 rfl (lv_at hl 0 rfl) ?_
  refine lv_iload_n hx hb xq_lw_202 rfl (lv_at hl 3 rfl) ?_
  refine lv_iconst (v := nI 2) hx hb xq_lw_203 (by decide) ?_
  refine lv_iadd hx hb xq_lw_204 ?_
  refine va_sld hx hb hX hbl hbA hS i2 xq_lw_205 ?_
  rw [j2]
  refine xq_lawcall (ra := 0) (zs := [xs ((nI i).toNatClampNeg + 1), xs ((nI i).toNatClampNeg + 2)]) (r := []) Cx xq_lw_206 xq_lk_18 f1 (f2.trans (by decide +kernel)) (Nat.zero_le _) h1 (Nat.le_trans hle.1 g3) (Nat.le_trans hle.2 g4) hl.1 hH hS (fun H locs hH hS => ?_)
  refine lv_aload_n hx hb xq_lw_209 rfl (lv_at hl 2 rfl) ?_
  refine lv_aload_n hx hb xq_lw_210 rfl (lv_at hl 0 rfl) ?_
  refine lv_iload_n hx hb xq_lw_211 rfl (lv_at hl 3 rfl) ?_
  refine lv_iconst (v := nI 1) hx hb xq_lw_212 (by decide) ?_
  refine lv_iadd hx hb xq_lw_213 ?_
  refine va_sld hx hb hX hbl hbA hS i1 xq_lw_214 ?_
  rw [j1]
  refine lv_aload_n hx hb xq_lw_215 rfl (lv_at hl 0 rfl) ?_
  refine lv_iload_n hx hb xq_lw_216 rfl (lv_at hl 3 rfl) ?_
  refine lv_iconst (v := nI 2) hx hb xq_lw_217 (by decide) ?_
  refine lv_iadd hx hb xq_lw_218 ?_
  refine va_sld hx hb hX hbl hbA hS i2 xq_lw_219 ?_
  rw [j2]
  refine xq_lawcall (ra := Mi) (zs := [xs ((nI i).toNatClampNeg + 1), xs ((nI i).toNatClampNeg + 2)]) (r := [.int z]) Cx xq_lw_220 xq_lk_22 hm1 (hm2.trans (by decide +kernel)) (Nat.le_of_ble_eq_true rfl) h2 g3 g4 hl.1 hH hS (fun H locs hH hS => ?_)
  exact lv_icmp_eq (tgt := 988) hx hb xq_lw_223 (by decide) (fun _ => kk x2 H locs hI2 hH hS) (fun w => absurd rfl w)
theorem xq_lk_23 : xq_KL.contains (13, 23, 17, 3, (xq_mn 17).2.2.1, 0) = true := by decide +kernel
theorem xq_lk_27 : xq_KL.contains (13, 27, 163, 3, (xq_mn 163).2.2.1, 0) = true := by decide +kernel
set_option maxHeartbeats 1000000 in
theorem xq_case2 (Cx : xq_Cx t p room_1 s mid args meth c 13 false code 4) {Mi b L i : Nat} {xs : Nat → Int32} {Inv : xq_S → Prop} (hFit : xq_Fit Mi Inv) (hX : va_X b L xs s s.heap) (hbl : b < s.heap.size) (hbA : ¬ xq_A t b) (hL : L ≤ 3072) (hi : i + 6 ≤ L) (hp : xq_pair Mi Inv 17 163 (([xs ((nI i).toNatClampNeg + 1), xq_bz (xs ((nI i).toNatClampNeg + 2))] : List Int32).map Value.int) xq_isI) (hI : Inv x) {H : Heap} {locs : List Loc} {ls : Array Slot} (hH : xq_H t x H) (hS : va_S (xq_A t) s.heap H locs) (hl : lv_has ls 4 [(0, .ref b), (1, .ref (xq_ad t 0)), (2, .ref (xq_ad t Mi)), (3, .int (nI i))]) (kk : ∀ (x2 : xq_S) (H1 : Heap) (locs1 : List Loc), Inv x2 → xq_H t x2 H1 → va_S (xq_A t) s.heap H1 locs1 → W p l e room_1 s mid args below meth c H1 locs1 (xq_N x2) (xq_Z x2) Q (F0 mid 988 ls [])) : W p l e room_1 s mid args below meth c H locs (xq_N x) (xq_Z x) Q (F0 mid 228 ls []) := by
  obtain ⟨F, v, x1, x2, ⟨z, rfl⟩, h1, hm1, hm2, h2, hI2⟩ := hp x hI
  obtain ⟨f1, f2, -, -, -⟩ := hFit x hI
  obtain ⟨-, -, g3, g4, -⟩ := hFit x2 hI2
  have hle := xq_le_x _ _ _ _ _ _ _ _ _ h2
  have hx := Cx.1
  have hb := Cx.2.1
  obtain ⟨i1, j1⟩ := xq_ix (k := 1) hi hL (by decide)
  obtain ⟨i2, j2⟩ := xq_ix (k := 2) hi hL (by decide)
  refine lv_aload_n hx hb xq_lw_228 rfl (lv_at hl 1 rfl) ?_
  refine lv_aload_n hx hb xq_lw_229 rfl (lv_at hl 0 rfl) ?_
  refine lv_iload_n hx hb xq_lw_230 rfl (lv_at hl 3 rfl) ?_
  refine lv_iconst (v := nI 1) hx hb xq_lw_231 (by decide) ?_
  refine lv_iadd hx hb xq_lw_232 ?_
  refine va_sld hx hb hX hbl hbA hS i1 xq_lw_233 ?_
  rw [j1]
  refine lv_aload_n hx hb xq_lw_234 rfl (lv_at hl 0 rfl) ?_
  refine lv_iload_n hx hb xq_lw_235 rfl (lv_at hl 3 rfl) ?_
  refine lv_iconst (v := nI 2) hx hb xq_lw_236 (by decide) ?_
  refine lv_iadd hx hb xq_lw_237 ?_
  refine va_sld hx hb hX hbl hbA hS i2 xq_lw_238 ?_
  rw [j2]
  refine xq_lwb (a := 239) (by exact fun w1 w2 => lv_if_eq (tgt := 246) hx hb xq_lw_239 (by decide) w1 w2) (by exact fun w => lv_iconst (v := 1) hx hb xq_lw_242 (by decide) (lv_goto (tgt := 247) hx hb xq_lw_243 (by decide) w)) (by exact fun w => lv_iconst (v := 0) hx hb xq_lw_246 (by decide) w) ?_
  refine xq_lawcall (ra := 0) (zs := [xs ((nI i).toNatClampNeg + 1), xq_bz (xs ((nI i).toNatClampNeg + 2))]) (r := []) Cx xq_lw_247 xq_lk_23 f1 (f2.trans (by decide +kernel)) (Nat.zero_le _) h1 (Nat.le_trans hle.1 g3) (Nat.le_trans hle.2 g4) hl.1 hH hS (fun H locs hH hS => ?_)
  refine lv_aload_n hx hb xq_lw_250 rfl (lv_at hl 2 rfl) ?_
  refine lv_aload_n hx hb xq_lw_251 rfl (lv_at hl 0 rfl) ?_
  refine lv_iload_n hx hb xq_lw_252 rfl (lv_at hl 3 rfl) ?_
  refine lv_iconst (v := nI 1) hx hb xq_lw_253 (by decide) ?_
  refine lv_iadd hx hb xq_lw_254 ?_
  refine va_sld hx hb hX hbl hbA hS i1 xq_lw_255 ?_
  rw [j1]
  refine lv_aload_n hx hb xq_lw_256 rfl (lv_at hl 0 rfl) ?_
  refine lv_iload_n hx hb xq_lw_257 rfl (lv_at hl 3 rfl) ?_
  refine lv_iconst (v := nI 2) hx hb xq_lw_258 (by decide) ?_
  refine lv_iadd hx hb xq_lw_259 ?_
  refine va_sld hx hb hX hbl hbA hS i2 xq_lw_260 ?_
  rw [j2]
  refine xq_lwb (a := 261) (by exact fun w1 w2 => lv_if_eq (tgt := 268) hx hb xq_lw_261 (by decide) w1 w2) (by exact fun w => lv_iconst (v := 1) hx hb xq_lw_264 (by decide) (lv_goto (tgt := 269) hx hb xq_lw_265 (by decide) w)) (by exact fun w => lv_iconst (v := 0) hx hb xq_lw_268 (by decide) w) ?_
  refine xq_lawcall (ra := Mi) (zs := [xs ((nI i).toNatClampNeg + 1), xq_bz (xs ((nI i).toNatClampNeg + 2))]) (r := [.int z]) Cx xq_lw_269 xq_lk_27 hm1 (hm2.trans (by decide +kernel)) (Nat.le_of_ble_eq_true rfl) h2 g3 g4 hl.1 hH hS (fun H locs hH hS => ?_)
  exact lv_icmp_eq (tgt := 988) hx hb xq_lw_272 (by decide) (fun _ => kk x2 H locs hI2 hH hS) (fun w => absurd rfl w)
theorem xq_lk_28 : xq_KL.contains (13, 28, 18, 3, (xq_mn 18).2.2.1, 0) = true := by decide +kernel
theorem xq_lk_31 : xq_KL.contains (13, 31, 164, 3, (xq_mn 164).2.2.1, 0) = true := by decide +kernel
set_option maxHeartbeats 1000000 in
theorem xq_case3 (Cx : xq_Cx t p room_1 s mid args meth c 13 false code 4) {Mi b L i : Nat} {xs : Nat → Int32} {Inv : xq_S → Prop} (hFit : xq_Fit Mi Inv) (hX : va_X b L xs s s.heap) (hbl : b < s.heap.size) (hbA : ¬ xq_A t b) (hL : L ≤ 3072) (hi : i + 6 ≤ L) (hp : xq_pair Mi Inv 18 164 (([xs ((nI i).toNatClampNeg + 1), xs ((nI i).toNatClampNeg + 2)] : List Int32).map Value.int) xq_isI) (hI : Inv x) {H : Heap} {locs : List Loc} {ls : Array Slot} (hH : xq_H t x H) (hS : va_S (xq_A t) s.heap H locs) (hl : lv_has ls 4 [(0, .ref b), (1, .ref (xq_ad t 0)), (2, .ref (xq_ad t Mi)), (3, .int (nI i))]) (kk : ∀ (x2 : xq_S) (H1 : Heap) (locs1 : List Loc), Inv x2 → xq_H t x2 H1 → va_S (xq_A t) s.heap H1 locs1 → W p l e room_1 s mid args below meth c H1 locs1 (xq_N x2) (xq_Z x2) Q (F0 mid 988 ls [])) : W p l e room_1 s mid args below meth c H locs (xq_N x) (xq_Z x) Q (F0 mid 277 ls []) := by
  obtain ⟨F, v, x1, x2, ⟨z, rfl⟩, h1, hm1, hm2, h2, hI2⟩ := hp x hI
  obtain ⟨f1, f2, -, -, -⟩ := hFit x hI
  obtain ⟨-, -, g3, g4, -⟩ := hFit x2 hI2
  have hle := xq_le_x _ _ _ _ _ _ _ _ _ h2
  have hx := Cx.1
  have hb := Cx.2.1
  obtain ⟨i1, j1⟩ := xq_ix (k := 1) hi hL (by decide)
  obtain ⟨i2, j2⟩ := xq_ix (k := 2) hi hL (by decide)
  refine lv_aload_n hx hb xq_lw_277 rfl (lv_at hl 1 rfl) ?_
  refine lv_aload_n hx hb xq_lw_278 rfl (lv_at hl 0 rfl) ?_
  refine lv_iload_n hx hb xq_lw_279 rfl (lv_at hl 3 rfl) ?_
  refine lv_iconst (v := nI 1) hx hb xq_lw_280 (by decide) ?_
  refine lv_iadd hx hb xq_lw_281 ?_
  refine va_sld hx hb hX hbl hbA hS i1 xq_lw_282 ?_
  rw [j1]
  refine lv_aload_n hx hb xq_lw_283 rfl (lv_at hl 0 rfl) ?_
  refine lv_iload_n hx hb xq_lw_284 rfl (lv_at hl 3 rfl) ?_
  refine lv_iconst (v := nI 2) hx hb xq_lw_285 (by decide) ?_
  refine lv_iadd hx hb xq_lw_286 ?_
  refine va_sld hx hb hX hbl hbA hS i2 xq_lw_287 ?_
  rw [j2]
  refine xq_lawcall (ra := 0) (zs := [xs ((nI i).toNatClampNeg + 1), xs ((nI i).toNatClampNeg + 2)]) (r := []) Cx xq_lw_288 xq_lk_28 f1 (f2.trans (by decide +kernel)) (Nat.zero_le _) h1 (Nat.le_trans hle.1 g3) (Nat.le_trans hle.2 g4) hl.1 hH hS (fun H locs hH hS => ?_)
  refine lv_aload_n hx hb xq_lw_291 rfl (lv_at hl 2 rfl) ?_
  refine lv_aload_n hx hb xq_lw_292 rfl (lv_at hl 0 rfl) ?_
  refine lv_iload_n hx hb xq_lw_293 rfl (lv_at hl 3 rfl) ?_
  refine lv_iconst (v := nI 1) hx hb xq_lw_294 (by decide) ?_
  refine lv_iadd hx hb xq_lw_295 ?_
  refine va_sld hx hb hX hbl hbA hS i1 xq_lw_296 ?_
  rw [j1]
  refine lv_aload_n hx hb xq_lw_297 rfl (lv_at hl 0 rfl) ?_
  refine lv_iload_n hx hb xq_lw_298 rfl (lv_at hl 3 rfl) ?_
  refine lv_iconst (v := nI 2) hx hb xq_lw_299 (by decide) ?_
  refine lv_iadd hx hb xq_lw_300 ?_
  refine va_sld hx hb hX hbl hbA hS i2 xq_lw_301 ?_
  rw [j2]
  refine xq_lawcall (ra := Mi) (zs := [xs ((nI i).toNatClampNeg + 1), xs ((nI i).toNatClampNeg + 2)]) (r := [.int z]) Cx xq_lw_302 xq_lk_31 hm1 (hm2.trans (by decide +kernel)) (Nat.le_of_ble_eq_true rfl) h2 g3 g4 hl.1 hH hS (fun H locs hH hS => ?_)
  exact lv_icmp_eq (tgt := 988) hx hb xq_lw_305 (by decide) (fun _ => kk x2 H locs hI2 hH hS) (fun w => absurd rfl w)
theorem xq_lk_32 : xq_KL.contains (13, 32, 21, 6, (xq_mn 21).2.2.1, 0) = true := by decide +kernel
theorem xq_lk_36 : xq_KL.contains (13, 36, 167, 6, (xq_mn 167).2.2.1, 0) = true := by decide +kernel
set_option maxHeartbeats 1000000 in
theorem xq_case4 (Cx : xq_Cx t p room_1 s mid args meth c 13 false code 4) {Mi b L i : Nat} {xs : Nat → Int32} {Inv : xq_S → Prop} (hFit : xq_Fit Mi Inv) (hX : va_X b L xs s s.heap) (hbl : b < s.heap.size) (hbA : ¬ xq_A t b) (hL : L ≤ 3072) (hi : i + 6 ≤ L) (hp : xq_pair Mi Inv 21 167 (([xs ((nI i).toNatClampNeg + 1), xs ((nI i).toNatClampNeg + 2), xs ((nI i).toNatClampNeg + 3), xs ((nI i).toNatClampNeg + 4), xs ((nI i).toNatClampNeg + 5)] : List Int32).map Value.int) xq_isI) (hI : Inv x) {H : Heap} {locs : List Loc} {ls : Array Slot} (hH : xq_H t x H) (hS : va_S (xq_A t) s.heap H locs) (hl : lv_has ls 4 [(0, .ref b), (1, .ref (xq_ad t 0)), (2, .ref (xq_ad t Mi)), (3, .int (nI i))]) (kk : ∀ (x2 : xq_S) (H1 : Heap) (locs1 : List Loc), Inv x2 → xq_H t x2 H1 → va_S (xq_A t) s.heap H1 locs1 → W p l e room_1 s mid args below meth c H1 locs1 (xq_N x2) (xq_Z x2) Q (F0 mid 988 ls [])) : W p l e room_1 s mid args below meth c H locs (xq_N x) (xq_Z x) Q (F0 mid 310 ls []) := by
  obtain ⟨F, v, x1, x2, ⟨z, rfl⟩, h1, hm1, hm2, h2, hI2⟩ := hp x hI
  obtain ⟨f1, f2, -, -, -⟩ := hFit x hI
  obtain ⟨-, -, g3, g4, -⟩ := hFit x2 hI2
  have hle := xq_le_x _ _ _ _ _ _ _ _ _ h2
  have hx := Cx.1
  have hb := Cx.2.1
  obtain ⟨i1, j1⟩ := xq_ix (k := 1) hi hL (by decide)
  obtain ⟨i2, j2⟩ := xq_ix (k := 2) hi hL (by decide)
  obtain ⟨i3, j3⟩ := xq_ix (k := 3) hi hL (by decide)
  obtain ⟨i4, j4⟩ := xq_ix (k := 4) hi hL (by decide)
  obtain ⟨i5, j5⟩ := xq_ix (k := 5) hi hL (by decide)
  refine lv_aload_n hx hb xq_lw_310 rfl (lv_at hl 1 rfl) ?_
  refine lv_aload_n hx hb xq_lw_311 rfl (lv_at hl 0 rfl) ?_
  refine lv_iload_n hx hb xq_lw_312 rfl (lv_at hl 3 rfl) ?_
  refine lv_iconst (v := nI 1) hx hb xq_lw_313 (by decide) ?_
  refine lv_iadd hx hb xq_lw_314 ?_
  refine va_sld hx hb hX hbl hbA hS i1 xq_lw_315 ?_
  rw [j1]
  refine lv_aload_n hx hb xq_lw_316 rfl (lv_at hl 0 rfl) ?_
  refine lv_iload_n hx hb xq_lw_317 rfl (lv_at hl 3 rfl) ?_
  refine lv_iconst (v := nI 2) hx hb xq_lw_318 (by decide) ?_
  refine lv_iadd hx hb xq_lw_319 ?_
  refine va_sld hx hb hX hbl hbA hS i2 xq_lw_320 ?_
  rw [j2]
  refine lv_aload_n hx hb xq_lw_321 rfl (lv_at hl 0 rfl) ?_
  refine lv_iload_n hx hb xq_lw_322 rfl (lv_at hl 3 rfl) ?_
  refine lv_iconst (v := nI 3) hx hb xq_lw_323 (by decide) ?_
  refine lv_iadd hx hb xq_lw_324 ?_
  refine va_sld hx hb hX hbl hbA hS i3 xq_lw_325 ?_
  rw [j3]
  refine lv_aload_n hx hb xq_lw_326 rfl (lv_at hl 0 rfl) ?_
  refine lv_iload_n hx hb xq_lw_327 rfl (lv_at hl 3 rfl) ?_
  refine lv_iconst (v := nI 4) hx hb xq_lw_328 (by decide) ?_
  refine lv_iadd hx hb xq_lw_329 ?_
  refine va_sld hx hb hX hbl hbA hS i4 xq_lw_330 ?_
  rw [j4]
  refine lv_aload_n hx hb xq_lw_331 rfl (lv_at hl 0 rfl) ?_
  refine lv_iload_n hx hb xq_lw_332 rfl (lv_at hl 3 rfl) ?_
  refine lv_iconst (v := nI 5) hx hb xq_lw_333 (by decide) ?_
  refine lv_iadd hx hb xq_lw_334 ?_
  refine va_sld hx hb hX hbl hbA hS i5 xq_lw_335 ?_
  rw [j5]
  refine xq_lawcall (ra := 0) (zs := [xs ((nI i).toNatClampNeg + 1), xs ((nI i).toNatClampNeg + 2), xs ((nI i).toNatClampNeg + 3), xs ((nI i).toNatClampNeg + 4), xs ((nI i).toNatClampNeg + 5)]) (r := []) Cx xq_lw_336 xq_lk_32 f1 (f2.trans (by decide +kernel)) (Nat.zero_le _) h1 (Nat.le_trans hle.1 g3) (Nat.le_trans hle.2 g4) hl.1 hH hS (fun H locs hH hS => ?_)
  refine lv_aload_n hx hb xq_lw_339 rfl (lv_at hl 2 rfl) ?_
  refine lv_aload_n hx hb xq_lw_340 rfl (lv_at hl 0 rfl) ?_
  refine lv_iload_n hx hb xq_lw_341 rfl (lv_at hl 3 rfl) ?_
  refine lv_iconst (v := nI 1) hx hb xq_lw_342 (by decide) ?_
  refine lv_iadd hx hb xq_lw_343 ?_
  refine va_sld hx hb hX hbl hbA hS i1 xq_lw_344 ?_
  rw [j1]
  refine lv_aload_n hx hb xq_lw_345 rfl (lv_at hl 0 rfl) ?_
  refine lv_iload_n hx hb xq_lw_346 rfl (lv_at hl 3 rfl) ?_
  refine lv_iconst (v := nI 2) hx hb xq_lw_347 (by decide) ?_
  refine lv_iadd hx hb xq_lw_348 ?_
  refine va_sld hx hb hX hbl hbA hS i2 xq_lw_349 ?_
  rw [j2]
  refine lv_aload_n hx hb xq_lw_350 rfl (lv_at hl 0 rfl) ?_
  refine lv_iload_n hx hb xq_lw_351 rfl (lv_at hl 3 rfl) ?_
  refine lv_iconst (v := nI 3) hx hb xq_lw_352 (by decide) ?_
  refine lv_iadd hx hb xq_lw_353 ?_
  refine va_sld hx hb hX hbl hbA hS i3 xq_lw_354 ?_
  rw [j3]
  refine lv_aload_n hx hb xq_lw_355 rfl (lv_at hl 0 rfl) ?_
  refine lv_iload_n hx hb xq_lw_356 rfl (lv_at hl 3 rfl) ?_
  refine lv_iconst (v := nI 4) hx hb xq_lw_357 (by decide) ?_
  refine lv_iadd hx hb xq_lw_358 ?_
  refine va_sld hx hb hX hbl hbA hS i4 xq_lw_359 ?_
  rw [j4]
  refine lv_aload_n hx hb xq_lw_360 rfl (lv_at hl 0 rfl) ?_
  refine lv_iload_n hx hb xq_lw_361 rfl (lv_at hl 3 rfl) ?_
  refine lv_iconst (v := nI 5) hx hb xq_lw_362 (by decide) ?_
  refine lv_iadd hx hb xq_lw_363 ?_
  refine va_sld hx hb hX hbl hbA hS i5 xq_lw_364 ?_
  rw [j5]
  refine xq_lawcall (ra := Mi) (zs := [xs ((nI i).toNatClampNeg + 1), xs ((nI i).toNatClampNeg + 2), xs ((nI i).toNatClampNeg + 3), xs ((nI i).toNatClampNeg + 4), xs ((nI i).toNatClampNeg + 5)]) (r := [.int z]) Cx xq_lw_365 xq_lk_36 hm1 (hm2.trans (by decide +kernel)) (Nat.le_of_ble_eq_true rfl) h2 g3 g4 hl.1 hH hS (fun H locs hH hS => ?_)
  exact lv_icmp_eq (tgt := 988) hx hb xq_lw_368 (by decide) (fun _ => kk x2 H locs hI2 hH hS) (fun w => absurd rfl w)
theorem xq_lk_37 : xq_KL.contains (13, 37, 24, 2, (xq_mn 24).2.2.1, 0) = true := by decide +kernel
theorem xq_lk_41 : xq_KL.contains (13, 41, 168, 2, (xq_mn 168).2.2.1, 0) = true := by decide +kernel
set_option maxHeartbeats 1000000 in
theorem xq_case5 (Cx : xq_Cx t p room_1 s mid args meth c 13 false code 4) {Mi b L i : Nat} {xs : Nat → Int32} {Inv : xq_S → Prop} (hFit : xq_Fit Mi Inv) (hX : va_X b L xs s s.heap) (hbl : b < s.heap.size) (hbA : ¬ xq_A t b) (hL : L ≤ 3072) (hi : i + 6 ≤ L) (hp : xq_pair Mi Inv 24 168 (([xs ((nI i).toNatClampNeg + 1)] : List Int32).map Value.int) xq_isI) (hI : Inv x) {H : Heap} {locs : List Loc} {ls : Array Slot} (hH : xq_H t x H) (hS : va_S (xq_A t) s.heap H locs) (hl : lv_has ls 4 [(0, .ref b), (1, .ref (xq_ad t 0)), (2, .ref (xq_ad t Mi)), (3, .int (nI i))]) (kk : ∀ (x2 : xq_S) (H1 : Heap) (locs1 : List Loc), Inv x2 → xq_H t x2 H1 → va_S (xq_A t) s.heap H1 locs1 → W p l e room_1 s mid args below meth c H1 locs1 (xq_N x2) (xq_Z x2) Q (F0 mid 988 ls [])) : W p l e room_1 s mid args below meth c H locs (xq_N x) (xq_Z x) Q (F0 mid 373 ls []) := by
  obtain ⟨F, v, x1, x2, ⟨z, rfl⟩, h1, hm1, hm2, h2, hI2⟩ := hp x hI
  obtain ⟨f1, f2, -, -, -⟩ := hFit x hI
  obtain ⟨-, -, g3, g4, -⟩ := hFit x2 hI2
  have hle := xq_le_x _ _ _ _ _ _ _ _ _ h2
  have hx := Cx.1
  have hb := Cx.2.1
  obtain ⟨i1, j1⟩ := xq_ix (k := 1) hi hL (by decide)
  refine lv_aload_n hx hb xq_lw_373 rfl (lv_at hl 1 rfl) ?_
  refine lv_aload_n hx hb xq_lw_374 rfl (lv_at hl 0 rfl) ?_
  refine lv_iload_n hx hb xq_lw_375 rfl (lv_at hl 3 rfl) ?_
  refine lv_iconst (v := nI 1) hx hb xq_lw_376 (by decide) ?_
  refine lv_iadd hx hb xq_lw_377 ?_
  refine va_sld hx hb hX hbl hbA hS i1 xq_lw_378 ?_
  rw [j1]
  refine xq_lawcall (ra := 0) (zs := [xs ((nI i).toNatClampNeg + 1)]) (r := []) Cx xq_lw_379 xq_lk_37 f1 (f2.trans (by decide +kernel)) (Nat.zero_le _) h1 (Nat.le_trans hle.1 g3) (Nat.le_trans hle.2 g4) hl.1 hH hS (fun H locs hH hS => ?_)
  refine lv_aload_n hx hb xq_lw_382 rfl (lv_at hl 2 rfl) ?_
  refine lv_aload_n hx hb xq_lw_383 rfl (lv_at hl 0 rfl) ?_
  refine lv_iload_n hx hb xq_lw_384 rfl (lv_at hl 3 rfl) ?_
  refine lv_iconst (v := nI 1) hx hb xq_lw_385 (by decide) ?_
  refine lv_iadd hx hb xq_lw_386 ?_
  refine va_sld hx hb hX hbl hbA hS i1 xq_lw_387 ?_
  rw [j1]
  refine xq_lawcall (ra := Mi) (zs := [xs ((nI i).toNatClampNeg + 1)]) (r := [.int z]) Cx xq_lw_388 xq_lk_41 hm1 (hm2.trans (by decide +kernel)) (Nat.le_of_ble_eq_true rfl) h2 g3 g4 hl.1 hH hS (fun H locs hH hS => ?_)
  exact lv_icmp_eq (tgt := 988) hx hb xq_lw_391 (by decide) (fun _ => kk x2 H locs hI2 hH hS) (fun w => absurd rfl w)
theorem xq_lk_42 : xq_KL.contains (13, 42, 26, 2, (xq_mn 26).2.2.1, 0) = true := by decide +kernel
theorem xq_lk_45 : xq_KL.contains (13, 45, 169, 2, (xq_mn 169).2.2.1, 0) = true := by decide +kernel
set_option maxHeartbeats 1000000 in
theorem xq_case6 (Cx : xq_Cx t p room_1 s mid args meth c 13 false code 4) {Mi b L i : Nat} {xs : Nat → Int32} {Inv : xq_S → Prop} (hFit : xq_Fit Mi Inv) (hX : va_X b L xs s s.heap) (hbl : b < s.heap.size) (hbA : ¬ xq_A t b) (hL : L ≤ 3072) (hi : i + 6 ≤ L) (hp : xq_pair Mi Inv 26 169 (([xs ((nI i).toNatClampNeg + 1)] : List Int32).map Value.int) xq_isI) (hI : Inv x) {H : Heap} {locs : List Loc} {ls : Array Slot} (hH : xq_H t x H) (hS : va_S (xq_A t) s.heap H locs) (hl : lv_has ls 4 [(0, .ref b), (1, .ref (xq_ad t 0)), (2, .ref (xq_ad t Mi)), (3, .int (nI i))]) (kk : ∀ (x2 : xq_S) (H1 : Heap) (locs1 : List Loc), Inv x2 → xq_H t x2 H1 → va_S (xq_A t) s.heap H1 locs1 → W p l e room_1 s mid args below meth c H1 locs1 (xq_N x2) (xq_Z x2) Q (F0 mid 988 ls [])) : W p l e room_1 s mid args below meth c H locs (xq_N x) (xq_Z x) Q (F0 mid 396 ls []) := by
  obtain ⟨F, v, x1, x2, ⟨z, rfl⟩, h1, hm1, hm2, h2, hI2⟩ := hp x hI
  obtain ⟨f1, f2, -, -, -⟩ := hFit x hI
  obtain ⟨-, -, g3, g4, -⟩ := hFit x2 hI2
  have hle := xq_le_x _ _ _ _ _ _ _ _ _ h2
  have hx := Cx.1
  have hb := Cx.2.1
  obtain ⟨i1, j1⟩ := xq_ix (k := 1) hi hL (by decide)
  refine lv_aload_n hx hb xq_lw_396 rfl (lv_at hl 1 rfl) ?_
  refine lv_aload_n hx hb xq_lw_397 rfl (lv_at hl 0 rfl) ?_
  refine lv_iload_n hx hb xq_lw_398 rfl (lv_at hl 3 rfl) ?_
  refine lv_iconst (v := nI 1) hx hb xq_lw_399 (by decide) ?_
  refine lv_iadd hx hb xq_lw_400 ?_
  refine va_sld hx hb hX hbl hbA hS i1 xq_lw_401 ?_
  rw [j1]
  refine xq_lawcall (ra := 0) (zs := [xs ((nI i).toNatClampNeg + 1)]) (r := []) Cx xq_lw_402 xq_lk_42 f1 (f2.trans (by decide +kernel)) (Nat.zero_le _) h1 (Nat.le_trans hle.1 g3) (Nat.le_trans hle.2 g4) hl.1 hH hS (fun H locs hH hS => ?_)
  refine lv_aload_n hx hb xq_lw_405 rfl (lv_at hl 2 rfl) ?_
  refine lv_aload_n hx hb xq_lw_406 rfl (lv_at hl 0 rfl) ?_
  refine lv_iload_n hx hb xq_lw_407 rfl (lv_at hl 3 rfl) ?_
  refine lv_iconst (v := nI 1) hx hb xq_lw_408 (by decide) ?_
  refine lv_iadd hx hb xq_lw_409 ?_
  refine va_sld hx hb hX hbl hbA hS i1 xq_lw_410 ?_
  rw [j1]
  refine xq_lawcall (ra := Mi) (zs := [xs ((nI i).toNatClampNeg + 1)]) (r := [.int z]) Cx xq_lw_411 xq_lk_45 hm1 (hm2.trans (by decide +kernel)) (Nat.le_of_ble_eq_true rfl) h2 g3 g4 hl.1 hH hS (fun H locs hH hS => ?_)
  exact lv_icmp_eq (tgt := 988) hx hb xq_lw_414 (by decide) (fun _ => kk x2 H locs hI2 hH hS) (fun w => absurd rfl w)
theorem xq_lk_46 : xq_KL.contains (13, 46, 68, 2, (xq_mn 68).2.2.1, 0) = true := by decide +kernel
theorem xq_lk_49 : xq_KL.contains (13, 49, 209, 2, (xq_mn 209).2.2.1, 0) = true := by decide +kernel
set_option maxHeartbeats 1000000 in
theorem xq_case7 (Cx : xq_Cx t p room_1 s mid args meth c 13 false code 4) {Mi b L i : Nat} {xs : Nat → Int32} {Inv : xq_S → Prop} (hFit : xq_Fit Mi Inv) (hX : va_X b L xs s s.heap) (hbl : b < s.heap.size) (hbA : ¬ xq_A t b) (hL : L ≤ 3072) (hi : i + 6 ≤ L) (hp : xq_pair Mi Inv 68 209 (([xs ((nI i).toNatClampNeg + 1)] : List Int32).map Value.int) xq_isI) (hI : Inv x) {H : Heap} {locs : List Loc} {ls : Array Slot} (hH : xq_H t x H) (hS : va_S (xq_A t) s.heap H locs) (hl : lv_has ls 4 [(0, .ref b), (1, .ref (xq_ad t 0)), (2, .ref (xq_ad t Mi)), (3, .int (nI i))]) (kk : ∀ (x2 : xq_S) (H1 : Heap) (locs1 : List Loc), Inv x2 → xq_H t x2 H1 → va_S (xq_A t) s.heap H1 locs1 → W p l e room_1 s mid args below meth c H1 locs1 (xq_N x2) (xq_Z x2) Q (F0 mid 988 ls [])) : W p l e room_1 s mid args below meth c H locs (xq_N x) (xq_Z x) Q (F0 mid 419 ls []) := by
  obtain ⟨F, v, x1, x2, ⟨z, rfl⟩, h1, hm1, hm2, h2, hI2⟩ := hp x hI
  obtain ⟨f1, f2, -, -, -⟩ := hFit x hI
  obtain ⟨-, -, g3, g4, -⟩ := hFit x2 hI2
  have hle := xq_le_x _ _ _ _ _ _ _ _ _ h2
  have hx := Cx.1
  have hb := Cx.2.1
  obtain ⟨i1, j1⟩ := xq_ix (k := 1) hi hL (by decide)
  refine lv_aload_n hx hb xq_lw_419 rfl (lv_at hl 1 rfl) ?_
  refine lv_aload_n hx hb xq_lw_420 rfl (lv_at hl 0 rfl) ?_
  refine lv_iload_n hx hb xq_lw_421 rfl (lv_at hl 3 rfl) ?_
  refine lv_iconst (v := nI 1) hx hb xq_lw_422 (by decide) ?_
  refine lv_iadd hx hb xq_lw_423 ?_
  refine va_sld hx hb hX hbl hbA hS i1 xq_lw_424 ?_
  rw [j1]
  refine xq_lawcall (ra := 0) (zs := [xs ((nI i).toNatClampNeg + 1)]) (r := []) Cx xq_lw_425 xq_lk_46 f1 (f2.trans (by decide +kernel)) (Nat.zero_le _) h1 (Nat.le_trans hle.1 g3) (Nat.le_trans hle.2 g4) hl.1 hH hS (fun H locs hH hS => ?_)
  refine lv_aload_n hx hb xq_lw_428 rfl (lv_at hl 2 rfl) ?_
  refine lv_aload_n hx hb xq_lw_429 rfl (lv_at hl 0 rfl) ?_
  refine lv_iload_n hx hb xq_lw_430 rfl (lv_at hl 3 rfl) ?_
  refine lv_iconst (v := nI 1) hx hb xq_lw_431 (by decide) ?_
  refine lv_iadd hx hb xq_lw_432 ?_
  refine va_sld hx hb hX hbl hbA hS i1 xq_lw_433 ?_
  rw [j1]
  refine xq_lawcall (ra := Mi) (zs := [xs ((nI i).toNatClampNeg + 1)]) (r := [.int z]) Cx xq_lw_434 xq_lk_49 hm1 (hm2.trans (by decide +kernel)) (Nat.le_of_ble_eq_true rfl) h2 g3 g4 hl.1 hH hS (fun H locs hH hS => ?_)
  exact lv_icmp_eq (tgt := 988) hx hb xq_lw_437 (by decide) (fun _ => kk x2 H locs hI2 hH hS) (fun w => absurd rfl w)
theorem xq_lk_50 : xq_KL.contains (13, 50, 69, 2, (xq_mn 69).2.2.1, 0) = true := by decide +kernel
theorem xq_lk_53 : xq_KL.contains (13, 53, 211, 2, (xq_mn 211).2.2.1, 0) = true := by decide +kernel
set_option maxHeartbeats 1000000 in
theorem xq_case8 (Cx : xq_Cx t p room_1 s mid args meth c 13 false code 4) {Mi b L i : Nat} {xs : Nat → Int32} {Inv : xq_S → Prop} (hFit : xq_Fit Mi Inv) (hX : va_X b L xs s s.heap) (hbl : b < s.heap.size) (hbA : ¬ xq_A t b) (hL : L ≤ 3072) (hi : i + 6 ≤ L) (hp : xq_pair Mi Inv 69 211 (([xs ((nI i).toNatClampNeg + 1)] : List Int32).map Value.int) xq_isI) (hI : Inv x) {H : Heap} {locs : List Loc} {ls : Array Slot} (hH : xq_H t x H) (hS : va_S (xq_A t) s.heap H locs) (hl : lv_has ls 4 [(0, .ref b), (1, .ref (xq_ad t 0)), (2, .ref (xq_ad t Mi)), (3, .int (nI i))]) (kk : ∀ (x2 : xq_S) (H1 : Heap) (locs1 : List Loc), Inv x2 → xq_H t x2 H1 → va_S (xq_A t) s.heap H1 locs1 → W p l e room_1 s mid args below meth c H1 locs1 (xq_N x2) (xq_Z x2) Q (F0 mid 988 ls [])) : W p l e room_1 s mid args below meth c H locs (xq_N x) (xq_Z x) Q (F0 mid 442 ls []) := by
  obtain ⟨F, v, x1, x2, ⟨z, rfl⟩, h1, hm1, hm2, h2, hI2⟩ := hp x hI
  obtain ⟨f1, f2, -, -, -⟩ := hFit x hI
  obtain ⟨-, -, g3, g4, -⟩ := hFit x2 hI2
  have hle := xq_le_x _ _ _ _ _ _ _ _ _ h2
  have hx := Cx.1
  have hb := Cx.2.1
  obtain ⟨i1, j1⟩ := xq_ix (k := 1) hi hL (by decide)
  refine lv_aload_n hx hb xq_lw_442 rfl (lv_at hl 1 rfl) ?_
  refine lv_aload_n hx hb xq_lw_443 rfl (lv_at hl 0 rfl) ?_
  refine lv_iload_n hx hb xq_lw_444 rfl (lv_at hl 3 rfl) ?_
  refine lv_iconst (v := nI 1) hx hb xq_lw_445 (by decide) ?_
  refine lv_iadd hx hb xq_lw_446 ?_
  refine va_sld hx hb hX hbl hbA hS i1 xq_lw_447 ?_
  rw [j1]
  refine xq_lawcall (ra := 0) (zs := [xs ((nI i).toNatClampNeg + 1)]) (r := []) Cx xq_lw_448 xq_lk_50 f1 (f2.trans (by decide +kernel)) (Nat.zero_le _) h1 (Nat.le_trans hle.1 g3) (Nat.le_trans hle.2 g4) hl.1 hH hS (fun H locs hH hS => ?_)
  refine lv_aload_n hx hb xq_lw_451 rfl (lv_at hl 2 rfl) ?_
  refine lv_aload_n hx hb xq_lw_452 rfl (lv_at hl 0 rfl) ?_
  refine lv_iload_n hx hb xq_lw_453 rfl (lv_at hl 3 rfl) ?_
  refine lv_iconst (v := nI 1) hx hb xq_lw_454 (by decide) ?_
  refine lv_iadd hx hb xq_lw_455 ?_
  refine va_sld hx hb hX hbl hbA hS i1 xq_lw_456 ?_
  rw [j1]
  refine xq_lawcall (ra := Mi) (zs := [xs ((nI i).toNatClampNeg + 1)]) (r := [.int z]) Cx xq_lw_457 xq_lk_53 hm1 (hm2.trans (by decide +kernel)) (Nat.le_of_ble_eq_true rfl) h2 g3 g4 hl.1 hH hS (fun H locs hH hS => ?_)
  exact lv_icmp_eq (tgt := 988) hx hb xq_lw_460 (by decide) (fun _ => kk x2 H locs hI2 hH hS) (fun w => absurd rfl w)
theorem xq_lk_54 : xq_KL.contains (13, 54, 99, 1, (xq_mn 99).2.2.1, 0) = true := by decide +kernel
theorem xq_lk_58 : xq_KL.contains (13, 58, 242, 1, (xq_mn 242).2.2.1, 0) = true := by decide +kernel
set_option maxHeartbeats 1000000 in
theorem xq_case9 (Cx : xq_Cx t p room_1 s mid args meth c 13 false code 4) {Mi b L i : Nat} {xs : Nat → Int32} {Inv : xq_S → Prop} (hFit : xq_Fit Mi Inv) (hX : va_X b L xs s s.heap) (hbl : b < s.heap.size) (hbA : ¬ xq_A t b) (hL : L ≤ 3072) (hi : i + 6 ≤ L) (hp : xq_pair Mi Inv 99 242 (([] : List Int32).map Value.int) xq_isI) (hI : Inv x) {H : Heap} {locs : List Loc} {ls : Array Slot} (hH : xq_H t x H) (hS : va_S (xq_A t) s.heap H locs) (hl : lv_has ls 4 [(0, .ref b), (1, .ref (xq_ad t 0)), (2, .ref (xq_ad t Mi)), (3, .int (nI i))]) (kk : ∀ (x2 : xq_S) (H1 : Heap) (locs1 : List Loc), Inv x2 → xq_H t x2 H1 → va_S (xq_A t) s.heap H1 locs1 → W p l e room_1 s mid args below meth c H1 locs1 (xq_N x2) (xq_Z x2) Q (F0 mid 988 ls [])) : W p l e room_1 s mid args below meth c H locs (xq_N x) (xq_Z x) Q (F0 mid 465 ls []) := by
  obtain ⟨F, v, x1, x2, ⟨z, rfl⟩, h1, hm1, hm2, h2, hI2⟩ := hp x hI
  obtain ⟨f1, f2, -, -, -⟩ := hFit x hI
  obtain ⟨-, -, g3, g4, -⟩ := hFit x2 hI2
  have hle := xq_le_x _ _ _ _ _ _ _ _ _ h2
  have hx := Cx.1
  have hb := Cx.2.1
  refine lv_aload_n hx hb xq_lw_465 rfl (lv_at hl 1 rfl) ?_
  refine xq_lawcall (ra := 0) (zs := []) (r := []) Cx xq_lw_466 xq_lk_54 f1 (f2.trans (by decide +kernel)) (Nat.zero_le _) h1 (Nat.le_trans hle.1 g3) (Nat.le_trans hle.2 g4) hl.1 hH hS (fun H locs hH hS => ?_)
  refine lv_aload_n hx hb xq_lw_469 rfl (lv_at hl 2 rfl) ?_
  refine xq_lawcall (ra := Mi) (zs := []) (r := [.int z]) Cx xq_lw_470 xq_lk_58 hm1 (hm2.trans (by decide +kernel)) (Nat.le_of_ble_eq_true rfl) h2 g3 g4 hl.1 hH hS (fun H locs hH hS => ?_)
  exact lv_icmp_eq (tgt := 988) hx hb xq_lw_473 (by decide) (fun _ => kk x2 H locs hI2 hH hS) (fun w => absurd rfl w)
theorem xq_lk_59 : xq_KL.contains (13, 59, 103, 2, (xq_mn 103).2.2.1, 0) = true := by decide +kernel
theorem xq_lk_62 : xq_KL.contains (13, 62, 260, 2, (xq_mn 260).2.2.1, 0) = true := by decide +kernel
set_option maxHeartbeats 1000000 in
theorem xq_case10 (Cx : xq_Cx t p room_1 s mid args meth c 13 false code 4) {Mi b L i : Nat} {xs : Nat → Int32} {Inv : xq_S → Prop} (hFit : xq_Fit Mi Inv) (hX : va_X b L xs s s.heap) (hbl : b < s.heap.size) (hbA : ¬ xq_A t b) (hL : L ≤ 3072) (hi : i + 6 ≤ L) (hp : xq_pair Mi Inv 103 260 (([xs ((nI i).toNatClampNeg + 1)] : List Int32).map Value.int) xq_isI) (hI : Inv x) {H : Heap} {locs : List Loc} {ls : Array Slot} (hH : xq_H t x H) (hS : va_S (xq_A t) s.heap H locs) (hl : lv_has ls 4 [(0, .ref b), (1, .ref (xq_ad t 0)), (2, .ref (xq_ad t Mi)), (3, .int (nI i))]) (kk : ∀ (x2 : xq_S) (H1 : Heap) (locs1 : List Loc), Inv x2 → xq_H t x2 H1 → va_S (xq_A t) s.heap H1 locs1 → W p l e room_1 s mid args below meth c H1 locs1 (xq_N x2) (xq_Z x2) Q (F0 mid 988 ls [])) : W p l e room_1 s mid args below meth c H locs (xq_N x) (xq_Z x) Q (F0 mid 478 ls []) := by
  obtain ⟨F, v, x1, x2, ⟨z, rfl⟩, h1, hm1, hm2, h2, hI2⟩ := hp x hI
  obtain ⟨f1, f2, -, -, -⟩ := hFit x hI
  obtain ⟨-, -, g3, g4, -⟩ := hFit x2 hI2
  have hle := xq_le_x _ _ _ _ _ _ _ _ _ h2
  have hx := Cx.1
  have hb := Cx.2.1
  obtain ⟨i1, j1⟩ := xq_ix (k := 1) hi hL (by decide)
  refine lv_aload_n hx hb xq_lw_478 rfl (lv_at hl 1 rfl) ?_
  refine lv_aload_n hx hb xq_lw_479 rfl (lv_at hl 0 rfl) ?_
  refine lv_iload_n hx hb xq_lw_480 rfl (lv_at hl 3 rfl) ?_
  refine lv_iconst (v := nI 1) hx hb xq_lw_481 (by decide) ?_
  refine lv_iadd hx hb xq_lw_482 ?_
  refine va_sld hx hb hX hbl hbA hS i1 xq_lw_483 ?_
  rw [j1]
  refine xq_lawcall (ra := 0) (zs := [xs ((nI i).toNatClampNeg + 1)]) (r := []) Cx xq_lw_484 xq_lk_59 f1 (f2.trans (by decide +kernel)) (Nat.zero_le _) h1 (Nat.le_trans hle.1 g3) (Nat.le_trans hle.2 g4) hl.1 hH hS (fun H locs hH hS => ?_)
  refine lv_aload_n hx hb xq_lw_487 rfl (lv_at hl 2 rfl) ?_
  refine lv_aload_n hx hb xq_lw_488 rfl (lv_at hl 0 rfl) ?_
  refine lv_iload_n hx hb xq_lw_489 rfl (lv_at hl 3 rfl) ?_
  refine lv_iconst (v := nI 1) hx hb xq_lw_490 (by decide) ?_
  refine lv_iadd hx hb xq_lw_491 ?_
  refine va_sld hx hb hX hbl hbA hS i1 xq_lw_492 ?_
  rw [j1]
  refine xq_lawcall (ra := Mi) (zs := [xs ((nI i).toNatClampNeg + 1)]) (r := [.int z]) Cx xq_lw_493 xq_lk_62 hm1 (hm2.trans (by decide +kernel)) (Nat.le_of_ble_eq_true rfl) h2 g3 g4 hl.1 hH hS (fun H locs hH hS => ?_)
  exact lv_icmp_eq (tgt := 988) hx hb xq_lw_496 (by decide) (fun _ => kk x2 H locs hI2 hH hS) (fun w => absurd rfl w)
theorem xq_lk_63 : xq_KL.contains (13, 63, 113, 3, (xq_mn 113).2.2.1, 0) = true := by decide +kernel
theorem xq_lk_67 : xq_KL.contains (13, 67, 246, 3, (xq_mn 246).2.2.1, 0) = true := by decide +kernel
set_option maxHeartbeats 1000000 in
theorem xq_case11 (Cx : xq_Cx t p room_1 s mid args meth c 13 false code 4) {Mi b L i : Nat} {xs : Nat → Int32} {Inv : xq_S → Prop} (hFit : xq_Fit Mi Inv) (hX : va_X b L xs s s.heap) (hbl : b < s.heap.size) (hbA : ¬ xq_A t b) (hL : L ≤ 3072) (hi : i + 6 ≤ L) (hp : xq_pair Mi Inv 113 246 (([xs ((nI i).toNatClampNeg + 1), xs ((nI i).toNatClampNeg + 2)] : List Int32).map Value.int) xq_isI) (hI : Inv x) {H : Heap} {locs : List Loc} {ls : Array Slot} (hH : xq_H t x H) (hS : va_S (xq_A t) s.heap H locs) (hl : lv_has ls 4 [(0, .ref b), (1, .ref (xq_ad t 0)), (2, .ref (xq_ad t Mi)), (3, .int (nI i))]) (kk : ∀ (x2 : xq_S) (H1 : Heap) (locs1 : List Loc), Inv x2 → xq_H t x2 H1 → va_S (xq_A t) s.heap H1 locs1 → W p l e room_1 s mid args below meth c H1 locs1 (xq_N x2) (xq_Z x2) Q (F0 mid 988 ls [])) : W p l e room_1 s mid args below meth c H locs (xq_N x) (xq_Z x) Q (F0 mid 501 ls []) := by
  obtain ⟨F, v, x1, x2, ⟨z, rfl⟩, h1, hm1, hm2, h2, hI2⟩ := hp x hI
  obtain ⟨f1, f2, -, -, -⟩ := hFit x hI
  obtain ⟨-, -, g3, g4, -⟩ := hFit x2 hI2
  have hle := xq_le_x _ _ _ _ _ _ _ _ _ h2
  have hx := Cx.1
  have hb := Cx.2.1
  obtain ⟨i1, j1⟩ := xq_ix (k := 1) hi hL (by decide)
  obtain ⟨i2, j2⟩ := xq_ix (k := 2) hi hL (by decide)
  refine lv_aload_n hx hb xq_lw_501 rfl (lv_at hl 1 rfl) ?_
  refine lv_aload_n hx hb xq_lw_502 rfl (lv_at hl 0 rfl) ?_
  refine lv_iload_n hx hb xq_lw_503 rfl (lv_at hl 3 rfl) ?_
  refine lv_iconst (v := nI 1) hx hb xq_lw_504 (by decide) ?_
  refine lv_iadd hx hb xq_lw_505 ?_
  refine va_sld hx hb hX hbl hbA hS i1 xq_lw_506 ?_
  rw [j1]
  refine lv_aload_n hx hb xq_lw_507 rfl (lv_at hl 0 rfl) ?_
  refine lv_iload_n hx hb xq_lw_508 rfl (lv_at hl 3 rfl) ?_
  refine lv_iconst (v := nI 2) hx hb xq_lw_509 (by decide) ?_
  refine lv_iadd hx hb xq_lw_510 ?_
  refine va_sld hx hb hX hbl hbA hS i2 xq_lw_511 ?_
  rw [j2]
  refine xq_lawcall (ra := 0) (zs := [xs ((nI i).toNatClampNeg + 1), xs ((nI i).toNatClampNeg + 2)]) (r := []) Cx xq_lw_512 xq_lk_63 f1 (f2.trans (by decide +kernel)) (Nat.zero_le _) h1 (Nat.le_trans hle.1 g3) (Nat.le_trans hle.2 g4) hl.1 hH hS (fun H locs hH hS => ?_)
  refine lv_aload_n hx hb xq_lw_515 rfl (lv_at hl 2 rfl) ?_
  refine lv_aload_n hx hb xq_lw_516 rfl (lv_at hl 0 rfl) ?_
  refine lv_iload_n hx hb xq_lw_517 rfl (lv_at hl 3 rfl) ?_
  refine lv_iconst (v := nI 1) hx hb xq_lw_518 (by decide) ?_
  refine lv_iadd hx hb xq_lw_519 ?_
  refine va_sld hx hb hX hbl hbA hS i1 xq_lw_520 ?_
  rw [j1]
  refine lv_aload_n hx hb xq_lw_521 rfl (lv_at hl 0 rfl) ?_
  refine lv_iload_n hx hb xq_lw_522 rfl (lv_at hl 3 rfl) ?_
  refine lv_iconst (v := nI 2) hx hb xq_lw_523 (by decide) ?_
  refine lv_iadd hx hb xq_lw_524 ?_
  refine va_sld hx hb hX hbl hbA hS i2 xq_lw_525 ?_
  rw [j2]
  refine xq_lawcall (ra := Mi) (zs := [xs ((nI i).toNatClampNeg + 1), xs ((nI i).toNatClampNeg + 2)]) (r := [.int z]) Cx xq_lw_526 xq_lk_67 hm1 (hm2.trans (by decide +kernel)) (Nat.le_of_ble_eq_true rfl) h2 g3 g4 hl.1 hH hS (fun H locs hH hS => ?_)
  exact lv_icmp_eq (tgt := 988) hx hb xq_lw_529 (by decide) (fun _ => kk x2 H locs hI2 hH hS) (fun w => absurd rfl w)
theorem xq_lk_68 : xq_KL.contains (13, 68, 115, 3, (xq_mn 115).2.2.1, 0) = true := by decide +kernel
theorem xq_lk_71 : xq_KL.contains (13, 71, 247, 3, (xq_mn 247).2.2.1, 0) = true := by decide +kernel
set_option maxHeartbeats 1000000 in
theorem xq_case12 (Cx : xq_Cx t p room_1 s mid args meth c 13 false code 4) {Mi b L i : Nat} {xs : Nat → Int32} {Inv : xq_S → Prop} (hFit : xq_Fit Mi Inv) (hX : va_X b L xs s s.heap) (hbl : b < s.heap.size) (hbA : ¬ xq_A t b) (hL : L ≤ 3072) (hi : i + 6 ≤ L) (hp : xq_pair Mi Inv 115 247 (([xs ((nI i).toNatClampNeg + 1), xs ((nI i).toNatClampNeg + 2)] : List Int32).map Value.int) xq_isI) (hI : Inv x) {H : Heap} {locs : List Loc} {ls : Array Slot} (hH : xq_H t x H) (hS : va_S (xq_A t) s.heap H locs) (hl : lv_has ls 4 [(0, .ref b), (1, .ref (xq_ad t 0)), (2, .ref (xq_ad t Mi)), (3, .int (nI i))]) (kk : ∀ (x2 : xq_S) (H1 : Heap) (locs1 : List Loc), Inv x2 → xq_H t x2 H1 → va_S (xq_A t) s.heap H1 locs1 → W p l e room_1 s mid args below meth c H1 locs1 (xq_N x2) (xq_Z x2) Q (F0 mid 988 ls [])) : W p l e room_1 s mid args below meth c H locs (xq_N x) (xq_Z x) Q (F0 mid 534 ls []) := by
  obtain ⟨F, v, x1, x2, ⟨z, rfl⟩, h1, hm1, hm2, h2, hI2⟩ := hp x hI
  obtain ⟨f1, f2, -, -, -⟩ := hFit x hI
  obtain ⟨-, -, g3, g4, -⟩ := hFit x2 hI2
  have hle := xq_le_x _ _ _ _ _ _ _ _ _ h2
  have hx := Cx.1
  have hb := Cx.2.1
  obtain ⟨i1, j1⟩ := xq_ix (k := 1) hi hL (by decide)
  obtain ⟨i2, j2⟩ := xq_ix (k := 2) hi hL (by decide)
  refine lv_aload_n hx hb xq_lw_534 rfl (lv_at hl 1 rfl) ?_
  refine lv_aload_n hx hb xq_lw_535 rfl (lv_at hl 0 rfl) ?_
  refine lv_iload_n hx hb xq_lw_536 rfl (lv_at hl 3 rfl) ?_
  refine lv_iconst (v := nI 1) hx hb xq_lw_537 (by decide) ?_
  refine lv_iadd hx hb xq_lw_538 ?_
  refine va_sld hx hb hX hbl hbA hS i1 xq_lw_539 ?_
  rw [j1]
  refine lv_aload_n hx hb xq_lw_540 rfl (lv_at hl 0 rfl) ?_
  refine lv_iload_n hx hb xq_lw_541 rfl (lv_at hl 3 rfl) ?_
  refine lv_iconst (v := nI 2) hx hb xq_lw_542 (by decide) ?_
  refine lv_iadd hx hb xq_lw_543 ?_
  refine va_sld hx hb hX hbl hbA hS i2 xq_lw_544 ?_
  rw [j2]
  refine xq_lawcall (ra := 0) (zs := [xs ((nI i).toNatClampNeg + 1), xs ((nI i).toNatClampNeg + 2)]) (r := []) Cx xq_lw_545 xq_lk_68 f1 (f2.trans (by decide +kernel)) (Nat.zero_le _) h1 (Nat.le_trans hle.1 g3) (Nat.le_trans hle.2 g4) hl.1 hH hS (fun H locs hH hS => ?_)
  refine lv_aload_n hx hb xq_lw_548 rfl (lv_at hl 2 rfl) ?_
  refine lv_aload_n hx hb xq_lw_549 rfl (lv_at hl 0 rfl) ?_
  refine lv_iload_n hx hb xq_lw_550 rfl (lv_at hl 3 rfl) ?_
  refine lv_iconst (v := nI 1) hx hb xq_lw_551 (by decide) ?_
  refine lv_iadd hx hb xq_lw_552 ?_
  refine va_sld hx hb hX hbl hbA hS i1 xq_lw_553 ?_
  rw [j1]
  refine lv_aload_n hx hb xq_lw_554 rfl (lv_at hl 0 rfl) ?_
  refine lv_iload_n hx hb xq_lw_555 rfl (lv_at hl 3 rfl) ?_
  refine lv_iconst (v := nI 2) hx hb xq_lw_556 (by decide) ?_
  refine lv_iadd hx hb xq_lw_557 ?_
  refine va_sld hx hb hX hbl hbA hS i2 xq_lw_558 ?_
  rw [j2]
  refine xq_lawcall (ra := Mi) (zs := [xs ((nI i).toNatClampNeg + 1), xs ((nI i).toNatClampNeg + 2)]) (r := [.int z]) Cx xq_lw_559 xq_lk_71 hm1 (hm2.trans (by decide +kernel)) (Nat.le_of_ble_eq_true rfl) h2 g3 g4 hl.1 hH hS (fun H locs hH hS => ?_)
  exact lv_icmp_eq (tgt := 988) hx hb xq_lw_562 (by decide) (fun _ => kk x2 H locs hI2 hH hS) (fun w => absurd rfl w)
theorem xq_lk_72 : xq_KL.contains (13, 72, 118, 2, (xq_mn 118).2.2.1, 0) = true := by decide +kernel
theorem xq_lk_75 : xq_KL.contains (13, 75, 248, 2, (xq_mn 248).2.2.1, 0) = true := by decide +kernel
set_option maxHeartbeats 1000000 in
theorem xq_case13 (Cx : xq_Cx t p room_1 s mid args meth c 13 false code 4) {Mi b L i : Nat} {xs : Nat → Int32} {Inv : xq_S → Prop} (hFit : xq_Fit Mi Inv) (hX : va_X b L xs s s.heap) (hbl : b < s.heap.size) (hbA : ¬ xq_A t b) (hL : L ≤ 3072) (hi : i + 6 ≤ L) (hp : xq_pair Mi Inv 118 248 (([xs ((nI i).toNatClampNeg + 1)] : List Int32).map Value.int) xq_isI) (hI : Inv x) {H : Heap} {locs : List Loc} {ls : Array Slot} (hH : xq_H t x H) (hS : va_S (xq_A t) s.heap H locs) (hl : lv_has ls 4 [(0, .ref b), (1, .ref (xq_ad t 0)), (2, .ref (xq_ad t Mi)), (3, .int (nI i))]) (kk : ∀ (x2 : xq_S) (H1 : Heap) (locs1 : List Loc), Inv x2 → xq_H t x2 H1 → va_S (xq_A t) s.heap H1 locs1 → W p l e room_1 s mid args below meth c H1 locs1 (xq_N x2) (xq_Z x2) Q (F0 mid 988 ls [])) : W p l e room_1 s mid args below meth c H locs (xq_N x) (xq_Z x) Q (F0 mid 567 ls []) := by
  obtain ⟨F, v, x1, x2, ⟨z, rfl⟩, h1, hm1, hm2, h2, hI2⟩ := hp x hI
  obtain ⟨f1, f2, -, -, -⟩ := hFit x hI
  obtain ⟨-, -, g3, g4, -⟩ := hFit x2 hI2
  have hle := xq_le_x _ _ _ _ _ _ _ _ _ h2
  have hx := Cx.1
  have hb := Cx.2.1
  obtain ⟨i1, j1⟩ := xq_ix (k := 1) hi hL (by decide)
  refine lv_aload_n hx hb xq_lw_567 rfl (lv_at hl 1 rfl) ?_
  refine lv_aload_n hx hb xq_lw_568 rfl (lv_at hl 0 rfl) ?_
  refine lv_iload_n hx hb xq_lw_569 rfl (lv_at hl 3 rfl) ?_
  refine lv_iconst (v := nI 1) hx hb xq_lw_570 (by decide) ?_
  refine lv_iadd hx hb xq_lw_571 ?_
  refine va_sld hx hb hX hbl hbA hS i1 xq_lw_572 ?_
  rw [j1]
  refine xq_lawcall (ra := 0) (zs := [xs ((nI i).toNatClampNeg + 1)]) (r := []) Cx xq_lw_573 xq_lk_72 f1 (f2.trans (by decide +kernel)) (Nat.zero_le _) h1 (Nat.le_trans hle.1 g3) (Nat.le_trans hle.2 g4) hl.1 hH hS (fun H locs hH hS => ?_)
  refine lv_aload_n hx hb xq_lw_576 rfl (lv_at hl 2 rfl) ?_
  refine lv_aload_n hx hb xq_lw_577 rfl (lv_at hl 0 rfl) ?_
  refine lv_iload_n hx hb xq_lw_578 rfl (lv_at hl 3 rfl) ?_
  refine lv_iconst (v := nI 1) hx hb xq_lw_579 (by decide) ?_
  refine lv_iadd hx hb xq_lw_580 ?_
  refine va_sld hx hb hX hbl hbA hS i1 xq_lw_581 ?_
  rw [j1]
  refine xq_lawcall (ra := Mi) (zs := [xs ((nI i).toNatClampNeg + 1)]) (r := [.int z]) Cx xq_lw_582 xq_lk_75 hm1 (hm2.trans (by decide +kernel)) (Nat.le_of_ble_eq_true rfl) h2 g3 g4 hl.1 hH hS (fun H locs hH hS => ?_)
  exact lv_icmp_eq (tgt := 988) hx hb xq_lw_585 (by decide) (fun _ => kk x2 H locs hI2 hH hS) (fun w => absurd rfl w)
theorem xq_lk_76 : xq_KL.contains (13, 76, 119, 3, (xq_mn 119).2.2.1, 0) = true := by decide +kernel
theorem xq_lk_79 : xq_KL.contains (13, 79, 249, 3, (xq_mn 249).2.2.1, 0) = true := by decide +kernel
set_option maxHeartbeats 1000000 in
theorem xq_case14 (Cx : xq_Cx t p room_1 s mid args meth c 13 false code 4) {Mi b L i : Nat} {xs : Nat → Int32} {Inv : xq_S → Prop} (hFit : xq_Fit Mi Inv) (hX : va_X b L xs s s.heap) (hbl : b < s.heap.size) (hbA : ¬ xq_A t b) (hL : L ≤ 3072) (hi : i + 6 ≤ L) (hp : xq_pair Mi Inv 119 249 (([xs ((nI i).toNatClampNeg + 1), xs ((nI i).toNatClampNeg + 2)] : List Int32).map Value.int) xq_isI) (hI : Inv x) {H : Heap} {locs : List Loc} {ls : Array Slot} (hH : xq_H t x H) (hS : va_S (xq_A t) s.heap H locs) (hl : lv_has ls 4 [(0, .ref b), (1, .ref (xq_ad t 0)), (2, .ref (xq_ad t Mi)), (3, .int (nI i))]) (kk : ∀ (x2 : xq_S) (H1 : Heap) (locs1 : List Loc), Inv x2 → xq_H t x2 H1 → va_S (xq_A t) s.heap H1 locs1 → W p l e room_1 s mid args below meth c H1 locs1 (xq_N x2) (xq_Z x2) Q (F0 mid 988 ls [])) : W p l e room_1 s mid args below meth c H locs (xq_N x) (xq_Z x) Q (F0 mid 590 ls []) := by
  obtain ⟨F, v, x1, x2, ⟨z, rfl⟩, h1, hm1, hm2, h2, hI2⟩ := hp x hI
  obtain ⟨f1, f2, -, -, -⟩ := hFit x hI
  obtain ⟨-, -, g3, g4, -⟩ := hFit x2 hI2
  have hle := xq_le_x _ _ _ _ _ _ _ _ _ h2
  have hx := Cx.1
  have hb := Cx.2.1
  obtain ⟨i1, j1⟩ := xq_ix (k := 1) hi hL (by decide)
  obtain ⟨i2, j2⟩ := xq_ix (k := 2) hi hL (by decide)
  refine lv_aload_n hx hb xq_lw_590 rfl (lv_at hl 1 rfl) ?_
  refine lv_aload_n hx hb xq_lw_591 rfl (lv_at hl 0 rfl) ?_
  refine lv_iload_n hx hb xq_lw_592 rfl (lv_at hl 3 rfl) ?_
  refine lv_iconst (v := nI 1) hx hb xq_lw_593 (by decide) ?_
  refine lv_iadd hx hb xq_lw_594 ?_
  refine va_sld hx hb hX hbl hbA hS i1 xq_lw_595 ?_
  rw [j1]
  refine lv_aload_n hx hb xq_lw_596 rfl (lv_at hl 0 rfl) ?_
  refine lv_iload_n hx hb xq_lw_597 rfl (lv_at hl 3 rfl) ?_
  refine lv_iconst (v := nI 2) hx hb xq_lw_598 (by decide) ?_
  refine lv_iadd hx hb xq_lw_599 ?_
  refine va_sld hx hb hX hbl hbA hS i2 xq_lw_600 ?_
  rw [j2]
  refine xq_lawcall (ra := 0) (zs := [xs ((nI i).toNatClampNeg + 1), xs ((nI i).toNatClampNeg + 2)]) (r := []) Cx xq_lw_601 xq_lk_76 f1 (f2.trans (by decide +kernel)) (Nat.zero_le _) h1 (Nat.le_trans hle.1 g3) (Nat.le_trans hle.2 g4) hl.1 hH hS (fun H locs hH hS => ?_)
  refine lv_aload_n hx hb xq_lw_604 rfl (lv_at hl 2 rfl) ?_
  refine lv_aload_n hx hb xq_lw_605 rfl (lv_at hl 0 rfl) ?_
  refine lv_iload_n hx hb xq_lw_606 rfl (lv_at hl 3 rfl) ?_
  refine lv_iconst (v := nI 1) hx hb xq_lw_607 (by decide) ?_
  refine lv_iadd hx hb xq_lw_608 ?_
  refine va_sld hx hb hX hbl hbA hS i1 xq_lw_609 ?_
  rw [j1]
  refine lv_aload_n hx hb xq_lw_610 rfl (lv_at hl 0 rfl) ?_
  refine lv_iload_n hx hb xq_lw_611 rfl (lv_at hl 3 rfl) ?_
  refine lv_iconst (v := nI 2) hx hb xq_lw_612 (by decide) ?_
  refine lv_iadd hx hb xq_lw_613 ?_
  refine va_sld hx hb hX hbl hbA hS i2 xq_lw_614 ?_
  rw [j2]
  refine xq_lawcall (ra := Mi) (zs := [xs ((nI i).toNatClampNeg + 1), xs ((nI i).toNatClampNeg + 2)]) (r := [.int z]) Cx xq_lw_615 xq_lk_79 hm1 (hm2.trans (by decide +kernel)) (Nat.le_of_ble_eq_true rfl) h2 g3 g4 hl.1 hH hS (fun H locs hH hS => ?_)
  exact lv_icmp_eq (tgt := 988) hx hb xq_lw_618 (by decide) (fun _ => kk x2 H locs hI2 hH hS) (fun w => absurd rfl w)
theorem xq_lk_80 : xq_KL.contains (13, 80, 120, 1, (xq_mn 120).2.2.1, 0) = true := by decide +kernel
theorem xq_lk_83 : xq_KL.contains (13, 83, 250, 1, (xq_mn 250).2.2.1, 0) = true := by decide +kernel
set_option maxHeartbeats 1000000 in
theorem xq_case15 (Cx : xq_Cx t p room_1 s mid args meth c 13 false code 4) {Mi b L i : Nat} {xs : Nat → Int32} {Inv : xq_S → Prop} (hFit : xq_Fit Mi Inv) (hX : va_X b L xs s s.heap) (hbl : b < s.heap.size) (hbA : ¬ xq_A t b) (hL : L ≤ 3072) (hi : i + 6 ≤ L) (hp : xq_pair Mi Inv 120 250 (([] : List Int32).map Value.int) xq_isI) (hI : Inv x) {H : Heap} {locs : List Loc} {ls : Array Slot} (hH : xq_H t x H) (hS : va_S (xq_A t) s.heap H locs) (hl : lv_has ls 4 [(0, .ref b), (1, .ref (xq_ad t 0)), (2, .ref (xq_ad t Mi)), (3, .int (nI i))]) (kk : ∀ (x2 : xq_S) (H1 : Heap) (locs1 : List Loc), Inv x2 → xq_H t x2 H1 → va_S (xq_A t) s.heap H1 locs1 → W p l e room_1 s mid args below meth c H1 locs1 (xq_N x2) (xq_Z x2) Q (F0 mid 988 ls [])) : W p l e room_1 s mid args below meth c H locs (xq_N x) (xq_Z x) Q (F0 mid 623 ls []) := by
  obtain ⟨F, v, x1, x2, ⟨z, rfl⟩, h1, hm1, hm2, h2, hI2⟩ := hp x hI
  obtain ⟨f1, f2, -, -, -⟩ := hFit x hI
  obtain ⟨-, -, g3, g4, -⟩ := hFit x2 hI2
  have hle := xq_le_x _ _ _ _ _ _ _ _ _ h2
  have hx := Cx.1
  have hb := Cx.2.1
  refine lv_aload_n hx hb xq_lw_623 rfl (lv_at hl 1 rfl) ?_
  refine xq_lawcall (ra := 0) (zs := []) (r := []) Cx xq_lw_624 xq_lk_80 f1 (f2.trans (by decide +kernel)) (Nat.zero_le _) h1 (Nat.le_trans hle.1 g3) (Nat.le_trans hle.2 g4) hl.1 hH hS (fun H locs hH hS => ?_)
  refine lv_aload_n hx hb xq_lw_627 rfl (lv_at hl 2 rfl) ?_
  refine xq_lawcall (ra := Mi) (zs := []) (r := [.int z]) Cx xq_lw_628 xq_lk_83 hm1 (hm2.trans (by decide +kernel)) (Nat.le_of_ble_eq_true rfl) h2 g3 g4 hl.1 hH hS (fun H locs hH hS => ?_)
  exact lv_icmp_eq (tgt := 988) hx hb xq_lw_631 (by decide) (fun _ => kk x2 H locs hI2 hH hS) (fun w => absurd rfl w)
theorem xq_lk_84 : xq_KL.contains (13, 84, 122, 2, (xq_mn 122).2.2.1, 0) = true := by decide +kernel
theorem xq_lk_87 : xq_KL.contains (13, 87, 255, 2, (xq_mn 255).2.2.1, 0) = true := by decide +kernel
set_option maxHeartbeats 1000000 in
theorem xq_case16 (Cx : xq_Cx t p room_1 s mid args meth c 13 false code 4) {Mi b L i : Nat} {xs : Nat → Int32} {Inv : xq_S → Prop} (hFit : xq_Fit Mi Inv) (hX : va_X b L xs s s.heap) (hbl : b < s.heap.size) (hbA : ¬ xq_A t b) (hL : L ≤ 3072) (hi : i + 6 ≤ L) (hp : xq_pair Mi Inv 122 255 (([xs ((nI i).toNatClampNeg + 1)] : List Int32).map Value.int) xq_isI) (hI : Inv x) {H : Heap} {locs : List Loc} {ls : Array Slot} (hH : xq_H t x H) (hS : va_S (xq_A t) s.heap H locs) (hl : lv_has ls 4 [(0, .ref b), (1, .ref (xq_ad t 0)), (2, .ref (xq_ad t Mi)), (3, .int (nI i))]) (kk : ∀ (x2 : xq_S) (H1 : Heap) (locs1 : List Loc), Inv x2 → xq_H t x2 H1 → va_S (xq_A t) s.heap H1 locs1 → W p l e room_1 s mid args below meth c H1 locs1 (xq_N x2) (xq_Z x2) Q (F0 mid 988 ls [])) : W p l e room_1 s mid args below meth c H locs (xq_N x) (xq_Z x) Q (F0 mid 636 ls []) := by
  obtain ⟨F, v, x1, x2, ⟨z, rfl⟩, h1, hm1, hm2, h2, hI2⟩ := hp x hI
  obtain ⟨f1, f2, -, -, -⟩ := hFit x hI
  obtain ⟨-, -, g3, g4, -⟩ := hFit x2 hI2
  have hle := xq_le_x _ _ _ _ _ _ _ _ _ h2
  have hx := Cx.1
  have hb := Cx.2.1
  obtain ⟨i1, j1⟩ := xq_ix (k := 1) hi hL (by decide)
  refine lv_aload_n hx hb xq_lw_636 rfl (lv_at hl 1 rfl) ?_
  refine lv_aload_n hx hb xq_lw_637 rfl (lv_at hl 0 rfl) ?_
  refine lv_iload_n hx hb xq_lw_638 rfl (lv_at hl 3 rfl) ?_
  refine lv_iconst (v := nI 1) hx hb xq_lw_639 (by decide) ?_
  refine lv_iadd hx hb xq_lw_640 ?_
  refine va_sld hx hb hX hbl hbA hS i1 xq_lw_641 ?_
  rw [j1]
  refine xq_lawcall (ra := 0) (zs := [xs ((nI i).toNatClampNeg + 1)]) (r := []) Cx xq_lw_642 xq_lk_84 f1 (f2.trans (by decide +kernel)) (Nat.zero_le _) h1 (Nat.le_trans hle.1 g3) (Nat.le_trans hle.2 g4) hl.1 hH hS (fun H locs hH hS => ?_)
  refine lv_aload_n hx hb xq_lw_645 rfl (lv_at hl 2 rfl) ?_
  refine lv_aload_n hx hb xq_lw_646 rfl (lv_at hl 0 rfl) ?_
  refine lv_iload_n hx hb xq_lw_647 rfl (lv_at hl 3 rfl) ?_
  refine lv_iconst (v := nI 1) hx hb xq_lw_648 (by decide) ?_
  refine lv_iadd hx hb xq_lw_649 ?_
  refine va_sld hx hb hX hbl hbA hS i1 xq_lw_650 ?_
  rw [j1]
  refine xq_lawcall (ra := Mi) (zs := [xs ((nI i).toNatClampNeg + 1)]) (r := [.int z]) Cx xq_lw_651 xq_lk_87 hm1 (hm2.trans (by decide +kernel)) (Nat.le_of_ble_eq_true rfl) h2 g3 g4 hl.1 hH hS (fun H locs hH hS => ?_)
  exact lv_icmp_eq (tgt := 988) hx hb xq_lw_654 (by decide) (fun _ => kk x2 H locs hI2 hH hS) (fun w => absurd rfl w)
theorem xq_lk_88 : xq_KL.contains (13, 88, 128, 2, (xq_mn 128).2.2.1, 0) = true := by decide +kernel
theorem xq_lk_91 : xq_KL.contains (13, 91, 257, 2, (xq_mn 257).2.2.1, 0) = true := by decide +kernel
set_option maxHeartbeats 1000000 in
theorem xq_case17 (Cx : xq_Cx t p room_1 s mid args meth c 13 false code 4) {Mi b L i : Nat} {xs : Nat → Int32} {Inv : xq_S → Prop} (hFit : xq_Fit Mi Inv) (hX : va_X b L xs s s.heap) (hbl : b < s.heap.size) (hbA : ¬ xq_A t b) (hL : L ≤ 3072) (hi : i + 6 ≤ L) (hp : xq_pair Mi Inv 128 257 (([xs ((nI i).toNatClampNeg + 1)] : List Int32).map Value.int) xq_isI) (hI : Inv x) {H : Heap} {locs : List Loc} {ls : Array Slot} (hH : xq_H t x H) (hS : va_S (xq_A t) s.heap H locs) (hl : lv_has ls 4 [(0, .ref b), (1, .ref (xq_ad t 0)), (2, .ref (xq_ad t Mi)), (3, .int (nI i))]) (kk : ∀ (x2 : xq_S) (H1 : Heap) (locs1 : List Loc), Inv x2 → xq_H t x2 H1 → va_S (xq_A t) s.heap H1 locs1 → W p l e room_1 s mid args below meth c H1 locs1 (xq_N x2) (xq_Z x2) Q (F0 mid 988 ls [])) : W p l e room_1 s mid args below meth c H locs (xq_N x) (xq_Z x) Q (F0 mid 659 ls []) := by
  obtain ⟨F, v, x1, x2, ⟨z, rfl⟩, h1, hm1, hm2, h2, hI2⟩ := hp x hI
  obtain ⟨f1, f2, -, -, -⟩ := hFit x hI
  obtain ⟨-, -, g3, g4, -⟩ := hFit x2 hI2
  have hle := xq_le_x _ _ _ _ _ _ _ _ _ h2
  have hx := Cx.1
  have hb := Cx.2.1
  obtain ⟨i1, j1⟩ := xq_ix (k := 1) hi hL (by decide)
  refine lv_aload_n hx hb xq_lw_659 rfl (lv_at hl 1 rfl) ?_
  refine lv_aload_n hx hb xq_lw_660 rfl (lv_at hl 0 rfl) ?_
  refine lv_iload_n hx hb xq_lw_661 rfl (lv_at hl 3 rfl) ?_
  refine lv_iconst (v := nI 1) hx hb xq_lw_662 (by decide) ?_
  refine lv_iadd hx hb xq_lw_663 ?_
  refine va_sld hx hb hX hbl hbA hS i1 xq_lw_664 ?_
  rw [j1]
  refine xq_lawcall (ra := 0) (zs := [xs ((nI i).toNatClampNeg + 1)]) (r := []) Cx xq_lw_665 xq_lk_88 f1 (f2.trans (by decide +kernel)) (Nat.zero_le _) h1 (Nat.le_trans hle.1 g3) (Nat.le_trans hle.2 g4) hl.1 hH hS (fun H locs hH hS => ?_)
  refine lv_aload_n hx hb xq_lw_668 rfl (lv_at hl 2 rfl) ?_
  refine lv_aload_n hx hb xq_lw_669 rfl (lv_at hl 0 rfl) ?_
  refine lv_iload_n hx hb xq_lw_670 rfl (lv_at hl 3 rfl) ?_
  refine lv_iconst (v := nI 1) hx hb xq_lw_671 (by decide) ?_
  refine lv_iadd hx hb xq_lw_672 ?_
  refine va_sld hx hb hX hbl hbA hS i1 xq_lw_673 ?_
  rw [j1]
  refine xq_lawcall (ra := Mi) (zs := [xs ((nI i).toNatClampNeg + 1)]) (r := [.int z]) Cx xq_lw_674 xq_lk_91 hm1 (hm2.trans (by decide +kernel)) (Nat.le_of_ble_eq_true rfl) h2 g3 g4 hl.1 hH hS (fun H locs hH hS => ?_)
  exact lv_icmp_eq (tgt := 988) hx hb xq_lw_677 (by decide) (fun _ => kk x2 H locs hI2 hH hS) (fun w => absurd rfl w)
theorem xq_lk_92 : xq_KL.contains (13, 92, 130, 1, (xq_mn 130).2.2.1, 0) = true := by decide +kernel
theorem xq_lk_95 : xq_KL.contains (13, 95, 258, 1, (xq_mn 258).2.2.1, 0) = true := by decide +kernel
set_option maxHeartbeats 1000000 in
theorem xq_case18 (Cx : xq_Cx t p room_1 s mid args meth c 13 false code 4) {Mi b L i : Nat} {xs : Nat → Int32} {Inv : xq_S → Prop} (hFit : xq_Fit Mi Inv) (hX : va_X b L xs s s.heap) (hbl : b < s.heap.size) (hbA : ¬ xq_A t b) (hL : L ≤ 3072) (hi : i + 6 ≤ L) (hp : xq_pair Mi Inv 130 258 (([] : List Int32).map Value.int) xq_isI) (hI : Inv x) {H : Heap} {locs : List Loc} {ls : Array Slot} (hH : xq_H t x H) (hS : va_S (xq_A t) s.heap H locs) (hl : lv_has ls 4 [(0, .ref b), (1, .ref (xq_ad t 0)), (2, .ref (xq_ad t Mi)), (3, .int (nI i))]) (kk : ∀ (x2 : xq_S) (H1 : Heap) (locs1 : List Loc), Inv x2 → xq_H t x2 H1 → va_S (xq_A t) s.heap H1 locs1 → W p l e room_1 s mid args below meth c H1 locs1 (xq_N x2) (xq_Z x2) Q (F0 mid 988 ls [])) : W p l e room_1 s mid args below meth c H locs (xq_N x) (xq_Z x) Q (F0 mid 682 ls []) := by
  obtain ⟨F, v, x1, x2, ⟨z, rfl⟩, h1, hm1, hm2, h2, hI2⟩ := hp x hI
  obtain ⟨f1, f2, -, -, -⟩ := hFit x hI
  obtain ⟨-, -, g3, g4, -⟩ := hFit x2 hI2
  have hle := xq_le_x _ _ _ _ _ _ _ _ _ h2
  have hx := Cx.1
  have hb := Cx.2.1
  refine lv_aload_n hx hb xq_lw_682 rfl (lv_at hl 1 rfl) ?_
  refine xq_lawcall (ra := 0) (zs := []) (r := []) Cx xq_lw_683 xq_lk_92 f1 (f2.trans (by decide +kernel)) (Nat.zero_le _) h1 (Nat.le_trans hle.1 g3) (Nat.le_trans hle.2 g4) hl.1 hH hS (fun H locs hH hS => ?_)
  refine lv_aload_n hx hb xq_lw_686 rfl (lv_at hl 2 rfl) ?_
  refine xq_lawcall (ra := Mi) (zs := []) (r := [.int z]) Cx xq_lw_687 xq_lk_95 hm1 (hm2.trans (by decide +kernel)) (Nat.le_of_ble_eq_true rfl) h2 g3 g4 hl.1 hH hS (fun H locs hH hS => ?_)
  exact lv_icmp_eq (tgt := 988) hx hb xq_lw_690 (by decide) (fun _ => kk x2 H locs hI2 hH hS) (fun w => absurd rfl w)
theorem xq_lk_96 : xq_KL.contains (13, 96, 132, 2, (xq_mn 132).2.2.1, 0) = true := by decide +kernel
theorem xq_lk_99 : xq_KL.contains (13, 99, 259, 2, (xq_mn 259).2.2.1, 0) = true := by decide +kernel
set_option maxHeartbeats 1000000 in
theorem xq_case19 (Cx : xq_Cx t p room_1 s mid args meth c 13 false code 4) {Mi b L i : Nat} {xs : Nat → Int32} {Inv : xq_S → Prop} (hFit : xq_Fit Mi Inv) (hX : va_X b L xs s s.heap) (hbl : b < s.heap.size) (hbA : ¬ xq_A t b) (hL : L ≤ 3072) (hi : i + 6 ≤ L) (hp : xq_pair Mi Inv 132 259 (([xs ((nI i).toNatClampNeg + 1)] : List Int32).map Value.int) xq_isI) (hI : Inv x) {H : Heap} {locs : List Loc} {ls : Array Slot} (hH : xq_H t x H) (hS : va_S (xq_A t) s.heap H locs) (hl : lv_has ls 4 [(0, .ref b), (1, .ref (xq_ad t 0)), (2, .ref (xq_ad t Mi)), (3, .int (nI i))]) (kk : ∀ (x2 : xq_S) (H1 : Heap) (locs1 : List Loc), Inv x2 → xq_H t x2 H1 → va_S (xq_A t) s.heap H1 locs1 → W p l e room_1 s mid args below meth c H1 locs1 (xq_N x2) (xq_Z x2) Q (F0 mid 988 ls [])) : W p l e room_1 s mid args below meth c H locs (xq_N x) (xq_Z x) Q (F0 mid 695 ls []) := by
  obtain ⟨F, v, x1, x2, ⟨z, rfl⟩, h1, hm1, hm2, h2, hI2⟩ := hp x hI
  obtain ⟨f1, f2, -, -, -⟩ := hFit x hI
  obtain ⟨-, -, g3, g4, -⟩ := hFit x2 hI2
  have hle := xq_le_x _ _ _ _ _ _ _ _ _ h2
  have hx := Cx.1
  have hb := Cx.2.1
  obtain ⟨i1, j1⟩ := xq_ix (k := 1) hi hL (by decide)
  refine lv_aload_n hx hb xq_lw_695 rfl (lv_at hl 1 rfl) ?_
  refine lv_aload_n hx hb xq_lw_696 rfl (lv_at hl 0 rfl) ?_
  refine lv_iload_n hx hb xq_lw_697 rfl (lv_at hl 3 rfl) ?_
  refine lv_iconst (v := nI 1) hx hb xq_lw_698 (by decide) ?_
  refine lv_iadd hx hb xq_lw_699 ?_
  refine va_sld hx hb hX hbl hbA hS i1 xq_lw_700 ?_
  rw [j1]
  refine xq_lawcall (ra := 0) (zs := [xs ((nI i).toNatClampNeg + 1)]) (r := []) Cx xq_lw_701 xq_lk_96 f1 (f2.trans (by decide +kernel)) (Nat.zero_le _) h1 (Nat.le_trans hle.1 g3) (Nat.le_trans hle.2 g4) hl.1 hH hS (fun H locs hH hS => ?_)
  refine lv_aload_n hx hb xq_lw_704 rfl (lv_at hl 2 rfl) ?_
  refine lv_aload_n hx hb xq_lw_705 rfl (lv_at hl 0 rfl) ?_
  refine lv_iload_n hx hb xq_lw_706 rfl (lv_at hl 3 rfl) ?_
  refine lv_iconst (v := nI 1) hx hb xq_lw_707 (by decide) ?_
  refine lv_iadd hx hb xq_lw_708 ?_
  refine va_sld hx hb hX hbl hbA hS i1 xq_lw_709 ?_
  rw [j1]
  refine xq_lawcall (ra := Mi) (zs := [xs ((nI i).toNatClampNeg + 1)]) (r := [.int z]) Cx xq_lw_710 xq_lk_99 hm1 (hm2.trans (by decide +kernel)) (Nat.le_of_ble_eq_true rfl) h2 g3 g4 hl.1 hH hS (fun H locs hH hS => ?_)
  exact lv_icmp_eq (tgt := 988) hx hb xq_lw_713 (by decide) (fun _ => kk x2 H locs hI2 hH hS) (fun w => absurd rfl w)
theorem xq_lk_100 : xq_KL.contains (13, 100, 134, 1, (xq_mn 134).2.2.1, 0) = true := by decide +kernel
theorem xq_lk_103 : xq_KL.contains (13, 103, 264, 1, (xq_mn 264).2.2.1, 0) = true := by decide +kernel
set_option maxHeartbeats 1000000 in
theorem xq_case20 (Cx : xq_Cx t p room_1 s mid args meth c 13 false code 4) {Mi b L i : Nat} {xs : Nat → Int32} {Inv : xq_S → Prop} (hFit : xq_Fit Mi Inv) (hX : va_X b L xs s s.heap) (hbl : b < s.heap.size) (hbA : ¬ xq_A t b) (hL : L ≤ 3072) (hi : i + 6 ≤ L) (hp : xq_pair Mi Inv 134 264 (([] : List Int32).map Value.int) xq_isI) (hI : Inv x) {H : Heap} {locs : List Loc} {ls : Array Slot} (hH : xq_H t x H) (hS : va_S (xq_A t) s.heap H locs) (hl : lv_has ls 4 [(0, .ref b), (1, .ref (xq_ad t 0)), (2, .ref (xq_ad t Mi)), (3, .int (nI i))]) (kk : ∀ (x2 : xq_S) (H1 : Heap) (locs1 : List Loc), Inv x2 → xq_H t x2 H1 → va_S (xq_A t) s.heap H1 locs1 → W p l e room_1 s mid args below meth c H1 locs1 (xq_N x2) (xq_Z x2) Q (F0 mid 988 ls [])) : W p l e room_1 s mid args below meth c H locs (xq_N x) (xq_Z x) Q (F0 mid 718 ls []) := by
  obtain ⟨F, v, x1, x2, ⟨z, rfl⟩, h1, hm1, hm2, h2, hI2⟩ := hp x hI
  obtain ⟨f1, f2, -, -, -⟩ := hFit x hI
  obtain ⟨-, -, g3, g4, -⟩ := hFit x2 hI2
  have hle := xq_le_x _ _ _ _ _ _ _ _ _ h2
  have hx := Cx.1
  have hb := Cx.2.1
  refine lv_aload_n hx hb xq_lw_718 rfl (lv_at hl 1 rfl) ?_
  refine xq_lawcall (ra := 0) (zs := []) (r := []) Cx xq_lw_719 xq_lk_100 f1 (f2.trans (by decide +kernel)) (Nat.zero_le _) h1 (Nat.le_trans hle.1 g3) (Nat.le_trans hle.2 g4) hl.1 hH hS (fun H locs hH hS => ?_)
  refine lv_aload_n hx hb xq_lw_722 rfl (lv_at hl 2 rfl) ?_
  refine xq_lawcall (ra := Mi) (zs := []) (r := [.int z]) Cx xq_lw_723 xq_lk_103 hm1 (hm2.trans (by decide +kernel)) (Nat.le_of_ble_eq_true rfl) h2 g3 g4 hl.1 hH hS (fun H locs hH hS => ?_)
  exact lv_icmp_eq (tgt := 988) hx hb xq_lw_726 (by decide) (fun _ => kk x2 H locs hI2 hH hS) (fun w => absurd rfl w)
theorem xq_lk_104 : xq_KL.contains (13, 104, 135, 2, (xq_mn 135).2.2.1, 0) = true := by decide +kernel
theorem xq_lk_108 : xq_KL.contains (13, 108, 265, 2, (xq_mn 265).2.2.1, 0) = true := by decide +kernel
set_option maxHeartbeats 1000000 in
theorem xq_case21 (Cx : xq_Cx t p room_1 s mid args meth c 13 false code 4) {Mi b L i : Nat} {xs : Nat → Int32} {Inv : xq_S → Prop} (hFit : xq_Fit Mi Inv) (hX : va_X b L xs s s.heap) (hbl : b < s.heap.size) (hbA : ¬ xq_A t b) (hL : L ≤ 3072) (hi : i + 6 ≤ L) (hp : xq_pair Mi Inv 135 265 (([xs ((nI i).toNatClampNeg + 1)] : List Int32).map Value.int) xq_isJ) (hI : Inv x) {H : Heap} {locs : List Loc} {ls : Array Slot} (hH : xq_H t x H) (hS : va_S (xq_A t) s.heap H locs) (hl : lv_has ls 4 [(0, .ref b), (1, .ref (xq_ad t 0)), (2, .ref (xq_ad t Mi)), (3, .int (nI i))]) (kk : ∀ (x2 : xq_S) (H1 : Heap) (locs1 : List Loc), Inv x2 → xq_H t x2 H1 → va_S (xq_A t) s.heap H1 locs1 → W p l e room_1 s mid args below meth c H1 locs1 (xq_N x2) (xq_Z x2) Q (F0 mid 988 ls [])) : W p l e room_1 s mid args below meth c H locs (xq_N x) (xq_Z x) Q (F0 mid 731 ls []) := by
  obtain ⟨F, v, x1, x2, ⟨z, rfl⟩, h1, hm1, hm2, h2, hI2⟩ := hp x hI
  obtain ⟨f1, f2, -, -, -⟩ := hFit x hI
  obtain ⟨-, -, g3, g4, -⟩ := hFit x2 hI2
  have hle := xq_le_x _ _ _ _ _ _ _ _ _ h2
  have hx := Cx.1
  have hb := Cx.2.1
  obtain ⟨i1, j1⟩ := xq_ix (k := 1) hi hL (by decide)
  refine lv_aload_n hx hb xq_lw_731 rfl (lv_at hl 1 rfl) ?_
  refine lv_aload_n hx hb xq_lw_732 rfl (lv_at hl 0 rfl) ?_
  refine lv_iload_n hx hb xq_lw_733 rfl (lv_at hl 3 rfl) ?_
  refine lv_iconst (v := nI 1) hx hb xq_lw_734 (by decide) ?_
  refine lv_iadd hx hb xq_lw_735 ?_
  refine va_sld hx hb hX hbl hbA hS i1 xq_lw_736 ?_
  rw [j1]
  refine xq_lawcall (ra := 0) (zs := [xs ((nI i).toNatClampNeg + 1)]) (r := []) Cx xq_lw_737 xq_lk_104 f1 (f2.trans (by decide +kernel)) (Nat.zero_le _) h1 (Nat.le_trans hle.1 g3) (Nat.le_trans hle.2 g4) hl.1 hH hS (fun H locs hH hS => ?_)
  refine lv_aload_n hx hb xq_lw_740 rfl (lv_at hl 2 rfl) ?_
  refine lv_aload_n hx hb xq_lw_741 rfl (lv_at hl 0 rfl) ?_
  refine lv_iload_n hx hb xq_lw_742 rfl (lv_at hl 3 rfl) ?_
  refine lv_iconst (v := nI 1) hx hb xq_lw_743 (by decide) ?_
  refine lv_iadd hx hb xq_lw_744 ?_
  refine va_sld hx hb hX hbl hbA hS i1 xq_lw_745 ?_
  rw [j1]
  refine xq_lawcall (ra := Mi) (zs := [xs ((nI i).toNatClampNeg + 1)]) (r := [.long z]) Cx xq_lw_746 xq_lk_108 hm1 (hm2.trans (by decide +kernel)) (Nat.le_of_ble_eq_true rfl) h2 g3 g4 hl.1 hH hS (fun H locs hH hS => ?_)
  refine W.lcmp hx hb xq_lw_749 ?_
  have e0 : lg_cmp z z = 0 := by simp [lg_cmp]
  rw [e0]
  exact lv_if_eq (tgt := 988) hx hb xq_lw_750 (by decide) (fun _ => kk x2 H locs hI2 hH hS) (fun w => absurd rfl w)
theorem xq_lk_109 : xq_KL.contains (13, 109, 139, 2, (xq_mn 139).2.2.1, 0) = true := by decide +kernel
theorem xq_lk_112 : xq_KL.contains (13, 112, 270, 2, (xq_mn 270).2.2.1, 0) = true := by decide +kernel
set_option maxHeartbeats 1000000 in
theorem xq_case22 (Cx : xq_Cx t p room_1 s mid args meth c 13 false code 4) {Mi b L i : Nat} {xs : Nat → Int32} {Inv : xq_S → Prop} (hFit : xq_Fit Mi Inv) (hX : va_X b L xs s s.heap) (hbl : b < s.heap.size) (hbA : ¬ xq_A t b) (hL : L ≤ 3072) (hi : i + 6 ≤ L) (hp : xq_pair Mi Inv 139 270 (([xs ((nI i).toNatClampNeg + 1)] : List Int32).map Value.int) xq_isI) (hI : Inv x) {H : Heap} {locs : List Loc} {ls : Array Slot} (hH : xq_H t x H) (hS : va_S (xq_A t) s.heap H locs) (hl : lv_has ls 4 [(0, .ref b), (1, .ref (xq_ad t 0)), (2, .ref (xq_ad t Mi)), (3, .int (nI i))]) (kk : ∀ (x2 : xq_S) (H1 : Heap) (locs1 : List Loc), Inv x2 → xq_H t x2 H1 → va_S (xq_A t) s.heap H1 locs1 → W p l e room_1 s mid args below meth c H1 locs1 (xq_N x2) (xq_Z x2) Q (F0 mid 988 ls [])) : W p l e room_1 s mid args below meth c H locs (xq_N x) (xq_Z x) Q (F0 mid 755 ls []) := by
  obtain ⟨F, v, x1, x2, ⟨z, rfl⟩, h1, hm1, hm2, h2, hI2⟩ := hp x hI
  obtain ⟨f1, f2, -, -, -⟩ := hFit x hI
  obtain ⟨-, -, g3, g4, -⟩ := hFit x2 hI2
  have hle := xq_le_x _ _ _ _ _ _ _ _ _ h2
  have hx := Cx.1
  have hb := Cx.2.1
  obtain ⟨i1, j1⟩ := xq_ix (k := 1) hi hL (by decide)
  refine lv_aload_n hx hb xq_lw_755 rfl (lv_at hl 1 rfl) ?_
  refine lv_aload_n hx hb xq_lw_756 rfl (lv_at hl 0 rfl) ?_
  refine lv_iload_n hx hb xq_lw_757 rfl (lv_at hl 3 rfl) ?_
  refine lv_iconst (v := nI 1) hx hb xq_lw_758 (by decide) ?_
  refine lv_iadd hx hb xq_lw_759 ?_
  refine va_sld hx hb hX hbl hbA hS i1 xq_lw_760 ?_
  rw [j1]
  refine xq_lawcall (ra := 0) (zs := [xs ((nI i).toNatClampNeg + 1)]) (r := []) Cx xq_lw_761 xq_lk_109 f1 (f2.trans (by decide +kernel)) (Nat.zero_le _) h1 (Nat.le_trans hle.1 g3) (Nat.le_trans hle.2 g4) hl.1 hH hS (fun H locs hH hS => ?_)
  refine lv_aload_n hx hb xq_lw_764 rfl (lv_at hl 2 rfl) ?_
  refine lv_aload_n hx hb xq_lw_765 rfl (lv_at hl 0 rfl) ?_
  refine lv_iload_n hx hb xq_lw_766 rfl (lv_at hl 3 rfl) ?_
  refine lv_iconst (v := nI 1) hx hb xq_lw_767 (by decide) ?_
  refine lv_iadd hx hb xq_lw_768 ?_
  refine va_sld hx hb hX hbl hbA hS i1 xq_lw_769 ?_
  rw [j1]
  refine xq_lawcall (ra := Mi) (zs := [xs ((nI i).toNatClampNeg + 1)]) (r := [.int z]) Cx xq_lw_770 xq_lk_112 hm1 (hm2.trans (by decide +kernel)) (Nat.le_of_ble_eq_true rfl) h2 g3 g4 hl.1 hH hS (fun H locs hH hS => ?_)
  exact lv_icmp_eq (tgt := 988) hx hb xq_lw_773 (by decide) (fun _ => kk x2 H locs hI2 hH hS) (fun w => absurd rfl w)
theorem xq_lk_113 : xq_KL.contains (13, 113, 141, 3, (xq_mn 141).2.2.1, 0) = true := by decide +kernel
theorem xq_lk_116 : xq_KL.contains (13, 116, 268, 3, (xq_mn 268).2.2.1, 0) = true := by decide +kernel
set_option maxHeartbeats 1000000 in
theorem xq_case23 (Cx : xq_Cx t p room_1 s mid args meth c 13 false code 4) {Mi b L i : Nat} {xs : Nat → Int32} {Inv : xq_S → Prop} (hFit : xq_Fit Mi Inv) (hX : va_X b L xs s s.heap) (hbl : b < s.heap.size) (hbA : ¬ xq_A t b) (hL : L ≤ 3072) (hi : i + 6 ≤ L) (hp : xq_pair Mi Inv 141 268 (([xs ((nI i).toNatClampNeg + 1), xs ((nI i).toNatClampNeg + 2)] : List Int32).map Value.int) xq_isI) (hI : Inv x) {H : Heap} {locs : List Loc} {ls : Array Slot} (hH : xq_H t x H) (hS : va_S (xq_A t) s.heap H locs) (hl : lv_has ls 4 [(0, .ref b), (1, .ref (xq_ad t 0)), (2, .ref (xq_ad t Mi)), (3, .int (nI i))]) (kk : ∀ (x2 : xq_S) (H1 : Heap) (locs1 : List Loc), Inv x2 → xq_H t x2 H1 → va_S (xq_A t) s.heap H1 locs1 → W p l e room_1 s mid args below meth c H1 locs1 (xq_N x2) (xq_Z x2) Q (F0 mid 988 ls [])) : W p l e room_1 s mid args below meth c H locs (xq_N x) (xq_Z x) Q (F0 mid 778 ls []) := by
  obtain ⟨F, v, x1, x2, ⟨z, rfl⟩, h1, hm1, hm2, h2, hI2⟩ := hp x hI
  obtain ⟨f1, f2, -, -, -⟩ := hFit x hI
  obtain ⟨-, -, g3, g4, -⟩ := hFit x2 hI2
  have hle := xq_le_x _ _ _ _ _ _ _ _ _ h2
  have hx := Cx.1
  have hb := Cx.2.1
  obtain ⟨i1, j1⟩ := xq_ix (k := 1) hi hL (by decide)
  obtain ⟨i2, j2⟩ := xq_ix (k := 2) hi hL (by decide)
  refine lv_aload_n hx hb xq_lw_778 rfl (lv_at hl 1 rfl) ?_
  refine lv_aload_n hx hb xq_lw_779 rfl (lv_at hl 0 rfl) ?_
  refine lv_iload_n hx hb xq_lw_780 rfl (lv_at hl 3 rfl) ?_
  refine lv_iconst (v := nI 1) hx hb xq_lw_781 (by decide) ?_
  refine lv_iadd hx hb xq_lw_782 ?_
  refine va_sld hx hb hX hbl hbA hS i1 xq_lw_783 ?_
  rw [j1]
  refine lv_aload_n hx hb xq_lw_784 rfl (lv_at hl 0 rfl) ?_
  refine lv_iload_n hx hb xq_lw_785 rfl (lv_at hl 3 rfl) ?_
  refine lv_iconst (v := nI 2) hx hb xq_lw_786 (by decide) ?_
  refine lv_iadd hx hb xq_lw_787 ?_
  refine va_sld hx hb hX hbl hbA hS i2 xq_lw_788 ?_
  rw [j2]
  refine xq_lawcall (ra := 0) (zs := [xs ((nI i).toNatClampNeg + 1), xs ((nI i).toNatClampNeg + 2)]) (r := []) Cx xq_lw_789 xq_lk_113 f1 (f2.trans (by decide +kernel)) (Nat.zero_le _) h1 (Nat.le_trans hle.1 g3) (Nat.le_trans hle.2 g4) hl.1 hH hS (fun H locs hH hS => ?_)
  refine lv_aload_n hx hb xq_lw_792 rfl (lv_at hl 2 rfl) ?_
  refine lv_aload_n hx hb xq_lw_793 rfl (lv_at hl 0 rfl) ?_
  refine lv_iload_n hx hb xq_lw_794 rfl (lv_at hl 3 rfl) ?_
  refine lv_iconst (v := nI 1) hx hb xq_lw_795 (by decide) ?_
  refine lv_iadd hx hb xq_lw_796 ?_
  refine va_sld hx hb hX hbl hbA hS i1 xq_lw_797 ?_
  rw [j1]
  refine lv_aload_n hx hb xq_lw_798 rfl (lv_at hl 0 rfl) ?_
  refine lv_iload_n hx hb xq_lw_799 rfl (lv_at hl 3 rfl) ?_
  refine lv_iconst (v := nI 2) hx hb xq_lw_800 (by decide) ?_
  refine lv_iadd hx hb xq_lw_801 ?_
  refine va_sld hx hb hX hbl hbA hS i2 xq_lw_802 ?_
  rw [j2]
  refine xq_lawcall (ra := Mi) (zs := [xs ((nI i).toNatClampNeg + 1), xs ((nI i).toNatClampNeg + 2)]) (r := [.int z]) Cx xq_lw_803 xq_lk_116 hm1 (hm2.trans (by decide +kernel)) (Nat.le_of_ble_eq_true rfl) h2 g3 g4 hl.1 hH hS (fun H locs hH hS => ?_)
  exact lv_icmp_eq (tgt := 988) hx hb xq_lw_806 (by decide) (fun _ => kk x2 H locs hI2 hH hS) (fun w => absurd rfl w)
theorem xq_lk_117 : xq_KL.contains (13, 117, 143, 2, (xq_mn 143).2.2.1, 0) = true := by decide +kernel
theorem xq_lk_120 : xq_KL.contains (13, 120, 269, 2, (xq_mn 269).2.2.1, 0) = true := by decide +kernel
set_option maxHeartbeats 1000000 in
theorem xq_case24 (Cx : xq_Cx t p room_1 s mid args meth c 13 false code 4) {Mi b L i : Nat} {xs : Nat → Int32} {Inv : xq_S → Prop} (hFit : xq_Fit Mi Inv) (hX : va_X b L xs s s.heap) (hbl : b < s.heap.size) (hbA : ¬ xq_A t b) (hL : L ≤ 3072) (hi : i + 6 ≤ L) (hp : xq_pair Mi Inv 143 269 (([xs ((nI i).toNatClampNeg + 1)] : List Int32).map Value.int) xq_isI) (hI : Inv x) {H : Heap} {locs : List Loc} {ls : Array Slot} (hH : xq_H t x H) (hS : va_S (xq_A t) s.heap H locs) (hl : lv_has ls 4 [(0, .ref b), (1, .ref (xq_ad t 0)), (2, .ref (xq_ad t Mi)), (3, .int (nI i))]) (kk : ∀ (x2 : xq_S) (H1 : Heap) (locs1 : List Loc), Inv x2 → xq_H t x2 H1 → va_S (xq_A t) s.heap H1 locs1 → W p l e room_1 s mid args below meth c H1 locs1 (xq_N x2) (xq_Z x2) Q (F0 mid 988 ls [])) : W p l e room_1 s mid args below meth c H locs (xq_N x) (xq_Z x) Q (F0 mid 811 ls []) := by
  obtain ⟨F, v, x1, x2, ⟨z, rfl⟩, h1, hm1, hm2, h2, hI2⟩ := hp x hI
  obtain ⟨f1, f2, -, -, -⟩ := hFit x hI
  obtain ⟨-, -, g3, g4, -⟩ := hFit x2 hI2
  have hle := xq_le_x _ _ _ _ _ _ _ _ _ h2
  have hx := Cx.1
  have hb := Cx.2.1
  obtain ⟨i1, j1⟩ := xq_ix (k := 1) hi hL (by decide)
  refine lv_aload_n hx hb xq_lw_811 rfl (lv_at hl 1 rfl) ?_
  refine lv_aload_n hx hb xq_lw_812 rfl (lv_at hl 0 rfl) ?_
  refine lv_iload_n hx hb xq_lw_813 rfl (lv_at hl 3 rfl) ?_
  refine lv_iconst (v := nI 1) hx hb xq_lw_814 (by decide) ?_
  refine lv_iadd hx hb xq_lw_815 ?_
  refine va_sld hx hb hX hbl hbA hS i1 xq_lw_816 ?_
  rw [j1]
  refine xq_lawcall (ra := 0) (zs := [xs ((nI i).toNatClampNeg + 1)]) (r := []) Cx xq_lw_817 xq_lk_117 f1 (f2.trans (by decide +kernel)) (Nat.zero_le _) h1 (Nat.le_trans hle.1 g3) (Nat.le_trans hle.2 g4) hl.1 hH hS (fun H locs hH hS => ?_)
  refine lv_aload_n hx hb xq_lw_820 rfl (lv_at hl 2 rfl) ?_
  refine lv_aload_n hx hb xq_lw_821 rfl (lv_at hl 0 rfl) ?_
  refine lv_iload_n hx hb xq_lw_822 rfl (lv_at hl 3 rfl) ?_
  refine lv_iconst (v := nI 1) hx hb xq_lw_823 (by decide) ?_
  refine lv_iadd hx hb xq_lw_824 ?_
  refine va_sld hx hb hX hbl hbA hS i1 xq_lw_825 ?_
  rw [j1]
  refine xq_lawcall (ra := Mi) (zs := [xs ((nI i).toNatClampNeg + 1)]) (r := [.int z]) Cx xq_lw_826 xq_lk_120 hm1 (hm2.trans (by decide +kernel)) (Nat.le_of_ble_eq_true rfl) h2 g3 g4 hl.1 hH hS (fun H locs hH hS => ?_)
  exact lv_icmp_eq (tgt := 988) hx hb xq_lw_829 (by decide) (fun _ => kk x2 H locs hI2 hH hS) (fun w => absurd rfl w)
theorem xq_lk_121 : xq_KL.contains (13, 121, 145, 3, (xq_mn 145).2.2.1, 0) = true := by decide +kernel
theorem xq_lk_124 : xq_KL.contains (13, 124, 262, 3, (xq_mn 262).2.2.1, 0) = true := by decide +kernel
set_option maxHeartbeats 1000000 in
theorem xq_case25 (Cx : xq_Cx t p room_1 s mid args meth c 13 false code 4) {Mi b L i : Nat} {xs : Nat → Int32} {Inv : xq_S → Prop} (hFit : xq_Fit Mi Inv) (hX : va_X b L xs s s.heap) (hbl : b < s.heap.size) (hbA : ¬ xq_A t b) (hL : L ≤ 3072) (hi : i + 6 ≤ L) (hp : xq_pair Mi Inv 145 262 (([xs ((nI i).toNatClampNeg + 1), xs ((nI i).toNatClampNeg + 2)] : List Int32).map Value.int) xq_isI) (hI : Inv x) {H : Heap} {locs : List Loc} {ls : Array Slot} (hH : xq_H t x H) (hS : va_S (xq_A t) s.heap H locs) (hl : lv_has ls 4 [(0, .ref b), (1, .ref (xq_ad t 0)), (2, .ref (xq_ad t Mi)), (3, .int (nI i))]) (kk : ∀ (x2 : xq_S) (H1 : Heap) (locs1 : List Loc), Inv x2 → xq_H t x2 H1 → va_S (xq_A t) s.heap H1 locs1 → W p l e room_1 s mid args below meth c H1 locs1 (xq_N x2) (xq_Z x2) Q (F0 mid 988 ls [])) : W p l e room_1 s mid args below meth c H locs (xq_N x) (xq_Z x) Q (F0 mid 834 ls []) := by
  obtain ⟨F, v, x1, x2, ⟨z, rfl⟩, h1, hm1, hm2, h2, hI2⟩ := hp x hI
  obtain ⟨f1, f2, -, -, -⟩ := hFit x hI
  obtain ⟨-, -, g3, g4, -⟩ := hFit x2 hI2
  have hle := xq_le_x _ _ _ _ _ _ _ _ _ h2
  have hx := Cx.1
  have hb := Cx.2.1
  obtain ⟨i1, j1⟩ := xq_ix (k := 1) hi hL (by decide)
  obtain ⟨i2, j2⟩ := xq_ix (k := 2) hi hL (by decide)
  refine lv_aload_n hx hb xq_lw_834 rfl (lv_at hl 1 rfl) ?_
  refine lv_aload_n hx hb xq_lw_835 rfl (lv_at hl 0 rfl) ?_
  refine lv_iload_n hx hb xq_lw_836 rfl (lv_at hl 3 rfl) ?_
  refine lv_iconst (v := nI 1) hx hb xq_lw_837 (by decide) ?_
  refine lv_iadd hx hb xq_lw_838 ?_
  refine va_sld hx hb hX hbl hbA hS i1 xq_lw_839 ?_
  rw [j1]
  refine lv_aload_n hx hb xq_lw_840 rfl (lv_at hl 0 rfl) ?_
  refine lv_iload_n hx hb xq_lw_841 rfl (lv_at hl 3 rfl) ?_
  refine lv_iconst (v := nI 2) hx hb xq_lw_842 (by decide) ?_
  refine lv_iadd hx hb xq_lw_843 ?_
  refine va_sld hx hb hX hbl hbA hS i2 xq_lw_844 ?_
  rw [j2]
  refine xq_lawcall (ra := 0) (zs := [xs ((nI i).toNatClampNeg + 1), xs ((nI i).toNatClampNeg + 2)]) (r := []) Cx xq_lw_845 xq_lk_121 f1 (f2.trans (by decide +kernel)) (Nat.zero_le _) h1 (Nat.le_trans hle.1 g3) (Nat.le_trans hle.2 g4) hl.1 hH hS (fun H locs hH hS => ?_)
  refine lv_aload_n hx hb xq_lw_848 rfl (lv_at hl 2 rfl) ?_
  refine lv_aload_n hx hb xq_lw_849 rfl (lv_at hl 0 rfl) ?_
  refine lv_iload_n hx hb xq_lw_850 rfl (lv_at hl 3 rfl) ?_
  refine lv_iconst (v := nI 1) hx hb xq_lw_851 (by decide) ?_
  refine lv_iadd hx hb xq_lw_852 ?_
  refine va_sld hx hb hX hbl hbA hS i1 xq_lw_853 ?_
  rw [j1]
  refine lv_aload_n hx hb xq_lw_854 rfl (lv_at hl 0 rfl) ?_
  refine lv_iload_n hx hb xq_lw_855 rfl (lv_at hl 3 rfl) ?_
  refine lv_iconst (v := nI 2) hx hb xq_lw_856 (by decide) ?_
  refine lv_iadd hx hb xq_lw_857 ?_
  refine va_sld hx hb hX hbl hbA hS i2 xq_lw_858 ?_
  rw [j2]
  refine xq_lawcall (ra := Mi) (zs := [xs ((nI i).toNatClampNeg + 1), xs ((nI i).toNatClampNeg + 2)]) (r := [.int z]) Cx xq_lw_859 xq_lk_124 hm1 (hm2.trans (by decide +kernel)) (Nat.le_of_ble_eq_true rfl) h2 g3 g4 hl.1 hH hS (fun H locs hH hS => ?_)
  exact lv_icmp_eq (tgt := 988) hx hb xq_lw_862 (by decide) (fun _ => kk x2 H locs hI2 hH hS) (fun w => absurd rfl w)
theorem xq_lk_125 : xq_KL.contains (13, 125, 147, 2, (xq_mn 147).2.2.1, 0) = true := by decide +kernel
theorem xq_lk_128 : xq_KL.contains (13, 128, 261, 2, (xq_mn 261).2.2.1, 0) = true := by decide +kernel
set_option maxHeartbeats 1000000 in
theorem xq_case26 (Cx : xq_Cx t p room_1 s mid args meth c 13 false code 4) {Mi b L i : Nat} {xs : Nat → Int32} {Inv : xq_S → Prop} (hFit : xq_Fit Mi Inv) (hX : va_X b L xs s s.heap) (hbl : b < s.heap.size) (hbA : ¬ xq_A t b) (hL : L ≤ 3072) (hi : i + 6 ≤ L) (hp : xq_pair Mi Inv 147 261 (([xs ((nI i).toNatClampNeg + 1)] : List Int32).map Value.int) xq_isI) (hI : Inv x) {H : Heap} {locs : List Loc} {ls : Array Slot} (hH : xq_H t x H) (hS : va_S (xq_A t) s.heap H locs) (hl : lv_has ls 4 [(0, .ref b), (1, .ref (xq_ad t 0)), (2, .ref (xq_ad t Mi)), (3, .int (nI i))]) (kk : ∀ (x2 : xq_S) (H1 : Heap) (locs1 : List Loc), Inv x2 → xq_H t x2 H1 → va_S (xq_A t) s.heap H1 locs1 → W p l e room_1 s mid args below meth c H1 locs1 (xq_N x2) (xq_Z x2) Q (F0 mid 988 ls [])) : W p l e room_1 s mid args below meth c H locs (xq_N x) (xq_Z x) Q (F0 mid 867 ls []) := by
  obtain ⟨F, v, x1, x2, ⟨z, rfl⟩, h1, hm1, hm2, h2, hI2⟩ := hp x hI
  obtain ⟨f1, f2, -, -, -⟩ := hFit x hI
  obtain ⟨-, -, g3, g4, -⟩ := hFit x2 hI2
  have hle := xq_le_x _ _ _ _ _ _ _ _ _ h2
  have hx := Cx.1
  have hb := Cx.2.1
  obtain ⟨i1, j1⟩ := xq_ix (k := 1) hi hL (by decide)
  refine lv_aload_n hx hb xq_lw_867 rfl (lv_at hl 1 rfl) ?_
  refine lv_aload_n hx hb xq_lw_868 rfl (lv_at hl 0 rfl) ?_
  refine lv_iload_n hx hb xq_lw_869 rfl (lv_at hl 3 rfl) ?_
  refine lv_iconst (v := nI 1) hx hb xq_lw_870 (by decide) ?_
  refine lv_iadd hx hb xq_lw_871 ?_
  refine va_sld hx hb hX hbl hbA hS i1 xq_lw_872 ?_
  rw [j1]
  refine xq_lawcall (ra := 0) (zs := [xs ((nI i).toNatClampNeg + 1)]) (r := []) Cx xq_lw_873 xq_lk_125 f1 (f2.trans (by decide +kernel)) (Nat.zero_le _) h1 (Nat.le_trans hle.1 g3) (Nat.le_trans hle.2 g4) hl.1 hH hS (fun H locs hH hS => ?_)
  refine lv_aload_n hx hb xq_lw_876 rfl (lv_at hl 2 rfl) ?_
  refine lv_aload_n hx hb xq_lw_877 rfl (lv_at hl 0 rfl) ?_
  refine lv_iload_n hx hb xq_lw_878 rfl (lv_at hl 3 rfl) ?_
  refine lv_iconst (v := nI 1) hx hb xq_lw_879 (by decide) ?_
  refine lv_iadd hx hb xq_lw_880 ?_
  refine va_sld hx hb hX hbl hbA hS i1 xq_lw_881 ?_
  rw [j1]
  refine xq_lawcall (ra := Mi) (zs := [xs ((nI i).toNatClampNeg + 1)]) (r := [.int z]) Cx xq_lw_882 xq_lk_128 hm1 (hm2.trans (by decide +kernel)) (Nat.le_of_ble_eq_true rfl) h2 g3 g4 hl.1 hH hS (fun H locs hH hS => ?_)
  exact lv_icmp_eq (tgt := 988) hx hb xq_lw_885 (by decide) (fun _ => kk x2 H locs hI2 hH hS) (fun w => absurd rfl w)
theorem xq_lk_129 : xq_KL.contains (13, 129, 149, 2, (xq_mn 149).2.2.1, 0) = true := by decide +kernel
theorem xq_lk_132 : xq_KL.contains (13, 132, 263, 2, (xq_mn 263).2.2.1, 0) = true := by decide +kernel
set_option maxHeartbeats 1000000 in
theorem xq_case27 (Cx : xq_Cx t p room_1 s mid args meth c 13 false code 4) {Mi b L i : Nat} {xs : Nat → Int32} {Inv : xq_S → Prop} (hFit : xq_Fit Mi Inv) (hX : va_X b L xs s s.heap) (hbl : b < s.heap.size) (hbA : ¬ xq_A t b) (hL : L ≤ 3072) (hi : i + 6 ≤ L) (hp : xq_pair Mi Inv 149 263 (([xs ((nI i).toNatClampNeg + 1)] : List Int32).map Value.int) xq_isI) (hI : Inv x) {H : Heap} {locs : List Loc} {ls : Array Slot} (hH : xq_H t x H) (hS : va_S (xq_A t) s.heap H locs) (hl : lv_has ls 4 [(0, .ref b), (1, .ref (xq_ad t 0)), (2, .ref (xq_ad t Mi)), (3, .int (nI i))]) (kk : ∀ (x2 : xq_S) (H1 : Heap) (locs1 : List Loc), Inv x2 → xq_H t x2 H1 → va_S (xq_A t) s.heap H1 locs1 → W p l e room_1 s mid args below meth c H1 locs1 (xq_N x2) (xq_Z x2) Q (F0 mid 988 ls [])) : W p l e room_1 s mid args below meth c H locs (xq_N x) (xq_Z x) Q (F0 mid 890 ls []) := by
  obtain ⟨F, v, x1, x2, ⟨z, rfl⟩, h1, hm1, hm2, h2, hI2⟩ := hp x hI
  obtain ⟨f1, f2, -, -, -⟩ := hFit x hI
  obtain ⟨-, -, g3, g4, -⟩ := hFit x2 hI2
  have hle := xq_le_x _ _ _ _ _ _ _ _ _ h2
  have hx := Cx.1
  have hb := Cx.2.1
  obtain ⟨i1, j1⟩ := xq_ix (k := 1) hi hL (by decide)
  refine lv_aload_n hx hb xq_lw_890 rfl (lv_at hl 1 rfl) ?_
  refine lv_aload_n hx hb xq_lw_891 rfl (lv_at hl 0 rfl) ?_
  refine lv_iload_n hx hb xq_lw_892 rfl (lv_at hl 3 rfl) ?_
  refine lv_iconst (v := nI 1) hx hb xq_lw_893 (by decide) ?_
  refine lv_iadd hx hb xq_lw_894 ?_
  refine va_sld hx hb hX hbl hbA hS i1 xq_lw_895 ?_
  rw [j1]
  refine xq_lawcall (ra := 0) (zs := [xs ((nI i).toNatClampNeg + 1)]) (r := []) Cx xq_lw_896 xq_lk_129 f1 (f2.trans (by decide +kernel)) (Nat.zero_le _) h1 (Nat.le_trans hle.1 g3) (Nat.le_trans hle.2 g4) hl.1 hH hS (fun H locs hH hS => ?_)
  refine lv_aload_n hx hb xq_lw_899 rfl (lv_at hl 2 rfl) ?_
  refine lv_aload_n hx hb xq_lw_900 rfl (lv_at hl 0 rfl) ?_
  refine lv_iload_n hx hb xq_lw_901 rfl (lv_at hl 3 rfl) ?_
  refine lv_iconst (v := nI 1) hx hb xq_lw_902 (by decide) ?_
  refine lv_iadd hx hb xq_lw_903 ?_
  refine va_sld hx hb hX hbl hbA hS i1 xq_lw_904 ?_
  rw [j1]
  refine xq_lawcall (ra := Mi) (zs := [xs ((nI i).toNatClampNeg + 1)]) (r := [.int z]) Cx xq_lw_905 xq_lk_132 hm1 (hm2.trans (by decide +kernel)) (Nat.le_of_ble_eq_true rfl) h2 g3 g4 hl.1 hH hS (fun H locs hH hS => ?_)
  exact lv_icmp_eq (tgt := 988) hx hb xq_lw_908 (by decide) (fun _ => kk x2 H locs hI2 hH hS) (fun w => absurd rfl w)
theorem xq_lk_133 : xq_KL.contains (13, 133, 151, 1, (xq_mn 151).2.2.1, 0) = true := by decide +kernel
theorem xq_lk_137 : xq_KL.contains (13, 137, 210, 1, (xq_mn 210).2.2.1, 0) = true := by decide +kernel
set_option maxHeartbeats 1000000 in
theorem xq_case28 (Cx : xq_Cx t p room_1 s mid args meth c 13 false code 4) {Mi b L i : Nat} {xs : Nat → Int32} {Inv : xq_S → Prop} (hFit : xq_Fit Mi Inv) (hX : va_X b L xs s s.heap) (hbl : b < s.heap.size) (hbA : ¬ xq_A t b) (hL : L ≤ 3072) (hi : i + 6 ≤ L) (hp : xq_pair Mi Inv 151 210 (([] : List Int32).map Value.int) xq_isI) (hI : Inv x) {H : Heap} {locs : List Loc} {ls : Array Slot} (hH : xq_H t x H) (hS : va_S (xq_A t) s.heap H locs) (hl : lv_has ls 4 [(0, .ref b), (1, .ref (xq_ad t 0)), (2, .ref (xq_ad t Mi)), (3, .int (nI i))]) (kk : ∀ (x2 : xq_S) (H1 : Heap) (locs1 : List Loc), Inv x2 → xq_H t x2 H1 → va_S (xq_A t) s.heap H1 locs1 → W p l e room_1 s mid args below meth c H1 locs1 (xq_N x2) (xq_Z x2) Q (F0 mid 988 ls [])) : W p l e room_1 s mid args below meth c H locs (xq_N x) (xq_Z x) Q (F0 mid 913 ls []) := by
  obtain ⟨F, v, x1, x2, ⟨z, rfl⟩, h1, hm1, hm2, h2, hI2⟩ := hp x hI
  obtain ⟨f1, f2, -, -, -⟩ := hFit x hI
  obtain ⟨-, -, g3, g4, -⟩ := hFit x2 hI2
  have hle := xq_le_x _ _ _ _ _ _ _ _ _ h2
  have hx := Cx.1
  have hb := Cx.2.1
  refine lv_aload_n hx hb xq_lw_913 rfl (lv_at hl 1 rfl) ?_
  refine xq_lawcall (ra := 0) (zs := []) (r := []) Cx xq_lw_914 xq_lk_133 f1 (f2.trans (by decide +kernel)) (Nat.zero_le _) h1 (Nat.le_trans hle.1 g3) (Nat.le_trans hle.2 g4) hl.1 hH hS (fun H locs hH hS => ?_)
  refine lv_aload_n hx hb xq_lw_917 rfl (lv_at hl 2 rfl) ?_
  refine xq_lawcall (ra := Mi) (zs := []) (r := [.int z]) Cx xq_lw_918 xq_lk_137 hm1 (hm2.trans (by decide +kernel)) (Nat.le_of_ble_eq_true rfl) h2 g3 g4 hl.1 hH hS (fun H locs hH hS => ?_)
  exact lv_icmp_eq (tgt := 988) hx hb xq_lw_921 (by decide) (fun _ => kk x2 H locs hI2 hH hS) (fun w => absurd rfl w)
theorem xq_lk_138 : xq_KL.contains (13, 138, 153, 2, (xq_mn 153).2.2.1, 0) = true := by decide +kernel
theorem xq_lk_142 : xq_KL.contains (13, 142, 271, 2, (xq_mn 271).2.2.1, 0) = true := by decide +kernel
set_option maxHeartbeats 1000000 in
theorem xq_case29 (Cx : xq_Cx t p room_1 s mid args meth c 13 false code 4) {Mi b L i : Nat} {xs : Nat → Int32} {Inv : xq_S → Prop} (hFit : xq_Fit Mi Inv) (hX : va_X b L xs s s.heap) (hbl : b < s.heap.size) (hbA : ¬ xq_A t b) (hL : L ≤ 3072) (hi : i + 6 ≤ L) (hp : xq_pair Mi Inv 153 271 (([xq_bz (xs ((nI i).toNatClampNeg + 1))] : List Int32).map Value.int) xq_isI) (hI : Inv x) {H : Heap} {locs : List Loc} {ls : Array Slot} (hH : xq_H t x H) (hS : va_S (xq_A t) s.heap H locs) (hl : lv_has ls 4 [(0, .ref b), (1, .ref (xq_ad t 0)), (2, .ref (xq_ad t Mi)), (3, .int (nI i))]) (kk : ∀ (x2 : xq_S) (H1 : Heap) (locs1 : List Loc), Inv x2 → xq_H t x2 H1 → va_S (xq_A t) s.heap H1 locs1 → W p l e room_1 s mid args below meth c H1 locs1 (xq_N x2) (xq_Z x2) Q (F0 mid 988 ls [])) : W p l e room_1 s mid args below meth c H locs (xq_N x) (xq_Z x) Q (F0 mid 926 ls []) := by
  obtain ⟨F, v, x1, x2, ⟨z, rfl⟩, h1, hm1, hm2, h2, hI2⟩ := hp x hI
  obtain ⟨f1, f2, -, -, -⟩ := hFit x hI
  obtain ⟨-, -, g3, g4, -⟩ := hFit x2 hI2
  have hle := xq_le_x _ _ _ _ _ _ _ _ _ h2
  have hx := Cx.1
  have hb := Cx.2.1
  obtain ⟨i1, j1⟩ := xq_ix (k := 1) hi hL (by decide)
  refine lv_aload_n hx hb xq_lw_926 rfl (lv_at hl 1 rfl) ?_
  refine lv_aload_n hx hb xq_lw_927 rfl (lv_at hl 0 rfl) ?_
  refine lv_iload_n hx hb xq_lw_928 rfl (lv_at hl 3 rfl) ?_
  refine lv_iconst (v := nI 1) hx hb xq_lw_929 (by decide) ?_
  refine lv_iadd hx hb xq_lw_930 ?_
  refine va_sld hx hb hX hbl hbA hS i1 xq_lw_931 ?_
  rw [j1]
  refine xq_lwb (a := 932) (by exact fun w1 w2 => lv_if_eq (tgt := 939) hx hb xq_lw_932 (by decide) w1 w2) (by exact fun w => lv_iconst (v := 1) hx hb xq_lw_935 (by decide) (lv_goto (tgt := 940) hx hb xq_lw_936 (by decide) w)) (by exact fun w => lv_iconst (v := 0) hx hb xq_lw_939 (by decide) w) ?_
  refine xq_lawcall (ra := 0) (zs := [xq_bz (xs ((nI i).toNatClampNeg + 1))]) (r := []) Cx xq_lw_940 xq_lk_138 f1 (f2.trans (by decide +kernel)) (Nat.zero_le _) h1 (Nat.le_trans hle.1 g3) (Nat.le_trans hle.2 g4) hl.1 hH hS (fun H locs hH hS => ?_)
  refine lv_aload_n hx hb xq_lw_943 rfl (lv_at hl 2 rfl) ?_
  refine lv_aload_n hx hb xq_lw_944 rfl (lv_at hl 0 rfl) ?_
  refine lv_iload_n hx hb xq_lw_945 rfl (lv_at hl 3 rfl) ?_
  refine lv_iconst (v := nI 1) hx hb xq_lw_946 (by decide) ?_
  refine lv_iadd hx hb xq_lw_947 ?_
  refine va_sld hx hb hX hbl hbA hS i1 xq_lw_948 ?_
  rw [j1]
  refine xq_lwb (a := 949) (by exact fun w1 w2 => lv_if_eq (tgt := 956) hx hb xq_lw_949 (by decide) w1 w2) (by exact fun w => lv_iconst (v := 1) hx hb xq_lw_952 (by decide) (lv_goto (tgt := 957) hx hb xq_lw_953 (by decide) w)) (by exact fun w => lv_iconst (v := 0) hx hb xq_lw_956 (by decide) w) ?_
  refine xq_lawcall (ra := Mi) (zs := [xq_bz (xs ((nI i).toNatClampNeg + 1))]) (r := [.int z]) Cx xq_lw_957 xq_lk_142 hm1 (hm2.trans (by decide +kernel)) (Nat.le_of_ble_eq_true rfl) h2 g3 g4 hl.1 hH hS (fun H locs hH hS => ?_)
  exact lv_icmp_eq (tgt := 988) hx hb xq_lw_960 (by decide) (fun _ => kk x2 H locs hI2 hH hS) (fun w => absurd rfl w)
theorem xq_lk_143 : xq_KL.contains (13, 143, 156, 2, (xq_mn 156).2.2.1, 0) = true := by decide +kernel
theorem xq_lk_146 : xq_KL.contains (13, 146, 272, 2, (xq_mn 272).2.2.1, 0) = true := by decide +kernel
set_option maxHeartbeats 1000000 in
theorem xq_case30 (Cx : xq_Cx t p room_1 s mid args meth c 13 false code 4) {Mi b L i : Nat} {xs : Nat → Int32} {Inv : xq_S → Prop} (hFit : xq_Fit Mi Inv) (hX : va_X b L xs s s.heap) (hbl : b < s.heap.size) (hbA : ¬ xq_A t b) (hL : L ≤ 3072) (hi : i + 6 ≤ L) (hp : xq_pair Mi Inv 156 272 (([xs ((nI i).toNatClampNeg + 1)] : List Int32).map Value.int) xq_isI) (hI : Inv x) {H : Heap} {locs : List Loc} {ls : Array Slot} (hH : xq_H t x H) (hS : va_S (xq_A t) s.heap H locs) (hl : lv_has ls 4 [(0, .ref b), (1, .ref (xq_ad t 0)), (2, .ref (xq_ad t Mi)), (3, .int (nI i))]) (kk : ∀ (x2 : xq_S) (H1 : Heap) (locs1 : List Loc), Inv x2 → xq_H t x2 H1 → va_S (xq_A t) s.heap H1 locs1 → W p l e room_1 s mid args below meth c H1 locs1 (xq_N x2) (xq_Z x2) Q (F0 mid 988 ls [])) : W p l e room_1 s mid args below meth c H locs (xq_N x) (xq_Z x) Q (F0 mid 965 ls []) := by
  obtain ⟨F, v, x1, x2, ⟨z, rfl⟩, h1, hm1, hm2, h2, hI2⟩ := hp x hI
  obtain ⟨f1, f2, -, -, -⟩ := hFit x hI
  obtain ⟨-, -, g3, g4, -⟩ := hFit x2 hI2
  have hle := xq_le_x _ _ _ _ _ _ _ _ _ h2
  have hx := Cx.1
  have hb := Cx.2.1
  obtain ⟨i1, j1⟩ := xq_ix (k := 1) hi hL (by decide)
  refine lv_aload_n hx hb xq_lw_965 rfl (lv_at hl 1 rfl) ?_
  refine lv_aload_n hx hb xq_lw_966 rfl (lv_at hl 0 rfl) ?_
  refine lv_iload_n hx hb xq_lw_967 rfl (lv_at hl 3 rfl) ?_
  refine lv_iconst (v := nI 1) hx hb xq_lw_968 (by decide) ?_
  refine lv_iadd hx hb xq_lw_969 ?_
  refine va_sld hx hb hX hbl hbA hS i1 xq_lw_970 ?_
  rw [j1]
  refine xq_lawcall (ra := 0) (zs := [xs ((nI i).toNatClampNeg + 1)]) (r := []) Cx xq_lw_971 xq_lk_143 f1 (f2.trans (by decide +kernel)) (Nat.zero_le _) h1 (Nat.le_trans hle.1 g3) (Nat.le_trans hle.2 g4) hl.1 hH hS (fun H locs hH hS => ?_)
  refine lv_aload_n hx hb xq_lw_974 rfl (lv_at hl 2 rfl) ?_
  refine lv_aload_n hx hb xq_lw_975 rfl (lv_at hl 0 rfl) ?_
  refine lv_iload_n hx hb xq_lw_976 rfl (lv_at hl 3 rfl) ?_
  refine lv_iconst (v := nI 1) hx hb xq_lw_977 (by decide) ?_
  refine lv_iadd hx hb xq_lw_978 ?_
  refine va_sld hx hb hX hbl hbA hS i1 xq_lw_979 ?_
  rw [j1]
  refine xq_lawcall (ra := Mi) (zs := [xs ((nI i).toNatClampNeg + 1)]) (r := [.int z]) Cx xq_lw_980 xq_lk_146 hm1 (hm2.trans (by decide +kernel)) (Nat.le_of_ble_eq_true rfl) h2 g3 g4 hl.1 hH hS (fun H locs hH hS => ?_)
  exact lv_icmp_eq (tgt := 988) hx hb xq_lw_983 (by decide) (fun _ => kk x2 H locs hI2 hH hS) (fun w => absurd rfl w)
end xq_law
