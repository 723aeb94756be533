/-! literals: length() and charAt(); their methods, and what is said of their words -/
def xq_yl : MethodName := ⟨"java/lang/String", "length", "()I"⟩
theorem xq_yl_c : Cond.code xq_yl prog_18_method_54_code 1 (some .int) ∈ xq_gw := xq_t3 (List.mem_of_getElem? (i := 113) rfl) rfl
theorem xq_yl_n : Cond.initialized "java/lang/String" ∈ xq_gw := xq_t1 (List.mem_of_getElem? (i := 16) rfl) rfl
theorem xq_yl_s : Cond.instanceMethod xq_yl ∈ xq_gw := xq_t3 (List.mem_of_getElem? (i := 111) rfl) rfl
theorem xq_yl_e : Cond.selects "java/lang/String" xq_yl xq_yl ∈ xq_gw := xq_t3 (List.mem_of_getElem? (i := 112) rfl) rfl
def xq_yc : MethodName := ⟨"java/lang/String", "coder", "()B"⟩
theorem xq_yc_c : Cond.code xq_yc prog_18_method_152_code 1 (some .byte) ∈ xq_gw := xq_t3 (List.mem_of_getElem? (i := 117) rfl) rfl
theorem xq_yc_n : Cond.initialized "java/lang/String" ∈ xq_gw := xq_t1 (List.mem_of_getElem? (i := 16) rfl) rfl
theorem xq_yc_s : Cond.instanceMethod xq_yc ∈ xq_gw := xq_t3 (List.mem_of_getElem? (i := 115) rfl) rfl
theorem xq_yc_e : Cond.selects "java/lang/String" xq_yc xq_yc ∈ xq_gw := xq_t3 (List.mem_of_getElem? (i := 116) rfl) rfl
def xq_yh : MethodName := ⟨"java/lang/String", "charAt", "(I)C"⟩
theorem xq_yh_c : Cond.code xq_yh prog_18_method_56_code 2 (some .char) ∈ xq_gw := xq_t3 (List.mem_of_getElem? (i := 123) rfl) rfl
theorem xq_yh_n : Cond.initialized "java/lang/String" ∈ xq_gw := xq_t1 (List.mem_of_getElem? (i := 16) rfl) rfl
theorem xq_yh_s : Cond.instanceMethod xq_yh ∈ xq_gw := xq_t3 (List.mem_of_getElem? (i := 121) rfl) rfl
theorem xq_yh_e : Cond.selects "java/lang/String" xq_yh xq_yh ∈ xq_gw := xq_t3 (List.mem_of_getElem? (i := 122) rfl) rfl
def xq_yi : MethodName := ⟨"java/lang/String", "isLatin1", "()Z"⟩
theorem xq_yi_c : Cond.code xq_yi prog_18_method_154_code 1 (some .boolean) ∈ xq_gw := xq_t3 (List.mem_of_getElem? (i := 127) rfl) rfl
theorem xq_yi_n : Cond.initialized "java/lang/String" ∈ xq_gw := xq_t1 (List.mem_of_getElem? (i := 16) rfl) rfl
theorem xq_yi_s : Cond.instanceMethod xq_yi ∈ xq_gw := xq_t3 (List.mem_of_getElem? (i := 125) rfl) rfl
theorem xq_yi_e : Cond.selects "java/lang/String" xq_yi xq_yi ∈ xq_gw := xq_t3 (List.mem_of_getElem? (i := 126) rfl) rfl
def xq_yd : MethodName := ⟨"java/lang/StringLatin1", "charAt", "([BI)C"⟩
theorem xq_yd_c : Cond.code xq_yd prog_19_method_2_code 2 (some .char) ∈ xq_gw := xq_t3 (List.mem_of_getElem? (i := 130) rfl) rfl
theorem xq_yd_n : Cond.initialized "java/lang/StringLatin1" ∈ xq_gw := xq_t1 (List.mem_of_getElem? (i := 17) rfl) rfl
theorem xq_yd_s : Cond.static xq_yd ∈ xq_gw := xq_t3 (List.mem_of_getElem? (i := 129) rfl) rfl
def xq_yk : MethodName := ⟨"java/lang/String", "checkIndex", "(II)V"⟩
theorem xq_yk_c : Cond.code xq_yk prog_18_method_155_code 2 none ∈ xq_gw := xq_t3 (List.mem_of_getElem? (i := 133) rfl) rfl
theorem xq_yk_n : Cond.initialized "java/lang/String" ∈ xq_gw := xq_t1 (List.mem_of_getElem? (i := 16) rfl) rfl
theorem xq_yk_s : Cond.static xq_yk ∈ xq_gw := xq_t3 (List.mem_of_getElem? (i := 132) rfl) rfl
def xq_yp : MethodName := ⟨"jdk/internal/util/Preconditions", "checkIndex", "(IILjava/util/function/BiFunction;)I"⟩
theorem xq_yp_c : Cond.code xq_yp prog_23_method_11_code 3 (some .int) ∈ xq_gw := xq_t3 (List.mem_of_getElem? (i := 138) rfl) rfl
theorem xq_yp_n : Cond.initialized "jdk/internal/util/Preconditions" ∈ xq_gw := xq_t1 (List.mem_of_getElem? (i := 18) rfl) rfl
theorem xq_yp_s : Cond.static xq_yp ∈ xq_gw := xq_t3 (List.mem_of_getElem? (i := 137) rfl) rfl
def xq_yf : MethodName := ⟨"java/util/Arrays", "fill", "([JJ)V"⟩
theorem xq_yf_c : Cond.code xq_yf prog_22_method_101_code 5 none ∈ xq_gw := xq_t5 (List.mem_of_getElem? (i := 161) rfl) rfl
theorem xq_yf_n : Cond.initialized "java/util/Arrays" ∈ xq_gw := xq_t1 (List.mem_of_getElem? (i := 20) rfl) rfl
theorem xq_yf_s : Cond.static xq_yf ∈ xq_gw := xq_t5 (List.mem_of_getElem? (i := 160) rfl) rfl
theorem xq_yc_l : Cond.methodLink "java/lang/String" 335 xq_yc ∈ xq_gw := xq_t3 (List.mem_of_getElem? (i := 114) rfl) rfl
theorem xq_yi_l : Cond.methodLink "java/lang/String" 492 xq_yi ∈ xq_gw := xq_t3 (List.mem_of_getElem? (i := 124) rfl) rfl
theorem xq_yd_l : Cond.methodLink "java/lang/String" 495 xq_yd ∈ xq_gw := xq_t3 (List.mem_of_getElem? (i := 128) rfl) rfl
theorem xq_yk_l : Cond.methodLink "java/lang/StringLatin1" 9 xq_yk ∈ xq_gw := xq_t3 (List.mem_of_getElem? (i := 131) rfl) rfl
theorem xq_yp_l : Cond.methodLink "java/lang/String" 1059 xq_yp ∈ xq_gw := xq_t3 (List.mem_of_getElem? (i := 136) rfl) rfl
theorem xq_f1_l : Cond.fieldLink "java/lang/String" 9 "java/lang/String" "value" "[B" ∈ xq_gw := xq_t8 (List.mem_of_getElem? (i := 150) rfl) rfl
theorem xq_f2_l : Cond.fieldLink "java/lang/String" 15 "java/lang/String" "coder" "B" ∈ xq_gw := xq_t8 (List.mem_of_getElem? (i := 151) rfl) rfl
theorem xq_f3_l : Cond.fieldLink "java/lang/String" 38 "java/lang/String" "COMPACT_STRINGS" "Z" ∈ xq_gw := xq_t3 (List.mem_of_getElem? (i := 118) rfl) rfl
theorem xq_f4_l : Cond.fieldLink "java/lang/String" 1053 "jdk/internal/util/Preconditions" "SIOOBE_FORMATTER" "Ljava/util/function/BiFunction;" ∈ xq_gw := xq_t3 (List.mem_of_getElem? (i := 134) rfl) rfl
theorem xq_yl_0 : decode prog_18_method_54_code 0 = .ok (.aload_n 0, 1) := by decide +kernel
theorem xq_yl_1 : decode prog_18_method_54_code 1 = .ok (.getfield 9, 3) := by decide +kernel
theorem xq_yl_4 : decode prog_18_method_54_code 4 = .ok (.arraylength, 1) := by decide +kernel
theorem xq_yl_5 : decode prog_18_method_54_code 5 = .ok (.aload_n 0, 1) := by decide +kernel
theorem xq_yl_6 : decode prog_18_method_54_code 6 = .ok (.invokevirtual 335, 3) := by decide +kernel
theorem xq_yl_9 : decode prog_18_method_54_code 9 = .ok (.ishr, 1) := by decide +kernel
theorem xq_yl_10 : decode prog_18_method_54_code 10 = .ok (.ireturn, 1) := by decide +kernel
theorem xq_yc_0 : decode prog_18_method_152_code 0 = .ok (.getstatic 38, 3) := by decide +kernel
theorem xq_yc_3 : decode prog_18_method_152_code 3 = .ok (.ifCond .eq 10, 3) := by decide +kernel
theorem xq_yc_6 : decode prog_18_method_152_code 6 = .ok (.aload_n 0, 1) := by decide +kernel
theorem xq_yc_7 : decode prog_18_method_152_code 7 = .ok (.getfield 15, 3) := by decide +kernel
theorem xq_yc_10 : decode prog_18_method_152_code 10 = .ok (.goto 4, 3) := by decide +kernel
theorem xq_yc_13 : decode prog_18_method_152_code 13 = .ok (.iconst 1, 1) := by decide +kernel
theorem xq_yc_14 : decode prog_18_method_152_code 14 = .ok (.ireturn, 1) := by decide +kernel
theorem xq_yh_0 : decode prog_18_method_56_code 0 = .ok (.aload_n 0, 1) := by decide +kernel
theorem xq_yh_1 : decode prog_18_method_56_code 1 = .ok (.invokevirtual 492, 3) := by decide +kernel
theorem xq_yh_4 : decode prog_18_method_56_code 4 = .ok (.ifCond .eq 12, 3) := by decide +kernel
theorem xq_yh_7 : decode prog_18_method_56_code 7 = .ok (.aload_n 0, 1) := by decide +kernel
theorem xq_yh_8 : decode prog_18_method_56_code 8 = .ok (.getfield 9, 3) := by decide +kernel
theorem xq_yh_11 : decode prog_18_method_56_code 11 = .ok (.iload_n 1, 1) := by decide +kernel
theorem xq_yh_12 : decode prog_18_method_56_code 12 = .ok (.invokestatic 495, 3) := by decide +kernel
theorem xq_yh_15 : decode prog_18_method_56_code 15 = .ok (.ireturn, 1) := by decide +kernel
theorem xq_yh_16 : decode prog_18_method_56_code 16 = .ok (.aload_n 0, 1) := by decide +kernel
theorem xq_yh_17 : decode prog_18_method_56_code 17 = .ok (.getfield 9, 3) := by decide +kernel
theorem xq_yh_20 : decode prog_18_method_56_code 20 = .ok (.iload_n 1, 1) := by decide +kernel
theorem xq_yh_21 : decode prog_18_method_56_code 21 = .ok (.invokestatic 498, 3) := by decide +kernel
theorem xq_yh_24 : decode prog_18_method_56_code 24 = .ok (.ireturn, 1) := by decide +kernel
theorem xq_yi_0 : decode prog_18_method_154_code 0 = .ok (.getstatic 38, 3) := by decide +kernel
theorem xq_yi_3 : decode prog_18_method_154_code 3 = .ok (.ifCond .eq 14, 3) := by decide +kernel
theorem xq_yi_6 : decode prog_18_method_154_code 6 = .ok (.aload_n 0, 1) := by decide +kernel
theorem xq_yi_7 : decode prog_18_method_154_code 7 = .ok (.getfield 15, 3) := by decide +kernel
theorem xq_yi_10 : decode prog_18_method_154_code 10 = .ok (.ifCond .ne 7, 3) := by decide +kernel
theorem xq_yi_13 : decode prog_18_method_154_code 13 = .ok (.iconst 1, 1) := by decide +kernel
theorem xq_yi_14 : decode prog_18_method_154_code 14 = .ok (.goto 4, 3) := by decide +kernel
theorem xq_yi_17 : decode prog_18_method_154_code 17 = .ok (.iconst 0, 1) := by decide +kernel
theorem xq_yi_18 : decode prog_18_method_154_code 18 = .ok (.ireturn, 1) := by decide +kernel
theorem xq_yd_0 : decode prog_19_method_2_code 0 = .ok (.iload_n 1, 1) := by decide +kernel
theorem xq_yd_1 : decode prog_19_method_2_code 1 = .ok (.aload_n 0, 1) := by decide +kernel
theorem xq_yd_2 : decode prog_19_method_2_code 2 = .ok (.arraylength, 1) := by decide +kernel
theorem xq_yd_3 : decode prog_19_method_2_code 3 = .ok (.invokestatic 9, 3) := by decide +kernel
theorem xq_yd_6 : decode prog_19_method_2_code 6 = .ok (.aload_n 0, 1) := by decide +kernel
theorem xq_yd_7 : decode prog_19_method_2_code 7 = .ok (.iload_n 1, 1) := by decide +kernel
theorem xq_yd_8 : decode prog_19_method_2_code 8 = .ok (.baload, 1) := by decide +kernel
theorem xq_yd_9 : decode prog_19_method_2_code 9 = .ok (.sipush 255, 3) := by decide +kernel
theorem xq_yd_12 : decode prog_19_method_2_code 12 = .ok (.iand, 1) := by decide +kernel
theorem xq_yd_13 : decode prog_19_method_2_code 13 = .ok (.i2c, 1) := by decide +kernel
theorem xq_yd_14 : decode prog_19_method_2_code 14 = .ok (.ireturn, 1) := by decide +kernel
theorem xq_yk_0 : decode prog_18_method_155_code 0 = .ok (.iload_n 0, 1) := by decide +kernel
theorem xq_yk_1 : decode prog_18_method_155_code 1 = .ok (.iload_n 1, 1) := by decide +kernel
theorem xq_yk_2 : decode prog_18_method_155_code 2 = .ok (.getstatic 1053, 3) := by decide +kernel
theorem xq_yk_5 : decode prog_18_method_155_code 5 = .ok (.invokestatic 1059, 3) := by decide +kernel
theorem xq_yk_8 : decode prog_18_method_155_code 8 = .ok (.pop, 1) := by decide +kernel
theorem xq_yk_9 : decode prog_18_method_155_code 9 = .ok (.return_, 1) := by decide +kernel
theorem xq_yp_0 : decode prog_23_method_11_code 0 = .ok (.iload_n 0, 1) := by decide +kernel
theorem xq_yp_1 : decode prog_23_method_11_code 1 = .ok (.ifCond .lt 8, 3) := by decide +kernel
theorem xq_yp_4 : decode prog_23_method_11_code 4 = .ok (.iload_n 0, 1) := by decide +kernel
theorem xq_yp_5 : decode prog_23_method_11_code 5 = .ok (.iload_n 1, 1) := by decide +kernel
theorem xq_yp_6 : decode prog_23_method_11_code 6 = .ok (.if_icmp .lt 10, 3) := by decide +kernel
theorem xq_yp_9 : decode prog_23_method_11_code 9 = .ok (.aload_n 2, 1) := by decide +kernel
theorem xq_yp_10 : decode prog_23_method_11_code 10 = .ok (.iload_n 0, 1) := by decide +kernel
theorem xq_yp_11 : decode prog_23_method_11_code 11 = .ok (.iload_n 1, 1) := by decide +kernel
theorem xq_yp_12 : decode prog_23_method_11_code 12 = .ok (.invokestatic 95, 3) := by decide +kernel
theorem xq_yp_15 : decode prog_23_method_11_code 15 = .ok (.athrow, 1) := by decide +kernel
theorem xq_yp_16 : decode prog_23_method_11_code 16 = .ok (.iload_n 0, 1) := by decide +kernel
theorem xq_yp_17 : decode prog_23_method_11_code 17 = .ok (.ireturn, 1) := by decide +kernel
theorem xq_yf_0 : decode prog_22_method_101_code 0 = .ok (.iconst 0, 1) := by decide +kernel
theorem xq_yf_1 : decode prog_22_method_101_code 1 = .ok (.istore_n 3, 1) := by decide +kernel
theorem xq_yf_2 : decode prog_22_method_101_code 2 = .ok (.aload_n 0, 1) := by decide +kernel
theorem xq_yf_3 : decode prog_22_method_101_code 3 = .ok (.arraylength, 1) := by decide +kernel
theorem xq_yf_4 : decode prog_22_method_101_code 4 = .ok (.istore 4, 2) := by decide +kernel
theorem xq_yf_6 : decode prog_22_method_101_code 6 = .ok (.iload_n 3, 1) := by decide +kernel
theorem xq_yf_7 : decode prog_22_method_101_code 7 = .ok (.iload 4, 2) := by decide +kernel
theorem xq_yf_9 : decode prog_22_method_101_code 9 = .ok (.if_icmp .ge 13, 3) := by decide +kernel
theorem xq_yf_12 : decode prog_22_method_101_code 12 = .ok (.aload_n 0, 1) := by decide +kernel
theorem xq_yf_13 : decode prog_22_method_101_code 13 = .ok (.iload_n 3, 1) := by decide +kernel
theorem xq_yf_14 : decode prog_22_method_101_code 14 = .ok (.lload_n 1, 1) := by decide +kernel
theorem xq_yf_15 : decode prog_22_method_101_code 15 = .ok (.lastore, 1) := by decide +kernel
theorem xq_yf_16 : decode prog_22_method_101_code 16 = .ok (.iinc 3 1, 3) := by decide +kernel
theorem xq_yf_19 : decode prog_22_method_101_code 19 = .ok (.goto (-13), 3) := by decide +kernel
theorem xq_yf_22 : decode prog_22_method_101_code 22 = .ok (.return_, 1) := by decide +kernel
theorem xq_goodIn {ws : List Cond} (h : ∀ w ∈ ws, w ∈ xq_gw) : GoodIn xq_gw ws := fun w hw => ⟨h w hw, good_of_word (List.mem_filter.mp (h w hw)).2⟩
theorem xq_goodC {w : Cond} (h : w ∈ xq_gw) : ∀ v ∈ (w :: xq_gw), v ∈ xq_gw := fun v hv => (List.mem_cons.mp hv).elim (fun e => e ▸ h) id
theorem xq_good4 {a b c d : Cond} {ws : List Cond} (ha : a ∈ xq_gw) (hb : b ∈ xq_gw) (hc : c ∈ xq_gw) (hd : d ∈ xq_gw) (h : ∀ w ∈ ws, w ∈ xq_gw) : ∀ w ∈ (([a, b, c, d] : List Cond) ++ ws), w ∈ xq_gw := by
  intro w hw
  rcases List.mem_append.mp hw with h1 | h1
  · simp only [List.mem_cons, List.not_mem_nil, or_false] at h1
    rcases h1 with rfl | rfl | rfl | rfl <;> assumption
  · exact h w h1
theorem xq_good3 {a b c : Cond} {ws : List Cond} (ha : a ∈ xq_gw) (hb : b ∈ xq_gw) (hc : c ∈ xq_gw) (h : ∀ w ∈ ws, w ∈ xq_gw) : ∀ w ∈ (([a, b, c] : List Cond) ++ ws), w ∈ xq_gw := by
  intro w hw
  rcases List.mem_append.mp hw with h1 | h1
  · simp only [List.mem_cons, List.not_mem_nil, or_false] at h1
    rcases h1 with rfl | rfl | rfl <;> assumption
  · exact h w h1
theorem xq_tl {w : Cond} {args : Array Value} {s : State} (h : ∀ v ∈ (w :: xq_gw), v.before args s = true) : ∀ v ∈ xq_gw, v.before args s = true := fun v hv => h v (List.mem_cons_of_mem _ hv)
/-- the answer is v, the heap as it was -/
def xq_Qp (v : Option Value) : Array Value → State → Outcome → State → Prop := fun _ st o t => o = .returned v ∧ t.heap = st.heap
theorem xq_EE_same {t : xq_Th} {U V : State} (hv : V.vm = U.vm) (hh : V.heap = U.heap) (h : xq_EE t U) : xq_EE t V := by
  have hW : U.WarmedH V.vm := by rw [hv]; exact State.WarmedH.refl U
  exact h.moved (locs := []) hW (by rw [hh]; exact va_S.rf)
theorem xq_blind {t : xq_Th} {av : List Value} : FrameBlind (va_Pc av (fun U => xq_EE t U)) := fun a U g mk h => ⟨h.1, xq_EE_same (U := U) rfl rfl h.2⟩
section xq_strs
variable {p : Program} {l : Launch} {e : Env} {R : Room} {s : State} {m : MethodId} {args : Array Value} {below : List Frame} {meth : Method} {c : Code} {H : Heap} {locs : List Loc} {cells slots : Nat} {Q : State → Prop}
theorem xq_callp {pc : Nat} {ls : Array Slot} {st0 rest : List Value} {v : Option Value} {a : Array Value} (hr : va_Run p l e R s m args below meth c H locs cells slots 0 0 (F0 m pc ls st0) rest (xq_Qp v a) (fun _ => False)) (kk : W p l e R s m args below meth c H locs cells slots Q (F0 m (pc + 3) ls (v.toList ++ rest))) : W p l e R s m args below meth c H locs cells slots Q (F0 m pc ls st0) := by
  intro T hT X
  obtain ⟨v', st₀, t, T', L, h0, X', hL, e1, e2, ⟨hv, hh⟩, st⟩ := hr T hT X
  cases hv
  obtain ⟨t2, a1, b1⟩ := kk T' (by rw [e1, hh, h0]) (Stand.forget X' (fun q h => (hL q h).elim))
  exact ⟨t2, st t2 a1, b1⟩
end xq_strs
theorem xq_PreS {t : xq_Th} {s : State} {H : Heap} {locs : List Loc} (hE : xq_EE t s) (hS : va_S (xq_A t) s.heap H locs) (As : List Value) : PreS s H (va_Pc As (fun U => xq_EE t U)) As := ⟨xq_blind, fun U hU hW => ⟨rfl, hE.moved hW (by rw [hU]; exact hS)⟩⟩
set_option maxHeartbeats 1000000 in
theorem xq_m_coder (l : Launch) (t : xq_Th) {j : Nat} (hj : j < 32) : Met l xq_yc (Cond.code xq_yc prog_18_method_152_code 1 (some .byte) :: xq_gw) ({ frames := 0, cells := 0, slots := 0, locals := 0 }) (va_Pc [.ref (t.2.2.2.1 j)] (fun U => xq_EE t U)) (xq_Qp (some (.int 0))) 0 0 (fun _ => False) := by
  refine va_MetF (cc := prog_18_method_152_code) (maxL := 1) (ret := some .byte) (by decide +kernel) rfl ?_
  intro p e s m args below meth c s₁ B hml hv
  obtain ⟨rfl, hE⟩ := hv
  have hx := B.exec
  have hb := B.bytes
  have hr := B.returns
  have hts := xq_tl (atoms_spec (ws := Cond.code xq_yc prog_18_method_152_code 1 (some .byte) :: xq_gw) B.pre)
  have hown : s.vm.findClass "java/lang/String" = some m.cls := findClass_of_methodNamed B.named
  have hlocks := B.notSynchronized
  have hS : va_S (xq_A t) s.heap s.heap [] := va_S.rf
  have hl := lv_entry ([.ref (t.2.2.2.1 j)]) (n := 1) (Nat.le_of_ble_eq_true rfl)
  rw [lg_entry_eq]
  generalize (lg_sl ([.ref (t.2.2.2.1 j)]) ++ List.replicate (1 - (lg_sl ([.ref (t.2.2.2.1 j)])).length) Slot.unset).toArray = ls at hl ⊢
  have hl : lv_has ls 1 [(0, .ref (t.2.2.2.1 j))] := hl
  refine va_gets hx hb hE.1.2.2.2.2.2.2.2.1 hS hown (hts _ xq_f3_l) (fun _ h => h) xq_yc_0 ?_
  refine lv_if_eq (tgt := 13) hx hb xq_yc_3 (by decide) (fun z => absurd z (by decide)) (fun _ => ?_)
  refine lv_aload_n hx hb xq_yc_6 rfl (lv_at hl 0 rfl) ?_
  refine vk_getf hx hb (hE.1.2.2.1 j hj).2.1 hS hown (hts _ xq_f2_l) (fun _ h => h) xq_yc_7 ?_
  refine lv_goto (tgt := 14) hx hb xq_yc_10 (by decide) ?_
  exact W.zret (v := 0) hx hb hr (by decide) (fun t' ht _ => ⟨rfl, ht⟩) (fun q h => by cases h) xq_yc_14
set_option maxHeartbeats 1000000 in
theorem xq_m_latin (l : Launch) (t : xq_Th) {j : Nat} (hj : j < 32) : Met l xq_yi (Cond.code xq_yi prog_18_method_154_code 1 (some .boolean) :: xq_gw) ({ frames := 0, cells := 0, slots := 0, locals := 0 }) (va_Pc [.ref (t.2.2.2.1 j)] (fun U => xq_EE t U)) (xq_Qp (some (.int 1))) 0 0 (fun _ => False) := by
  refine va_MetF (cc := prog_18_method_154_code) (maxL := 1) (ret := some .boolean) (by decide +kernel) rfl ?_
  intro p e s m args below meth c s₁ B hml hv
  obtain ⟨rfl, hE⟩ := hv
  have hx := B.exec
  have hb := B.bytes
  have hr := B.returns
  have hts := xq_tl (atoms_spec (ws := Cond.code xq_yi prog_18_method_154_code 1 (some .boolean) :: xq_gw) B.pre)
  have hown : s.vm.findClass "java/lang/String" = some m.cls := findClass_of_methodNamed B.named
  have hlocks := B.notSynchronized
  have hS : va_S (xq_A t) s.heap s.heap [] := va_S.rf
  have hl := lv_entry ([.ref (t.2.2.2.1 j)]) (n := 1) (Nat.le_of_ble_eq_true rfl)
  rw [lg_entry_eq]
  generalize (lg_sl ([.ref (t.2.2.2.1 j)]) ++ List.replicate (1 - (lg_sl ([.ref (t.2.2.2.1 j)])).length) Slot.unset).toArray = ls at hl ⊢
  have hl : lv_has ls 1 [(0, .ref (t.2.2.2.1 j))] := hl
  refine va_gets hx hb hE.1.2.2.2.2.2.2.2.1 hS hown (hts _ xq_f3_l) (fun _ h => h) xq_yi_0 ?_
  refine lv_if_eq (tgt := 17) hx hb xq_yi_3 (by decide) (fun z => absurd z (by decide)) (fun _ => ?_)
  refine lv_aload_n hx hb xq_yi_6 rfl (lv_at hl 0 rfl) ?_
  refine vk_getf hx hb (hE.1.2.2.1 j hj).2.1 hS hown (hts _ xq_f2_l) (fun _ h => h) xq_yi_7 ?_
  refine lv_if_ne (tgt := 17) hx hb xq_yi_10 (by decide) (fun z => absurd rfl z) (fun _ => ?_)
  refine lv_iconst (v := 1) hx hb xq_yi_13 (by decide) ?_
  refine lv_goto (tgt := 18) hx hb xq_yi_14 (by decide) ?_
  exact W.zret (v := 1) hx hb hr (by decide) (fun t' ht _ => ⟨rfl, ht⟩) (fun q h => by cases h) xq_yi_18
set_option maxHeartbeats 1000000 in
theorem xq_m_len (l : Launch) (t : xq_Th) {j : Nat} (hj : j < 32) : Met l xq_yl (Cond.code xq_yl prog_18_method_54_code 1 (some .int) :: xq_gw) ({ frames := 1, cells := 0, slots := 0, locals := 40 }) (va_Pc [.ref (t.2.2.2.1 j)] (fun U => xq_EE t U)) (xq_Qp (some (.int (nI (xq_tx.getD j []).length)))) 0 0 (fun _ => False) := by
  refine va_MetF (cc := prog_18_method_54_code) (maxL := 1) (ret := some .int) (by decide +kernel) rfl ?_
  intro p e s m args below meth c s₁ B hml hv
  obtain ⟨rfl, hE⟩ := hv
  have hx := B.exec
  have hb := B.bytes
  have hr := B.returns
  have hts := xq_tl (atoms_spec (ws := Cond.code xq_yl prog_18_method_54_code 1 (some .int) :: xq_gw) B.pre)
  have hown : s.vm.findClass "java/lang/String" = some m.cls := findClass_of_methodNamed B.named
  have hlocks := B.notSynchronized
  have hS : va_S (xq_A t) s.heap s.heap [] := va_S.rf
  have hl := lv_entry ([.ref (t.2.2.2.1 j)]) (n := 1) (Nat.le_of_ble_eq_true rfl)
  rw [lg_entry_eq]
  generalize (lg_sl ([.ref (t.2.2.2.1 j)]) ++ List.replicate (1 - (lg_sl ([.ref (t.2.2.2.1 j)])).length) Slot.unset).toArray = ls at hl ⊢
  have hl : lv_has ls 1 [(0, .ref (t.2.2.2.1 j))] := hl
  refine lv_aload_n hx hb xq_yl_0 rfl (lv_at hl 0 rfl) ?_
  refine vk_getf hx hb (hE.1.2.2.1 j hj).2.2.1 hS hown (hts _ xq_f1_l) (fun _ h => h) xq_yl_1 ?_
  refine va_tlen hx hb (hE.1.2.2.1 j hj).2.2.2 hS rfl xq_yl_4 ?_
  refine lv_aload_n hx hb xq_yl_5 rfl (lv_at hl 0 rfl) ?_
  obtain ⟨cell, g1, g2, g3, -⟩ := (hE.1.2.2.1 j hj).1
  refine xq_callp (va_runV (As := []) (rest := [.int (Int32.ofNat (xq_tx.getD j []).length)]) ⟨hx, hb, hml, hown, hts⟩ (xq_m_coder l t hj) (cwV 0 hts (xq_goodIn (xq_good4 xq_yc_l xq_yc_s xq_yc_e xq_yc_n (xq_goodC xq_yc_c))) rfl rfl rfl (by decide +kernel) ⟨Nat.le_of_ble_eq_true rfl, Nat.le_of_ble_eq_true rfl⟩) ⟨xq_blind, ⟨cell, g1, g2, g3⟩, (xq_PreS hE hS _).2⟩ rfl rfl hl.1 rfl (lv_room (Nat.le_of_ble_eq_true rfl)) xq_yl_6 ⟨Nat.zero_le _, Nat.zero_le _⟩) ?_
  refine lv_ishr hx hb xq_yl_9 ?_
  have e1 : Int32.ofNat (xq_tx.getD j []).length >>> ((0 : Int32) &&& 31) = nI (xq_tx.getD j []).length := sb_shr0 _
  rw [e1]
  exact W.iret hx hb hr (fun t' ht _ => ⟨rfl, ht⟩) (fun q h => by cases h) xq_yl_10
set_option maxHeartbeats 1000000 in
theorem xq_m_pre (l : Launch) (t : xq_Th) {i n : Int32} {f : Value} (hi : ¬ i < 0) (hn : i < n) (hf : f = .null ∨ ∃ a, f = .ref a) : Met l xq_yp (Cond.code xq_yp prog_23_method_11_code 3 (some .int) :: xq_gw) ({ frames := 0, cells := 0, slots := 0, locals := 0 }) (va_Pc [.int i, .int n, f] (fun U => xq_EE t U)) (xq_Qp (some (.int i))) 0 0 (fun _ => False) := by
  refine va_MetF (cc := prog_23_method_11_code) (maxL := 3) (ret := some .int) (by decide +kernel) rfl ?_
  intro p e s m args below meth c s₁ B hml hv
  obtain ⟨rfl, hE⟩ := hv
  have hx := B.exec
  have hb := B.bytes
  have hr := B.returns
  have hlocks := B.notSynchronized
  have hc : (lg_sl ([.int i, .int n, f])).length ≤ 3 := by rcases hf with rfl | ⟨a, rfl⟩ <;> exact Nat.le_of_ble_eq_true rfl
  have hl := lv_entry ([.int i, .int n, f]) (n := 3) hc
  rw [lg_entry_eq]
  generalize (lg_sl ([.int i, .int n, f]) ++ List.replicate (3 - (lg_sl ([.int i, .int n, f])).length) Slot.unset).toArray = ls at hl ⊢
  have hl : lv_has ls 3 [(0, .int i), (1, .int n), (2, f)] := hl
  refine lv_iload_n hx hb xq_yp_0 rfl (lv_at hl 0 rfl) ?_
  refine lv_if_lt (tgt := 9) hx hb xq_yp_1 (by decide) (fun z => absurd z hi) (fun _ => ?_)
  refine lv_iload_n hx hb xq_yp_4 rfl (lv_at hl 0 rfl) ?_
  refine lv_iload_n hx hb xq_yp_5 rfl (lv_at hl 1 rfl) ?_
  refine lv_icmp_lt (tgt := 16) hx hb xq_yp_6 (by decide) (fun _ => ?_) (fun z => absurd hn z)
  refine lv_iload_n hx hb xq_yp_16 rfl (lv_at hl 0 rfl) ?_
  exact W.iret hx hb hr (fun t' ht _ => ⟨rfl, ht⟩) (fun q h => by cases h) xq_yp_17
set_option maxHeartbeats 1000000 in
theorem xq_m_chk (l : Launch) (t : xq_Th) {i n : Int32} (hi : ¬ i < 0) (hn : i < n) : Met l xq_yk (Cond.code xq_yk prog_18_method_155_code 2 none :: xq_gw) ({ frames := 1, cells := 0, slots := 0, locals := 40 }) (va_Pc [.int i, .int n] (fun U => xq_EE t U)) (xq_Qp none) 0 0 (fun _ => False) := by
  refine va_MetF (cc := prog_18_method_155_code) (maxL := 2) (ret := none) (by decide +kernel) rfl ?_
  intro p e s m args below meth c s₁ B hml hv
  obtain ⟨rfl, hE⟩ := hv
  have hx := B.exec
  have hb := B.bytes
  have hr := B.returns
  have hts := xq_tl (atoms_spec (ws := Cond.code xq_yk prog_18_method_155_code 2 none :: xq_gw) B.pre)
  have hown : s.vm.findClass "java/lang/String" = some m.cls := findClass_of_methodNamed B.named
  have hlocks := B.notSynchronized
  have hS : va_S (xq_A t) s.heap s.heap [] := va_S.rf
  have hl := lv_entry ([.int i, .int n]) (n := 2) (Nat.le_of_ble_eq_true rfl)
  rw [lg_entry_eq]
  generalize (lg_sl ([.int i, .int n]) ++ List.replicate (2 - (lg_sl ([.int i, .int n])).length) Slot.unset).toArray = ls at hl ⊢
  have hl : lv_has ls 2 [(0, .int i), (1, .int n)] := hl
  refine lv_iload_n hx hb xq_yk_0 rfl (lv_at hl 0 rfl) ?_
  refine lv_iload_n hx hb xq_yk_1 rfl (lv_at hl 1 rfl) ?_
  have key : ∀ f : Value, (f = .null ∨ ∃ a, f = .ref a) → W p l e (headSpec (Cond.code xq_yk prog_18_method_155_code 2 none :: xq_gw) { frames := 1, cells := 0, slots := 0, locals := 40 }).room s m #[Value.int i, Value.int n] below meth c s.heap [] 0 0 (MQ below (xq_Qp none) #[Value.int i, Value.int n] s 0 0 (fun _ => False)) (F0 m 5 ls (f :: .int n :: .int i :: [])) := by
    intro f hf
    refine xq_callp (va_runS (As := [.int i, .int n, f]) (rest := []) ⟨hx, hb, hml, hown, hts⟩ (xq_m_pre l t hi hn hf) (va_cwS 3 hts (xq_goodIn (xq_good3 xq_yp_l xq_yp_s xq_yp_n (xq_goodC xq_yp_c))) rfl rfl rfl (by decide +kernel) ⟨Nat.le_of_ble_eq_true rfl, Nat.le_of_ble_eq_true rfl⟩) (xq_PreS hE hS _) rfl rfl hl.1 rfl (lv_room (Nat.le_of_ble_eq_true rfl)) xq_yk_5 ⟨Nat.zero_le _, Nat.zero_le _⟩) ?_
    refine lv_pop hx hb xq_yk_8 rfl ?_
    exact W.vret hx hb hr (fun t' ht _ => ⟨rfl, ht⟩) (fun q h => by cases h) xq_yk_9
  rcases hE.1.2.2.2.2.2.2.2.2 with hZ | ⟨a, hZ⟩
  · exact va_gets hx hb hZ hS hown (hts _ xq_f4_l) (fun _ h => h) xq_yk_2 (key _ (Or.inl rfl))
  · exact va_gets hx hb hZ hS hown (hts _ xq_f4_l) (fun _ h => h) xq_yk_2 (key _ (Or.inr ⟨_, rfl⟩))
theorem xq_tx_ok : ∀ j < 32, (xq_tx.getD j []).all (fun v => decide (v &&& 255 = v) && decide (((v.toUInt32 % 65536).toInt32) = v) && decide (narrow .char (.int v) = .int v)) = true ∧ (xq_tx.getD j []).length < 100 := by decide +kernel
theorem xq_getD_mem {l : List Int32} {k : Nat} (h : k < l.length) : l.getD k 0 ∈ l := by
  rw [List.getD_eq_getElem?_getD, List.getElem?_eq_getElem h]
  exact List.getElem_mem h
theorem xq_tx_at {j : Nat} (hj : j < 32) {k : Nat} (hk : k < (xq_tx.getD j []).length) : ((xq_tx.getD j []).getD k 0) &&& 255 = (xq_tx.getD j []).getD k 0 ∧ ((((xq_tx.getD j []).getD k 0).toUInt32 % 65536).toInt32) = (xq_tx.getD j []).getD k 0 ∧ narrow .char (.int ((xq_tx.getD j []).getD k 0)) = .int ((xq_tx.getD j []).getD k 0) := by
  have h := List.all_eq_true.mp (xq_tx_ok j hj).1 ((xq_tx.getD j []).getD k 0) (xq_getD_mem hk)
  simp only [Bool.and_eq_true, decide_eq_true_eq] at h
  exact ⟨h.1.1, h.1.2, h.2⟩
set_option maxHeartbeats 1000000 in
theorem xq_m_lat (l : Launch) (t : xq_Th) {j : Nat} (hj : j < 32) {i : Int32} (hin : vp_in i (xq_tx.getD j []).length) : Met l xq_yd (Cond.code xq_yd prog_19_method_2_code 2 (some .char) :: xq_gw) ({ frames := 2, cells := 0, slots := 0, locals := 80 }) (va_Pc [.ref (t.2.2.2.2.1 j), .int i] (fun U => xq_EE t U)) (xq_Qp (some (.int ((xq_tx.getD j []).getD i.toNatClampNeg 0)))) 0 0 (fun _ => False) := by
  refine va_MetF (cc := prog_19_method_2_code) (maxL := 2) (ret := some .char) (by decide +kernel) rfl ?_
  intro p e s m args below meth c s₁ B hml hv
  obtain ⟨rfl, hE⟩ := hv
  have hx := B.exec
  have hb := B.bytes
  have hr := B.returns
  have hts := xq_tl (atoms_spec (ws := Cond.code xq_yd prog_19_method_2_code 2 (some .char) :: xq_gw) B.pre)
  have hown : s.vm.findClass "java/lang/StringLatin1" = some m.cls := findClass_of_methodNamed B.named
  have hlocks := B.notSynchronized
  have hS : va_S (xq_A t) s.heap s.heap [] := va_S.rf
  have hl := lv_entry ([.ref (t.2.2.2.2.1 j), .int i]) (n := 2) (Nat.le_of_ble_eq_true rfl)
  rw [lg_entry_eq]
  generalize (lg_sl ([.ref (t.2.2.2.2.1 j), .int i]) ++ List.replicate (2 - (lg_sl ([.ref (t.2.2.2.2.1 j), .int i])).length) Slot.unset).toArray = ls at hl ⊢
  have hl : lv_has ls 2 [(0, .ref (t.2.2.2.2.1 j)), (1, .int i)] := hl
  obtain ⟨k, hk, ek⟩ := vp_in_of hin (by have := (xq_tx_ok j hj).2; omega)
  have hck : i.toNatClampNeg = k := by rw [ek]; exact nI_clamp (by have := (xq_tx_ok j hj).2; omega)
  obtain ⟨q1, q2, q3⟩ := xq_tx_at hj hk
  refine lv_iload_n hx hb xq_yd_0 rfl (lv_at hl 1 rfl) ?_
  refine lv_aload_n hx hb xq_yd_1 rfl (lv_at hl 0 rfl) ?_
  refine va_tlen hx hb (hE.1.2.2.1 j hj).2.2.2 hS rfl xq_yd_2 ?_
  refine xq_callp (va_runS (As := [.int i, .int (Int32.ofNat (xq_tx.getD j []).length)]) (rest := []) ⟨hx, hb, hml, hown, hts⟩ (xq_m_chk l t (fun z => hin (Or.inl z)) (by rw [ek]; exact nI_lt hk (by have := (xq_tx_ok j hj).2; omega))) (va_cwS 2 hts (xq_goodIn (xq_good3 xq_yk_l xq_yk_s xq_yk_n (xq_goodC xq_yk_c))) rfl rfl rfl (by decide +kernel) ⟨Nat.le_of_ble_eq_true rfl, Nat.le_of_ble_eq_true rfl⟩) (xq_PreS hE hS _) rfl rfl hl.1 rfl (lv_room (Nat.le_of_ble_eq_true rfl)) xq_yd_3 ⟨Nat.zero_le _, Nat.zero_le _⟩) ?_
  refine lv_aload_n hx hb xq_yd_6 rfl (lv_at hl 0 rfl) ?_
  refine lv_iload_n hx hb xq_yd_7 rfl (lv_at hl 1 rfl) ?_
  refine va_tb hx hb (hE.1.2.2.1 j hj).2.2.2 hS hin rfl xq_yd_8 ?_
  refine lv_sipush (v := 255) hx hb xq_yd_9 (by decide) ?_
  refine lv_iand hx hb xq_yd_12 ?_
  rw [hck, q1]
  refine lv_i2c hx hb xq_yd_13 q2 ?_
  exact W.zret hx hb hr q3 (fun t' ht _ => ⟨rfl, ht⟩) (fun q h => by cases h) xq_yd_14
set_option maxHeartbeats 1000000 in
theorem xq_m_char (l : Launch) (t : xq_Th) {j : Nat} (hj : j < 32) {i : Int32} (hin : vp_in i (xq_tx.getD j []).length) : Met l xq_yh (Cond.code xq_yh prog_18_method_56_code 2 (some .char) :: xq_gw) ({ frames := 3, cells := 0, slots := 0, locals := 120 }) (va_Pc [.ref (t.2.2.2.1 j), .int i] (fun U => xq_EE t U)) (xq_Qp (some (.int ((xq_tx.getD j []).getD i.toNatClampNeg 0)))) 0 0 (fun _ => False) := by
  refine va_MetF (cc := prog_18_method_56_code) (maxL := 2) (ret := some .char) (by decide +kernel) rfl ?_
  intro p e s m args below meth c s₁ B hml hv
  obtain ⟨rfl, hE⟩ := hv
  have hx := B.exec
  have hb := B.bytes
  have hr := B.returns
  have hts := xq_tl (atoms_spec (ws := Cond.code xq_yh prog_18_method_56_code 2 (some .char) :: xq_gw) B.pre)
  have hown : s.vm.findClass "java/lang/String" = some m.cls := findClass_of_methodNamed B.named
  have hlocks := B.notSynchronized
  have hS : va_S (xq_A t) s.heap s.heap [] := va_S.rf
  have hl := lv_entry ([.ref (t.2.2.2.1 j), .int i]) (n := 2) (Nat.le_of_ble_eq_true rfl)
  rw [lg_entry_eq]
  generalize (lg_sl ([.ref (t.2.2.2.1 j), .int i]) ++ List.replicate (2 - (lg_sl ([.ref (t.2.2.2.1 j), .int i])).length) Slot.unset).toArray = ls at hl ⊢
  have hl : lv_has ls 2 [(0, .ref (t.2.2.2.1 j)), (1, .int i)] := hl
  obtain ⟨k, hk, ek⟩ := vp_in_of hin (by have := (xq_tx_ok j hj).2; omega)
  have hck : i.toNatClampNeg = k := by rw [ek]; exact nI_clamp (by have := (xq_tx_ok j hj).2; omega)
  obtain ⟨q1, q2, q3⟩ := xq_tx_at hj hk
  refine lv_aload_n hx hb xq_yh_0 rfl (lv_at hl 0 rfl) ?_
  obtain ⟨cell, g1, g2, g3, -⟩ := (hE.1.2.2.1 j hj).1
  refine xq_callp (va_runV (As := []) (rest := []) ⟨hx, hb, hml, hown, hts⟩ (xq_m_latin l t hj) (cwV 0 hts (xq_goodIn (xq_good4 xq_yi_l xq_yi_s xq_yi_e xq_yi_n (xq_goodC xq_yi_c))) rfl rfl rfl (by decide +kernel) ⟨Nat.le_of_ble_eq_true rfl, Nat.le_of_ble_eq_true rfl⟩) ⟨xq_blind, ⟨cell, g1, g2, g3⟩, (xq_PreS hE hS _).2⟩ rfl rfl hl.1 rfl (lv_room (Nat.le_of_ble_eq_true rfl)) xq_yh_1 ⟨Nat.zero_le _, Nat.zero_le _⟩) ?_
  refine lv_if_eq (tgt := 16) hx hb xq_yh_4 (by decide) (fun z => absurd z (by decide)) (fun _ => ?_)
  refine lv_aload_n hx hb xq_yh_7 rfl (lv_at hl 0 rfl) ?_
  refine vk_getf hx hb (hE.1.2.2.1 j hj).2.2.1 hS hown (hts _ xq_f1_l) (fun _ h => h) xq_yh_8 ?_
  refine lv_iload_n hx hb xq_yh_11 rfl (lv_at hl 1 rfl) ?_
  refine xq_callp (va_runS (As := [.ref (t.2.2.2.2.1 j), .int i]) (rest := []) ⟨hx, hb, hml, hown, hts⟩ (xq_m_lat l t hj hin) (va_cwS 2 hts (xq_goodIn (xq_good3 xq_yd_l xq_yd_s xq_yd_n (xq_goodC xq_yd_c))) rfl rfl rfl (by decide +kernel) ⟨Nat.le_of_ble_eq_true rfl, Nat.le_of_ble_eq_true rfl⟩) (xq_PreS hE hS _) rfl rfl hl.1 rfl (lv_room (Nat.le_of_ble_eq_true rfl)) xq_yh_12 ⟨Nat.zero_le _, Nat.zero_le _⟩) ?_
  exact W.zret hx hb hr (by rw [hck]; exact q3) (fun t' ht _ => ⟨rfl, ht⟩) (fun q h => by cases h) xq_yh_15
