/-! the law from its entry, over what its calls answer -/
def xq_00 : xq_S := ((0, 0, fun _ => (0, 0), fun _ _ => none), fun _ _ => 0, fun _ _ => 0)
/-- both are made -/
def xq_Init (Mi : Nat) (Inv : xq_S → Prop) : Prop := ∃ (F : Nat) (x1 x2 : xq_S), xq_x F 90 0 (xq_new xq_00 11 10) 0 ([.ref 0] ++ List.replicate ((xq_mn 0).2.2.1 - 1) xq_un) [] = some (none, x1) ∧ xq_N x1 = Mi ∧ Mi < 100000 ∧ xq_x F 90 157 (xq_new x1 12 38) 0 ([.ref Mi] ++ List.replicate ((xq_mn 157).2.2.1 - 1) xq_un) [] = some (none, x2) ∧ Inv x2
def xq_P0 (Mi : Nat) (Inv : xq_S → Prop) : Prop := ∀ z1 : Int32, xq_pair Mi Inv 13 158 (([z1] : List Int32).map Value.int) xq_isI
def xq_P1 (Mi : Nat) (Inv : xq_S → Prop) : Prop := ∀ z1 z2 : Int32, xq_pair Mi Inv 16 160 (([z1, z2] : List Int32).map Value.int) xq_isI
def xq_P2 (Mi : Nat) (Inv : xq_S → Prop) : Prop := ∀ z1 z2 : Int32, xq_pair Mi Inv 17 163 (([z1, xq_bz z2] : List Int32).map Value.int) xq_isI
def xq_P3 (Mi : Nat) (Inv : xq_S → Prop) : Prop := ∀ z1 z2 : Int32, xq_pair Mi Inv 18 164 (([z1, z2] : List Int32).map Value.int) xq_isI
def xq_P4 (Mi : Nat) (Inv : xq_S → Prop) : Prop := ∀ z1 z2 z3 z4 z5 : Int32, xq_pair Mi Inv 21 167 (([z1, z2, z3, z4, z5] : List Int32).map Value.int) xq_isI
def xq_P5 (Mi : Nat) (Inv : xq_S → Prop) : Prop := ∀ z1 : Int32, xq_pair Mi Inv 24 168 (([z1] : List Int32).map Value.int) xq_isI
def xq_P6 (Mi : Nat) (Inv : xq_S → Prop) : Prop := ∀ z1 : Int32, xq_pair Mi Inv 26 169 (([z1] : List Int32).map Value.int) xq_isI
def xq_P7 (Mi : Nat) (Inv : xq_S → Prop) : Prop := ∀ z1 : Int32, xq_pair Mi Inv 68 209 (([z1] : List Int32).map Value.int) xq_isI
def xq_P8 (Mi : Nat) (Inv : xq_S → Prop) : Prop := ∀ z1 : Int32, xq_pair Mi Inv 69 211 (([z1] : List Int32).map Value.int) xq_isI
def xq_P9 (Mi : Nat) (Inv : xq_S → Prop) : Prop := xq_pair Mi Inv 99 242 (([] : List Int32).map Value.int) xq_isI
def xq_P10 (Mi : Nat) (Inv : xq_S → Prop) : Prop := ∀ z1 : Int32, xq_pair Mi Inv 103 260 (([z1] : List Int32).map Value.int) xq_isI
def xq_P11 (Mi : Nat) (Inv : xq_S → Prop) : Prop := ∀ z1 z2 : Int32, xq_pair Mi Inv 113 246 (([z1, z2] : List Int32).map Value.int) xq_isI
def xq_P12 (Mi : Nat) (Inv : xq_S → Prop) : Prop := ∀ z1 z2 : Int32, xq_pair Mi Inv 115 247 (([z1, z2] : List Int32).map Value.int) xq_isI
def xq_P13 (Mi : Nat) (Inv : xq_S → Prop) : Prop := ∀ z1 : Int32, xq_pair Mi Inv 118 248 (([z1] : List Int32).map Value.int) xq_isI
def xq_P14 (Mi : Nat) (Inv : xq_S → Prop) : Prop := ∀ z1 z2 : Int32, xq_pair Mi Inv 119 249 (([z1, z2] : List Int32).map Value.int) xq_isI
def xq_P15 (Mi : Nat) (Inv : xq_S → Prop) : Prop := xq_pair Mi Inv 120 250 (([] : List Int32).map Value.int) xq_isI
def xq_P16 (Mi : Nat) (Inv : xq_S → Prop) : Prop := ∀ z1 : Int32, xq_pair Mi Inv 122 255 (([z1] : List Int32).map Value.int) xq_isI
def xq_P17 (Mi : Nat) (Inv : xq_S → Prop) : Prop := ∀ z1 : Int32, xq_pair Mi Inv 128 257 (([z1] : List Int32).map Value.int) xq_isI
def xq_P18 (Mi : Nat) (Inv : xq_S → Prop) : Prop := xq_pair Mi Inv 130 258 (([] : List Int32).map Value.int) xq_isI
def xq_P19 (Mi : Nat) (Inv : xq_S → Prop) : Prop := ∀ z1 : Int32, xq_pair Mi Inv 132 259 (([z1] : List Int32).map Value.int) xq_isI
def xq_P20 (Mi : Nat) (Inv : xq_S → Prop) : Prop := xq_pair Mi Inv 134 264 (([] : List Int32).map Value.int) xq_isI
def xq_P21 (Mi : Nat) (Inv : xq_S → Prop) : Prop := ∀ z1 : Int32, xq_pair Mi Inv 135 265 (([z1] : List Int32).map Value.int) xq_isJ
def xq_P22 (Mi : Nat) (Inv : xq_S → Prop) : Prop := ∀ z1 : Int32, xq_pair Mi Inv 139 270 (([z1] : List Int32).map Value.int) xq_isI
def xq_P23 (Mi : Nat) (Inv : xq_S → Prop) : Prop := ∀ z1 z2 : Int32, xq_pair Mi Inv 141 268 (([z1, z2] : List Int32).map Value.int) xq_isI
def xq_P24 (Mi : Nat) (Inv : xq_S → Prop) : Prop := ∀ z1 : Int32, xq_pair Mi Inv 143 269 (([z1] : List Int32).map Value.int) xq_isI
def xq_P25 (Mi : Nat) (Inv : xq_S → Prop) : Prop := ∀ z1 z2 : Int32, xq_pair Mi Inv 145 262 (([z1, z2] : List Int32).map Value.int) xq_isI
def xq_P26 (Mi : Nat) (Inv : xq_S → Prop) : Prop := ∀ z1 : Int32, xq_pair Mi Inv 147 261 (([z1] : List Int32).map Value.int) xq_isI
def xq_P27 (Mi : Nat) (Inv : xq_S → Prop) : Prop := ∀ z1 : Int32, xq_pair Mi Inv 149 263 (([z1] : List Int32).map Value.int) xq_isI
def xq_P28 (Mi : Nat) (Inv : xq_S → Prop) : Prop := xq_pair Mi Inv 151 210 (([] : List Int32).map Value.int) xq_isI
def xq_P29 (Mi : Nat) (Inv : xq_S → Prop) : Prop := ∀ z1 : Int32, xq_pair Mi Inv 153 271 (([xq_bz z1] : List Int32).map Value.int) xq_isI
def xq_P30 (Mi : Nat) (Inv : xq_S → Prop) : Prop := ∀ z1 : Int32, xq_pair Mi Inv 156 272 (([z1] : List Int32).map Value.int) xq_isI
def xq_Pairs (Mi : Nat) (Inv : xq_S → Prop) : Prop := xq_P0 Mi Inv ∧ xq_P1 Mi Inv ∧ xq_P2 Mi Inv ∧ xq_P3 Mi Inv ∧ xq_P4 Mi Inv ∧ xq_P5 Mi Inv ∧ xq_P6 Mi Inv ∧ xq_P7 Mi Inv ∧ xq_P8 Mi Inv ∧ xq_P9 Mi Inv ∧ xq_P10 Mi Inv ∧ xq_P11 Mi Inv ∧ xq_P12 Mi Inv ∧ xq_P13 Mi Inv ∧ xq_P14 Mi Inv ∧ xq_P15 Mi Inv ∧ xq_P16 Mi Inv ∧ xq_P17 Mi Inv ∧ xq_P18 Mi Inv ∧ xq_P19 Mi Inv ∧ xq_P20 Mi Inv ∧ xq_P21 Mi Inv ∧ xq_P22 Mi Inv ∧ xq_P23 Mi Inv ∧ xq_P24 Mi Inv ∧ xq_P25 Mi Inv ∧ xq_P26 Mi Inv ∧ xq_P27 Mi Inv ∧ xq_P28 Mi Inv ∧ xq_P29 Mi Inv ∧ xq_P30 Mi Inv
section xq_lawloop
variable {p : Program} {l : Launch} {e : Env} {s : State} {mid : MethodId} {below : List Frame} {meth : Method} {c : Code}
variable {t : xq_Th}
theorem xq_and31 (z : Int32) : ∃ k : Nat, k < 32 ∧ z &&& 31 = nI k := by
  obtain ⟨j, hj, e⟩ := pk_andE z (m := 31) 5 (by decide)
  exact ⟨j, hj, e⟩
set_option maxHeartbeats 4000000 in
set_option maxRecDepth 100000 in
theorem xq_lawloop {Mi b L : Nat} {xs : Nat → Int32} {Inv : xq_S → Prop} (Cx : xq_Cx t p room_1 s mid #[Value.ref b] meth c 13 false code 4) (ht : t.1 = s.heap.size) (hret : meth.sig.returnType = ret) (hFit : xq_Fit Mi Inv) (hP : xq_Pairs Mi Inv) (hX : va_X b L xs s s.heap) (hbl : b < s.heap.size) (hL : L ≤ 3072) : ∀ (n i : Nat), L ≤ i + 6 * n → ∀ (x : xq_S) (H : Heap) (locs : List Loc) (ls : Array Slot), Inv x → xq_H t x H → va_S (xq_A t) s.heap H locs → lv_has ls 4 [(0, .ref b), (1, .ref (xq_ad t 0)), (2, .ref (xq_ad t Mi)), (3, .int (nI i))] → i ≤ 4000 → W p l e room_1 s mid #[Value.ref b] below meth c H locs (xq_N x) (xq_Z x) (lw_Z below #[Value.ref b] s) (F0 mid 18 ls []) := by
  have hbA : ¬ xq_A t b := by show ¬ t.1 ≤ b; omega
  have hx := Cx.1
  have hb := Cx.2.1
  have fin : ∀ (x : xq_S) (H : Heap) (locs : List Loc) (ls : Array Slot), Inv x → va_S (xq_A t) s.heap H locs → W p l e room_1 s mid #[Value.ref b] below meth c H locs (xq_N x) (xq_Z x) (lw_Z below #[Value.ref b] s) (F0 mid 994 ls []) := by
    intro x H locs ls hI hS
    obtain ⟨-, -, f3, f4, -⟩ := hFit x hI
    refine lv_iconst (v := 1) hx hb xq_lw_994 (by decide) ?_
    refine va_forget (fun q hq => ?_) ?_
    · have := hS.2.2 q hq
      have this : t.1 ≤ q.base := this
      omega
    refine W.widen (k := room_1.cells) (n := room_1.slots) f3 f4 ?_
    exact lw_ret hx hb hret Cx.2.2.2.2.2.2.2.1 xq_lw_995
  intro n
  induction n with
  | zero =>
    intro i hi x H locs ls hI hH hS hl hi4
    refine lv_iload_n hx hb xq_lw_18 rfl (lv_at hl 3 rfl) ?_
    refine lv_aload_n hx hb xq_lw_19 rfl (lv_at hl 0 rfl) ?_
    refine va_slen hx hb hX hbl hbA hS xq_lw_20 ?_
    refine lv_bipush (v := 6) hx hb xq_lw_21 (by decide) ?_
    refine lv_isub hx hb xq_lw_23 ?_
    refine lv_icmp_gt (tgt := 994) hx hb xq_lw_24 (by decide) (fun _ => fin x H locs ls hI hS) (fun z => absurd ?_ z)
    show nI L - nI 6 < nI i
    rw [Int32.lt_iff_toInt_lt, nI_toInt (by omega)]
    rcases Nat.lt_or_ge L 6 with q | q
    · rw [pk_sub_toInt (by omega) (by decide)]
      omega
    · rw [pk_sub q, nI_toInt (by omega)]
      omega
  | succ n ih =>
    intro i hi x H locs ls hI hH hS hl hi4
    refine lv_iload_n hx hb xq_lw_18 rfl (lv_at hl 3 rfl) ?_
    refine lv_aload_n hx hb xq_lw_19 rfl (lv_at hl 0 rfl) ?_
    refine va_slen hx hb hX hbl hbA hS xq_lw_20 ?_
    refine lv_bipush (v := 6) hx hb xq_lw_21 (by decide) ?_
    refine lv_isub hx hb xq_lw_23 ?_
    refine lv_icmp_gt (tgt := 994) hx hb xq_lw_24 (by decide) (fun _ => fin x H locs ls hI hS) (fun z => ?_)
    have hi6 : i + 6 ≤ L := by
      have z : ¬ nI L - nI 6 < nI i := z
      rw [Int32.lt_iff_toInt_lt, nI_toInt (by omega)] at z
      rcases Nat.lt_or_ge L 6 with q | q
      · rw [pk_sub_toInt (by omega) (by decide)] at z
        omega
      · rw [pk_sub q, nI_toInt (by omega)] at z
        omega
    have kk : ∀ (x2 : xq_S) (H1 : Heap) (locs1 : List Loc), Inv x2 → xq_H t x2 H1 → va_S (xq_A t) s.heap H1 locs1 → W p l e room_1 s mid #[Value.ref b] below meth c H1 locs1 (xq_N x2) (xq_Z x2) (lw_Z below #[Value.ref b] s) (F0 mid 988 ls []) := by
      intro x2 H1 locs1 g1 g2 g3
      refine lv_iinc (v := nI (i + 6)) (lv' := [(3, .int (nI (i + 6))), (0, .ref b), (1, .ref (xq_ad t 0)), (2, .ref (xq_ad t Mi))]) hx hb xq_lw_988 hl (k := 3) rfl (nI_add i 6) (by decide) rfl (fun ls hl => ?_)
      refine lv_goto (tgt := 18) hx hb xq_lw_991 (by decide) ?_
      exact ih (i + 6) (by omega) x2 H1 locs1 ls g1 g2 g3 (lv_sub hl [1, 2, 3, 0] rfl) (by omega)
    refine lv_aload_n hx hb xq_lw_27 rfl (lv_at hl 0 rfl) ?_
    refine lv_iload_n hx hb xq_lw_28 rfl (lv_at hl 3 rfl) ?_
    refine va_sld hx hb hX hbl hbA hS (vp_in_nI (by omega) (by omega)) xq_lw_29 ?_
    refine lv_bipush (v := 31) hx hb xq_lw_30 (by decide) ?_
    refine lv_iand hx hb xq_lw_32 ?_
    obtain ⟨k, hk, ek⟩ := xq_and31 (xs (nI i).toNatClampNeg)
    rw [ek]
    obtain ⟨p0, p1, p2, p3, p4, p5, p6, p7, p8, p9, p10, p11, p12, p13, p14, p15, p16, p17, p18, p19, p20, p21, p22, p23, p24, p25, p26, p27, p28, p29, p30⟩ := hP
    have tin : ∀ {tgt : Nat} {off : Int}, (nI k).toInt = (k : Int) := fun {_ _} => nI_toInt (by omega)
    match k, hk with
    | 0, _ => exact lv_tableIn (off := 139) (tgt := 172) hx hb xq_lw_33 (by decide) (by decide) (by decide +kernel) (by decide) (xq_case0 Cx hFit hX hbl hbA hL hi6 (p0 (xs ((nI i).toNatClampNeg + 1))) hI hH hS hl kk)
    | 1, _ => exact lv_tableIn (off := 162) (tgt := 195) hx hb xq_lw_33 (by decide) (by decide) (by decide +kernel) (by decide) (xq_case1 Cx hFit hX hbl hbA hL hi6 (p1 (xs ((nI i).toNatClampNeg + 1)) (xs ((nI i).toNatClampNeg + 2))) hI hH hS hl kk)
    | 2, _ => exact lv_tableIn (off := 195) (tgt := 228) hx hb xq_lw_33 (by decide) (by decide) (by decide +kernel) (by decide) (xq_case2 Cx hFit hX hbl hbA hL hi6 (p2 (xs ((nI i).toNatClampNeg + 1)) (xs ((nI i).toNatClampNeg + 2))) hI hH hS hl kk)
    | 3, _ => exact lv_tableIn (off := 244) (tgt := 277) hx hb xq_lw_33 (by decide) (by decide) (by decide +kernel) (by decide) (xq_case3 Cx hFit hX hbl hbA hL hi6 (p3 (xs ((nI i).toNatClampNeg + 1)) (xs ((nI i).toNatClampNeg + 2))) hI hH hS hl kk)
    | 4, _ => exact lv_tableIn (off := 277) (tgt := 310) hx hb xq_lw_33 (by decide) (by decide) (by decide +kernel) (by decide) (xq_case4 Cx hFit hX hbl hbA hL hi6 (p4 (xs ((nI i).toNatClampNeg + 1)) (xs ((nI i).toNatClampNeg + 2)) (xs ((nI i).toNatClampNeg + 3)) (xs ((nI i).toNatClampNeg + 4)) (xs ((nI i).toNatClampNeg + 5))) hI hH hS hl kk)
    | 5, _ => exact lv_tableIn (off := 340) (tgt := 373) hx hb xq_lw_33 (by decide) (by decide) (by decide +kernel) (by decide) (xq_case5 Cx hFit hX hbl hbA hL hi6 (p5 (xs ((nI i).toNatClampNeg + 1))) hI hH hS hl kk)
    | 6, _ => exact lv_tableIn (off := 363) (tgt := 396) hx hb xq_lw_33 (by decide) (by decide) (by decide +kernel) (by decide) (xq_case6 Cx hFit hX hbl hbA hL hi6 (p6 (xs ((nI i).toNatClampNeg + 1))) hI hH hS hl kk)
    | 7, _ => exact lv_tableIn (off := 386) (tgt := 419) hx hb xq_lw_33 (by decide) (by decide) (by decide +kernel) (by decide) (xq_case7 Cx hFit hX hbl hbA hL hi6 (p7 (xs ((nI i).toNatClampNeg + 1))) hI hH hS hl kk)
    | 8, _ => exact lv_tableIn (off := 409) (tgt := 442) hx hb xq_lw_33 (by decide) (by decide) (by decide +kernel) (by decide) (xq_case8 Cx hFit hX hbl hbA hL hi6 (p8 (xs ((nI i).toNatClampNeg + 1))) hI hH hS hl kk)
    | 9, _ => exact lv_tableIn (off := 432) (tgt := 465) hx hb xq_lw_33 (by decide) (by decide) (by decide +kernel) (by decide) (xq_case9 Cx hFit hX hbl hbA hL hi6 p9 hI hH hS hl kk)
    | 10, _ => exact lv_tableIn (off := 445) (tgt := 478) hx hb xq_lw_33 (by decide) (by decide) (by decide +kernel) (by decide) (xq_case10 Cx hFit hX hbl hbA hL hi6 (p10 (xs ((nI i).toNatClampNeg + 1))) hI hH hS hl kk)
    | 11, _ => exact lv_tableIn (off := 468) (tgt := 501) hx hb xq_lw_33 (by decide) (by decide) (by decide +kernel) (by decide) (xq_case11 Cx hFit hX hbl hbA hL hi6 (p11 (xs ((nI i).toNatClampNeg + 1)) (xs ((nI i).toNatClampNeg + 2))) hI hH hS hl kk)
    | 12, _ => exact lv_tableIn (off := 501) (tgt := 534) hx hb xq_lw_33 (by decide) (by decide) (by decide +kernel) (by decide) (xq_case12 Cx hFit hX hbl hbA hL hi6 (p12 (xs ((nI i).toNatClampNeg + 1)) (xs ((nI i).toNatClampNeg + 2))) hI hH hS hl kk)
    | 13, _ => exact lv_tableIn (off := 534) (tgt := 567) hx hb xq_lw_33 (by decide) (by decide) (by decide +kernel) (by decide) (xq_case13 Cx hFit hX hbl hbA hL hi6 (p13 (xs ((nI i).toNatClampNeg + 1))) hI hH hS hl kk)
    | 14, _ => exact lv_tableIn (off := 557) (tgt := 590) hx hb xq_lw_33 (by decide) (by decide) (by decide +kernel) (by decide) (xq_case14 Cx hFit hX hbl hbA hL hi6 (p14 (xs ((nI i).toNatClampNeg + 1)) (xs ((nI i).toNatClampNeg + 2))) hI hH hS hl kk)
    | 15, _ => exact lv_tableIn (off := 590) (tgt := 623) hx hb xq_lw_33 (by decide) (by decide) (by decide +kernel) (by decide) (xq_case15 Cx hFit hX hbl hbA hL hi6 p15 hI hH hS hl kk)
    | 16, _ => exact lv_tableIn (off := 603) (tgt := 636) hx hb xq_lw_33 (by decide) (by decide) (by decide +kernel) (by decide) (xq_case16 Cx hFit hX hbl hbA hL hi6 (p16 (xs ((nI i).toNatClampNeg + 1))) hI hH hS hl kk)
    | 17, _ => exact lv_tableIn (off := 626) (tgt := 659) hx hb xq_lw_33 (by decide) (by decide) (by decide +kernel) (by decide) (xq_case17 Cx hFit hX hbl hbA hL hi6 (p17 (xs ((nI i).toNatClampNeg + 1))) hI hH hS hl kk)
    | 18, _ => exact lv_tableIn (off := 649) (tgt := 682) hx hb xq_lw_33 (by decide) (by decide) (by decide +kernel) (by decide) (xq_case18 Cx hFit hX hbl hbA hL hi6 p18 hI hH hS hl kk)
    | 19, _ => exact lv_tableIn (off := 662) (tgt := 695) hx hb xq_lw_33 (by decide) (by decide) (by decide +kernel) (by decide) (xq_case19 Cx hFit hX hbl hbA hL hi6 (p19 (xs ((nI i).toNatClampNeg + 1))) hI hH hS hl kk)
    | 20, _ => exact lv_tableIn (off := 685) (tgt := 718) hx hb xq_lw_33 (by decide) (by decide) (by decide +kernel) (by decide) (xq_case20 Cx hFit hX hbl hbA hL hi6 p20 hI hH hS hl kk)
    | 21, _ => exact lv_tableIn (off := 698) (tgt := 731) hx hb xq_lw_33 (by decide) (by decide) (by decide +kernel) (by decide) (xq_case21 Cx hFit hX hbl hbA hL hi6 (p21 (xs ((nI i).toNatClampNeg + 1))) hI hH hS hl kk)
    | 22, _ => exact lv_tableIn (off := 722) (tgt := 755) hx hb xq_lw_33 (by decide) (by decide) (by decide +kernel) (by decide) (xq_case22 Cx hFit hX hbl hbA hL hi6 (p22 (xs ((nI i).toNatClampNeg + 1))) hI hH hS hl kk)
    | 23, _ => exact lv_tableIn (off := 745) (tgt := 778) hx hb xq_lw_33 (by decide) (by decide) (by decide +kernel) (by decide) (xq_case23 Cx hFit hX hbl hbA hL hi6 (p23 (xs ((nI i).toNatClampNeg + 1)) (xs ((nI i).toNatClampNeg + 2))) hI hH hS hl kk)
    | 24, _ => exact lv_tableIn (off := 778) (tgt := 811) hx hb xq_lw_33 (by decide) (by decide) (by decide +kernel) (by decide) (xq_case24 Cx hFit hX hbl hbA hL hi6 (p24 (xs ((nI i).toNatClampNeg + 1))) hI hH hS hl kk)
    | 25, _ => exact lv_tableIn (off := 801) (tgt := 834) hx hb xq_lw_33 (by decide) (by decide) (by decide +kernel) (by decide) (xq_case25 Cx hFit hX hbl hbA hL hi6 (p25 (xs ((nI i).toNatClampNeg + 1)) (xs ((nI i).toNatClampNeg + 2))) hI hH hS hl kk)
    | 26, _ => exact lv_tableIn (off := 834) (tgt := 867) hx hb xq_lw_33 (by decide) (by decide) (by decide +kernel) (by decide) (xq_case26 Cx hFit hX hbl hbA hL hi6 (p26 (xs ((nI i).toNatClampNeg + 1))) hI hH hS hl kk)
    | 27, _ => exact lv_tableIn (off := 857) (tgt := 890) hx hb xq_lw_33 (by decide) (by decide) (by decide +kernel) (by decide) (xq_case27 Cx hFit hX hbl hbA hL hi6 (p27 (xs ((nI i).toNatClampNeg + 1))) hI hH hS hl kk)
    | 28, _ => exact lv_tableIn (off := 880) (tgt := 913) hx hb xq_lw_33 (by decide) (by decide) (by decide +kernel) (by decide) (xq_case28 Cx hFit hX hbl hbA hL hi6 p28 hI hH hS hl kk)
    | 29, _ => exact lv_tableIn (off := 893) (tgt := 926) hx hb xq_lw_33 (by decide) (by decide) (by decide +kernel) (by decide) (xq_case29 Cx hFit hX hbl hbA hL hi6 (p29 (xs ((nI i).toNatClampNeg + 1))) hI hH hS hl kk)
    | 30, _ => exact lv_tableIn (off := 932) (tgt := 965) hx hb xq_lw_33 (by decide) (by decide) (by decide +kernel) (by decide) (xq_case30 Cx hFit hX hbl hbA hL hi6 (p30 (xs ((nI i).toNatClampNeg + 1))) hI hH hS hl kk)
    | 31, _ => exact lv_tableOut (tgt := 988) hx hb xq_lw_33 (by decide) (by decide) (kk x H locs hI hH hS)
    | k + 32, hk => exact absurd hk (by omega)
end xq_lawloop
set_option maxHeartbeats 4000000 in
set_option maxRecDepth 100000 in
/-- THE LAW FROM ITS ENTRY: what is left is about runs of the abstract machine alone -/
theorem xq_whole {p : Program} {e : Env} {s : State} {m : MethodId} {below : List Frame} {meth : Method} {c : Code} (l : Launch) {b L : Nat} {xs : Nat → Int32} (hL : L ≤ 3072) (C0 : lw_At p s m meth c b L xs) {Mi : Nat} {Inv : xq_S → Prop} (hIn : xq_Init Mi Inv) (hFit : xq_Fit Mi Inv) (hP : xq_Pairs Mi Inv) : W p l e room_1 s m #[Value.ref b] below meth c s.heap [] 0 0 (lw_Z below #[Value.ref b] s) (entryFrame m ([Value.ref b] : List Value).toArray 4) := by
  obtain ⟨t, ht, ht6, hE, hK⟩ := xq_start C0
  obtain ⟨hx, hb, hr, hml, hown, hts, hX, hbl, hlocks, hgv⟩ := C0
  have Cx : xq_Cx t p room_1 s m #[Value.ref b] meth c 13 false code 4 := ⟨hx, hb, hml, hown, fun w hw => hts w (xq_gw_tbl w hw), hK, hE, hlocks, (by omega), (fun z => by cases z), (by decide), (by decide)⟩
  obtain ⟨F, x1, x2, h1, hMi, hMb, h2, hI2⟩ := hIn
  obtain ⟨f1, f2, f3, f4, f5⟩ := hFit x2 hI2
  have le1 := xq_le_x _ _ _ _ _ _ _ _ _ h1
  have le2 := xq_le_x _ _ _ _ _ _ _ _ _ h2
  have le12 : xq_le x1 x2 := xq_le_tr xq_le_new le2
  have hH0 : xq_H t xq_00 s.heap := ⟨by rw [ht]; rfl, Nat.zero_le _, fun k hk => absurd hk (Nat.not_lt_zero k)⟩
  have hE4 : entryFrame m ([Value.ref b] : List Value).toArray 4 = entryFrame m (([Value.ref (xq_tB + 6)] : List Value).map (xq_sh t)).toArray 4 := by
    have : xq_sh t (.ref (xq_tB + 6)) = .ref b := by
      show Value.ref (xq_ad t (xq_tB + 6)) = _
      rw [xq_ad_t (by omega), Nat.add_sub_cancel_left, ht6]
    rw [List.map_cons, this]
    rfl
  rw [hE4]
  obtain ⟨ls, e1, e2⟩ := xq_entry (t := t) m [Value.ref (xq_tB + 6)] 4 (fun v hv => by rw [List.mem_singleton.mp hv]; rfl) (by decide)
  rw [e1]
  have key : xq_Ok p l e room_1 s m #[Value.ref b] below meth c (lw_Z below #[Value.ref b] s) t 4 0 0 xq_00 0 ([.ref (xq_tB + 6)] ++ List.replicate (4 - 1) xq_un) [] := by
    refine xq_obj_ok (ci := 11) (x' := xq_new xq_00 11 10) (pc' := 3) (L' := [.ref (xq_tB + 6), xq_un, xq_un, xq_un]) (st' := [.ref 0]) Cx xq_lw_0 (by decide +kernel) rfl (Nat.zero_le _) (Nat.zero_le _) (by decide) (by decide) ?_
    refine xq_dup_ok (x' := xq_new xq_00 11 10) (pc' := 4) (L' := [.ref (xq_tB + 6), xq_un, xq_un, xq_un]) (st' := [.ref 0, .ref 0]) Cx xq_lw_3 rfl ?_
    refine xq_call_ok (i := .invokespecial 9) (a := 0) (b := 1) (c' := (xq_mn 0).2.2.1) (d := 90) (As := [.ref 0]) (r := [.ref 0]) (xq_sound l t F) Cx xq_lw_4 (Or.inr rfl) (by decide +kernel) (by decide) rfl rfl rfl h1 (Nat.zero_le _) (Nat.zero_le _) (Nat.le_trans le12.1 f3) (Nat.le_trans le12.2 f4) (by decide) (by decide) ?_
    refine xq_store_ok (kk := 1) (int := false) (x' := x1) (pc' := 8) (L' := [.ref (xq_tB + 6), .ref 0, xq_un, xq_un]) (st' := []) (q := 8) rfl ?_ (fun z => by cases z) (fun _ H locs ls ls2 ce sl v r hv w => xq_Wastore_n hx hb xq_lw_7 hv w)
    refine xq_obj_ok (ci := 12) (x' := xq_new x1 12 38) (pc' := 11) (L' := [.ref (xq_tB + 6), .ref 0, xq_un, xq_un]) (st' := [.ref (xq_N x1)]) Cx xq_lw_8 (by decide +kernel) (by unfold xq_obj; rw [if_pos (by rw [hMi]; simp [hMb])]; rfl) (Nat.zero_le _) (Nat.zero_le _) (Nat.le_trans le2.1 f3) (Nat.le_trans le2.2 f4) ?_
    refine xq_dup_ok (x' := xq_new x1 12 38) (pc' := 12) (L' := [.ref (xq_tB + 6), .ref 0, xq_un, xq_un]) (st' := [.ref (xq_N x1), .ref (xq_N x1)]) Cx xq_lw_11 rfl ?_
    rw [hMi]
    refine xq_call_ok (i := .invokespecial 12) (a := 157) (b := 1) (c' := (xq_mn 157).2.2.1) (d := 90) (As := [.ref Mi]) (r := [.ref Mi]) (xq_sound l t F) Cx xq_lw_12 (Or.inr rfl) (by decide +kernel) (by decide) rfl rfl rfl h2 (Nat.zero_le _) (Nat.zero_le _) f3 f4 (by decide) (by decide) ?_
    refine xq_store_ok (kk := 2) (int := false) (x' := x2) (pc' := 16) (L' := [.ref (xq_tB + 6), .ref 0, .ref Mi, xq_un]) (st' := []) (q := 16) rfl ?_ (fun z => by cases z) (fun _ H locs ls ls2 ce sl v r hv w => xq_Wastore_n hx hb xq_lw_15 hv w)
    refine xq_pure (pc' := 17) (st' := [.int 0]) ?_ (fun H locs ls ce sl w => lv_iconst (v := 0) hx hb xq_lw_16 (by decide) w)
    refine xq_store_ok (kk := 3) (int := true) (x' := x2) (pc' := 18) (L' := [.ref (xq_tB + 6), .ref 0, .ref Mi, .int 0]) (st' := []) (q := 18) rfl ?_ (fun _ H locs ls ls2 ce sl v r hv w => xq_Wistore_n hx hb xq_lw_17 hv w) (fun z => by cases z)
    intro H locs ls hH hS hLs
    have hsh : xq_sh t (.ref (xq_tB + 6)) = .ref b := by
      show Value.ref (xq_ad t (xq_tB + 6)) = _
      rw [xq_ad_t (by omega), Nat.add_sub_cancel_left, ht6]
    have hl : lv_has ls 4 [(0, .ref b), (1, .ref (xq_ad t 0)), (2, .ref (xq_ad t Mi)), (3, .int (nI 0))] := by
      obtain ⟨q1, q2, q3, q4, q5⟩ := hLs
      refine ⟨q2, q3, fun q hq => ?_⟩
      simp only [List.mem_cons, List.not_mem_nil, or_false] at hq
      rcases hq with rfl | rfl | rfl | rfl
      · rw [← hsh]
        exact q4 0 _ rfl (fun z => by cases z)
      · exact q4 1 _ rfl (fun z => by cases z)
      · exact q4 2 _ rfl (fun z => by cases z)
      · exact q4 3 _ rfl (fun z => by cases z)
    exact xq_lawloop Cx ht hr hFit hP hX hbl hL 512 0 (by omega) x2 H locs ls hI2 hH hS hl (by omega)
  exact key s.heap [] ls hH0 va_S.rf e2
