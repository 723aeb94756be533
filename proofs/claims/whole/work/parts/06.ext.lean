/-! what is not ours: static arrays, literals, words that only warm up -/
def xq_gw : List Cond := lw_tbl.filter goodWord
def xq_host : String := "DomeCalendar"
/-- the words of nest mates, and that an int[] can be cloned -/
def xq_nw : List Cond := (xq_SL.filter (fun q => q.2.2.2 == 1)).map (fun q => Cond.fieldLinkNest (xq_cn q.1) q.2.1 (xq_snl.getD q.2.2.1 ("", "")).1 (xq_snl.getD q.2.2.1 ("", "")).2 "[I" xq_host)
def xq_kw : List Cond := (xq_KL.filter (fun q => q.2.2.2.2.2 == 3)).map (fun q => Cond.methodLinkNest (xq_cn q.1) q.2.1 (xq_ml.getD q.2.2.1 (⟨"", "", ""⟩, ByteArray.empty, 0, 0, 0)).1 xq_host)
def xq_E (t : xq_Th) (U : State) : Prop :=
  (∀ j, j < 6 → va_Z (xq_snl.getD j ("", "")).1 (xq_snl.getD j ("", "")).2 "[I" (.ref (t.2.2.2.2.2 j)) (xq_A t) U U.heap ∧ va_T .int (t.2.2.2.2.2 j) (xq_sv.getD j []).length (fun i => .int ((xq_sv.getD j []).getD i 0)) (xq_A t) U U.heap) ∧
  (∀ q ∈ xq_SR, vk_R (xq_cn q.1) q.2.1 (xq_txl.getD q.2.2 "") (t.2.2.2.1 q.2.2) U) ∧
  (∀ j, j < 32 → va_O "java/lang/String" (t.2.2.2.1 j) (xq_A t) U U.heap ∧ va_OF "java/lang/String" "coder" "B" (.int 0) (t.2.2.2.1 j) (xq_A t) U U.heap ∧ va_OF "java/lang/String" "value" "[B" (.ref (t.2.2.2.2.1 j)) (t.2.2.2.1 j) (xq_A t) U U.heap ∧ va_T .byte (t.2.2.2.2.1 j) (xq_tx.getD j []).length (fun i => .int ((xq_tx.getD j []).getD i 0)) (xq_A t) U U.heap) ∧
  (∀ w ∈ xq_nw, va_Nw w U) ∧ (∀ w ∈ xq_kw, va_Nw w U) ∧ va_Nw (.castable "[I" "java/lang/Cloneable") U ∧ va_AO "DomeCalendar$Site" U ∧
  va_Z "java/lang/String" "COMPACT_STRINGS" "Z" (.int 1) (xq_A t) U U.heap ∧ va_Zq "jdk/internal/util/Preconditions" "SIOOBE_FORMATTER" "Ljava/util/function/BiFunction;" (xq_A t) U U.heap
theorem xq_E.moved {t : xq_Th} {s U : State} {locs : List Loc} (hW : s.WarmedH U.vm) (hS : va_S (xq_A t) s.heap U.heap locs) (h : xq_E t s) : xq_E t U := by
  obtain ⟨h1, h2, h3, h4, h4b, h5, h6, h7, h8⟩ := h
  have hv := hW.alike
  have hk := hS.2.1
  refine ⟨fun j hj => ⟨va_Z.moved hv ((h1 j hj).1.kept hk), va_T.moved hv ((h1 j hj).2.kept hk)⟩, fun q hq => (h2 q hq).warm hW, fun j hj => ?_, fun w hw => ?_, fun w hw => ?_, h5.warmC hW, h6.moved hv, va_Z.moved hv (h7.kept hk), va_Zq.moved hv (h8.kept hk)⟩
  · obtain ⟨a, b, c, d⟩ := h3 j hj
    exact ⟨va_O.moved hv (a.kept hk), va_OF.moved hv (b.kept hk), va_OF.moved hv (c.kept hk), va_T.moved hv (d.kept hk)⟩
  · have hz := h4 w hw
    obtain ⟨q, -, rfl⟩ := List.mem_map.mp hw
    exact va_Nw.warmF hW hz
  · have hz := h4b w hw
    obtain ⟨q, -, rfl⟩ := List.mem_map.mp hw
    exact va_Nw.warmM hW hz
/-- the length of an instruction, as the machine steps over it -/
def xq_len (i : Instr) : Nat := match i with
  | .bipush _ => 2 | .sipush _ => 3 | .ldc _ => 2 | .ldc_w _ => 3 | .ldc2_w _ => 3 | .iload _ => 2 | .aload _ => 2 | .istore _ => 2 | .astore _ => 2 | .iinc _ _ => 3
  | .ifCond _ _ => 3 | .if_icmp _ _ => 3 | .goto _ => 3 | .ifnonnull _ => 3 | .ifnull _ => 3 | .getfield _ => 3 | .putfield _ => 3 | .getstatic _ => 3 | .newarray _ => 2 | .anewarray _ => 3 | .new _ => 3 | .checkcast _ => 3
  | .invokevirtual _ => 3 | .invokespecial _ => 3 | .invokestatic _ => 3
  | _ => 1
def xq_isSw (i : Instr) : Bool := match i with
  | .tableswitch _ _ _ _ => true
  | _ => false
/-- jumps stay at places that are no less than 0 -/
def xq_jok (pc : Nat) (i : Instr) : Bool := match i with
  | .ifCond _ off => decide (0 ≤ (pc : Int) + off)
  | .if_icmp _ off => decide (0 ≤ (pc : Int) + off)
  | .goto off => decide (0 ≤ (pc : Int) + off)
  | .ifnonnull off => decide (0 ≤ (pc : Int) + off)
  | .ifnull off => decide (0 ≤ (pc : Int) + off)
  | .tableswitch d lo hi offs => decide (0 ≤ (pc : Int) + d) && offs.toList.all (fun z => decide (0 ≤ (pc : Int) + z)) && decide ((offs.size : Int) = hi - lo + 1)
  | _ => true
def xq_fin (c k : Nat) : Bool := ((xq_cl.getD c ("", xq_T0, 0)).2.1 k).2.2.2
/-- the links of an instruction are as the tables say -/
def xq_aok (o : Nat) (ini : Bool) (i : Instr) (a b c : Nat) : Bool := match i with
  | .getfield x => xq_FL.contains (o, x, a, b)
  | .putfield x => xq_FL.contains (o, x, a, b) && (!xq_fin a b || ini && decide (a = o))
  | .getstatic x => xq_SL.contains (o, x, a, b) && decide (b ≤ 1)
  | .invokevirtual x => if a < 1000 then xq_KL.contains (o, x, a, b, c, 0) else xq_KL.contains (o, x, a, b, c, 9) && (decide (a = 1002) || decide (a = 1003) || decide (a = 1004))
  | .invokestatic x => if a < 1000 then xq_KL.contains (o, x, a, b, c, 1) else xq_KL.contains (o, x, a, b, c, 9) && (decide (a = 1001) || decide (a = 1005))
  | .invokespecial x => if a < 1000 then xq_KL.contains (o, x, a, b, c, 2) || xq_KL.contains (o, x, a, b, c, 3) else xq_KL.contains (o, x, a, b, c, 9) && decide (a = 1000)
  | .new x => xq_CL.contains (o, x, a)
  | .anewarray x => xq_CL.contains (o, x, 6)
  | .checkcast x => decide (o = 6) && decide (x = 14)
  | .ldc x => if b = 0 then xq_IC.contains (o, x, a) else xq_SR.contains (o, x, a)
  | .ldc_w x => xq_IC.contains (o, x, a)
  | .ldc2_w x => xq_JC.contains (o, x, a)
  | _ => true
def xq_rok (o : Nat) (ini : Bool) (by_ : ByteArray) (q : Nat × Instr × Nat × Nat × Nat × Nat) : Bool :=
  decide (decode by_ q.1 = .ok (q.2.1, q.2.2.1)) && (xq_isSw q.2.1 || decide (q.2.2.1 = xq_len q.2.1)) && xq_jok q.1 q.2.1 && xq_aok o ini q.2.1 q.2.2.2.1 q.2.2.2.2.1 q.2.2.2.2.2
