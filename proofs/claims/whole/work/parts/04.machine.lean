/-! the abstract machine: states, one instruction, runs -/
/-- how many cells, how many slots, the sort and size of each cell, its references -/
abbrev xq_G : Type := Nat × Nat × (Nat → Nat × Nat) × (Nat → Nat → Option Nat)
/-- all that, the longs, the ints -/
abbrev xq_S : Type := xq_G × (Nat → Nat → Int64) × (Nat → Nat → Int32)
abbrev xq_N (x : xq_S) : Nat := x.1.1
abbrev xq_Z (x : xq_S) : Nat := x.1.2.1
abbrev xq_K (x : xq_S) : Nat → Nat × Nat := x.1.2.2.1
abbrev xq_R (x : xq_S) : Nat → Nat → Option Nat := x.1.2.2.2
abbrev xq_J (x : xq_S) : Nat → Nat → Int64 := x.2.1
abbrev xq_I (x : xq_S) : Nat → Nat → Int32 := x.2.2
abbrev xq_O : Type := Option (Nat × xq_S × List Value × List Value)
def xq_in (i : Int32) (n : Nat) : Bool := !(decide (i < 0) || decide (n ≤ i.toNatClampNeg))
def xq_setI (x : xq_S) (a j : Nat) (v : Int32) : xq_S := (x.1, x.2.1, va_up x.2.2 a (upd (x.2.2 a) j v))
def xq_setJ (x : xq_S) (a j : Nat) (v : Int64) : xq_S := (x.1, va_up x.2.1 a (vp_updL (x.2.1 a) j v), x.2.2)
def xq_setR (x : xq_S) (a j : Nat) (v : Option Nat) : xq_S := ((x.1.1, x.1.2.1, x.1.2.2.1, va_up x.1.2.2.2 a (va_up (x.1.2.2.2 a) j v)), x.2)
/-- a new cell of sort c and size n, of zeros and nulls -/
def xq_new (x : xq_S) (c n : Nat) : xq_S := ((x.1.1 + 1, x.1.2.1 + n, va_up x.1.2.2.1 x.1.1 (c, n), va_up x.1.2.2.2 x.1.1 (fun _ => none)), va_up x.2.1 x.1.1 (fun _ => 0), va_up x.2.2 x.1.1 (fun _ => 0))
/-- references that are no cells of ours: literals, static arrays -/
def xq_sB : Nat := 1000000
def xq_tB : Nat := 2000000
def xq_rv (r : Option Nat) : Value := match r with
  | none => .null
  | some a => .ref a
def xq_load (q : Nat) (x : xq_S) (L st : List Value) (k : Nat) (int : Bool) : xq_O := match L[k]? with
  | some (.int v) => if int then some (q, x, L, .int v :: st) else none
  | some (.ref a) => if int then none else some (q, x, L, .ref a :: st)
  | some .null => if int then none else some (q, x, L, .null :: st)
  | _ => none
def xq_store (q : Nat) (x : xq_S) (L st : List Value) (k : Nat) (int : Bool) : xq_O := match st with
  | .int v :: r => if int && decide (k < L.length) then some (q, x, L.set k (.int v), r) else none
  | .ref a :: r => if !int && decide (k < L.length) then some (q, x, L.set k (.ref a), r) else none
  | _ => none
def xq_bin (f : Int32 → Int32 → Int32) (q : Nat) (x : xq_S) (L st : List Value) : xq_O := match st with
  | .int b :: .int a :: r => some (q, x, L, .int (f a b) :: r)
  | _ => none
def xq_div (f : Int32 → Int32 → Int32) (q : Nat) (x : xq_S) (L st : List Value) : xq_O := match st with
  | .int b :: .int a :: r => if b = 0 then none else some (q, x, L, .int (f a b) :: r)
  | _ => none
def xq_lbin (f : Int64 → Int64 → Int64) (q : Nat) (x : xq_S) (L st : List Value) : xq_O := match st with
  | .long b :: .long a :: r => some (q, x, L, .long (f a b) :: r)
  | _ => none
def xq_tgt (pc : Nat) (off : Int) : Nat := ((pc : Int) + off).toNat
def xq_if1 (c : Int32 → Bool) (t q : Nat) (x : xq_S) (L st : List Value) : xq_O := match st with
  | .int a :: r => some (if c a then t else q, x, L, r)
  | _ => none
def xq_if2 (c : Int32 → Int32 → Bool) (t q : Nat) (x : xq_S) (L st : List Value) : xq_O := match st with
  | .int b :: .int a :: r => some (if c a b then t else q, x, L, r)
  | _ => none
def xq_getf (q : Nat) (x : xq_S) (L st : List Value) (c k : Nat) : xq_O := match st with
  | .ref a :: r => if decide (a < xq_N x) && decide ((xq_K x a).1 = c) && decide (k < (xq_K x a).2) then (if xq_ft c k = 2 then some (q, x, L, xq_rv (xq_R x a k) :: r) else some (q, x, L, .int (xq_I x a k) :: r)) else none
  | _ => none
def xq_putf (q : Nat) (x : xq_S) (L st : List Value) (c k : Nat) : xq_O := match st with
  | .int v :: .ref a :: r => if decide (a < xq_N x) && decide ((xq_K x a).1 = c) && decide (k < (xq_K x a).2) && (decide (xq_ft c k = 0) || decide (xq_ft c k = 1) && (decide (v = 0) || decide (v = 1))) then some (q, xq_setI x a k v, L, r) else none
  | .ref b :: .ref a :: r => if decide (a < xq_N x) && decide (b < xq_sB) && decide ((xq_K x a).1 = c) && decide (k < (xq_K x a).2) && decide (xq_ft c k = 2) then some (q, xq_setR x a k (some b), L, r) else none
  | .null :: .ref a :: r => if decide (a < xq_N x) && decide ((xq_K x a).1 = c) && decide (k < (xq_K x a).2) && decide (xq_ft c k = 2) then some (q, xq_setR x a k none, L, r) else none
  | _ => none
def xq_aload (q : Nat) (x : xq_S) (L st : List Value) (c : Nat) : xq_O := match st with
  | .int i :: .ref a :: r => if a < xq_tB then (if decide (a < xq_N x) && decide ((xq_K x a).1 = c) && xq_in i (xq_K x a).2 then some (q, x, L, (if c = 100 then .int (xq_I x a i.toNatClampNeg) else if c = 101 then .long (xq_J x a i.toNatClampNeg) else xq_rv (xq_R x a i.toNatClampNeg)) :: r) else none)
      else (if decide (c = 100) && decide (a - xq_tB < 6) && xq_in i (xq_sv.getD (a - xq_tB) []).length then some (q, x, L, .int ((xq_sv.getD (a - xq_tB) []).getD i.toNatClampNeg 0) :: r) else none)
  | _ => none
def xq_astore (q : Nat) (x : xq_S) (L st : List Value) (c : Nat) : xq_O := match st with
  | .int v :: .int i :: .ref a :: r => if decide (a < xq_N x) && decide (c = 100) && decide ((xq_K x a).1 = 100) && xq_in i (xq_K x a).2 then some (q, xq_setI x a i.toNatClampNeg v, L, r) else none
  | .long v :: .int i :: .ref a :: r => if decide (a < xq_N x) && decide (c = 101) && decide ((xq_K x a).1 = 101) && xq_in i (xq_K x a).2 then some (q, xq_setJ x a i.toNatClampNeg v, L, r) else none
  | .ref b :: .int i :: .ref a :: r => if decide (a < xq_N x) && decide (b < xq_N x) && decide ((xq_K x b).1 = 6) && decide (c = 102) && decide ((xq_K x a).1 = 102) && xq_in i (xq_K x a).2 then some (q, xq_setR x a i.toNatClampNeg (some b), L, r) else none
  | _ => none
def xq_alen (q : Nat) (x : xq_S) (L st : List Value) : xq_O := match st with
  | .ref a :: r => if a < xq_tB then (if decide (a < xq_N x) && decide (100 ≤ (xq_K x a).1) && decide ((xq_K x a).1 ≤ 102) then some (q, x, L, .int (nI (xq_K x a).2) :: r) else none)
      else (if a - xq_tB < 6 then some (q, x, L, .int (nI (xq_sv.getD (a - xq_tB) []).length) :: r) else none)
  | _ => none
def xq_newa (q : Nat) (x : xq_S) (L st : List Value) (c : Nat) : xq_O := match st with
  | .int n :: r => if !decide (n < 0) && decide (n.toNatClampNeg ≤ 1000000) && decide (xq_N x < 100000) then some (q, xq_new x c n.toNatClampNeg, L, .ref (xq_N x) :: r) else none
  | _ => none
def xq_obj (q : Nat) (x : xq_S) (L st : List Value) (c : Nat) : xq_O :=
  if decide (c < 13) && decide (xq_N x < 100000) then some (q, xq_new x c (xq_ftl.getD c []).length, L, .ref (xq_N x) :: st) else none
def xq_dup (q : Nat) (x : xq_S) (L st : List Value) : xq_O := match st with
  | .int v :: r => some (q, x, L, .int v :: .int v :: r)
  | .ref v :: r => some (q, x, L, .ref v :: .ref v :: r)
  | _ => none
def xq_dup2 (q : Nat) (x : xq_S) (L st : List Value) : xq_O := match st with
  | .int v :: .ref a :: r => some (q, x, L, .int v :: .ref a :: .int v :: .ref a :: r)
  | _ => none
def xq_pop (q : Nat) (x : xq_S) (L st : List Value) : xq_O := match st with
  | .int _ :: r => some (q, x, L, r)
  | _ => none
def xq_null (t q : Nat) (x : xq_S) (L st : List Value) : xq_O := match st with
  | .null :: r => some (t, x, L, r)
  | .ref _ :: r => some (q, x, L, r)
  | _ => none
def xq_sw (pc : Nat) (d lo hi : Int) (offs : Array Int) (x : xq_S) (L st : List Value) : xq_O := match st with
  | .int v :: r => if decide (v.toInt < lo) || decide (hi < v.toInt) then some (xq_tgt pc d, x, L, r) else some (xq_tgt pc (offs.getD (v.toInt - lo).toNat d), x, L, r)
  | _ => none
def xq_room (r : List Value) : Bool := decide ((r.map fun v => v.category).sum ≤ 8)
/-- what the machine does itself: Object's constructor, arraycopy, clone, length, charAt, fill of longs -/
def xq_self (q : Nat) (x : xq_S) (L st : List Value) (y : Nat) : xq_O := match y, st with
  | 1000, .ref _ :: r => if xq_room r then some (q, x, L, r) else none
  | 1001, .int n :: .int dp :: .ref d :: .int sp :: .ref s :: r =>
      if xq_room r && decide (d < xq_N x) && decide (s < xq_N x) && decide ((xq_K x d).1 = 100) && decide ((xq_K x s).1 = 100) && !decide (n < 0) && !decide (dp < 0) && !decide (sp < 0) && decide (sp.toNatClampNeg + n.toNatClampNeg ≤ (xq_K x s).2) && decide (dp.toNatClampNeg + n.toNatClampNeg ≤ (xq_K x d).2)
      then some (q, (x.1, x.2.1, va_up x.2.2 d (va_cpy (x.2.2 s) (x.2.2 d) sp.toNatClampNeg dp.toNatClampNeg n.toNatClampNeg)), L, r) else none
  | 1002, .ref a :: r => if xq_room r && decide (a = xq_tB) && decide (xq_N x < 100000) then some (q, ((xq_new x 100 12).1, (xq_new x 100 12).2.1, va_up x.2.2 (xq_N x) (fun j => (xq_sv.getD 0 []).getD j 0)), L, .ref (xq_N x) :: r) else none
  | 1003, .ref a :: r => if xq_room r && decide (xq_sB ≤ a) && decide (a - xq_sB < 32) then some (q, x, L, .int (nI (xq_tx.getD (a - xq_sB) []).length) :: r) else none
  | 1004, .int i :: .ref a :: r => if xq_room r && decide (xq_sB ≤ a) && decide (a - xq_sB < 32) && xq_in i (xq_tx.getD (a - xq_sB) []).length then some (q, x, L, .int ((xq_tx.getD (a - xq_sB) []).getD i.toNatClampNeg 0) :: r) else none
  | 1005, .long v :: .ref a :: r => if xq_room r && decide (a < xq_N x) && decide ((xq_K x a).1 = 101) && decide ((xq_K x a).2 < 1000000) then some (q, (x.1, va_up x.2.1 a (fun j => if j < (xq_K x a).2 then v else x.2.1 a j), x.2.2), L, r) else none
  | _, _ => none
def xq_step (i : Instr) (a b : Nat) (pc : Nat) (x : xq_S) (L st : List Value) : xq_O := match i with
  | .aconst_null => some (pc + 1, x, L, .null :: st)
  | .iconst n => some (pc + 1, x, L, .int (Int32.ofInt n) :: st)
  | .lconst n => some (pc + 1, x, L, .long (Int64.ofNat (n : Nat)) :: st)
  | .bipush n => some (pc + 2, x, L, .int (Int8.ofInt n).toInt32 :: st)
  | .sipush n => some (pc + 3, x, L, .int (Int16.ofInt n).toInt32 :: st)
  | .ldc _ => if b = 0 then some (pc + 2, x, L, .int (nI a) :: st) else some (pc + 2, x, L, .ref (xq_sB + a) :: st)
  | .ldc_w _ => if b = 0 then some (pc + 3, x, L, .int (nI a) :: st) else none
  | .ldc2_w _ => some (pc + 3, x, L, .long (-(lN a)) :: st)
  | .iload k => xq_load (pc + 2) x L st k true
  | .aload k => xq_load (pc + 2) x L st k false
  | .iload_n k => xq_load (pc + 1) x L st k true
  | .aload_n k => xq_load (pc + 1) x L st k false
  | .istore k => xq_store (pc + 2) x L st k true
  | .astore k => xq_store (pc + 2) x L st k false
  | .istore_n k => xq_store (pc + 1) x L st k true
  | .astore_n k => xq_store (pc + 1) x L st k false
  | .iinc k n => match L[k]? with
    | some (.int v) => some (pc + 3, x, L.set k (.int (v + Int32.ofInt n)), st)
    | _ => none
  | .iadd => xq_bin (fun u v => u + v) (pc + 1) x L st
  | .isub => xq_bin (fun u v => u - v) (pc + 1) x L st
  | .imul => xq_bin (fun u v => u * v) (pc + 1) x L st
  | .iand => xq_bin (fun u v => u &&& v) (pc + 1) x L st
  | .ior => xq_bin (fun u v => u ||| v) (pc + 1) x L st
  | .ixor => xq_bin (fun u v => u ^^^ v) (pc + 1) x L st
  | .ishl => xq_bin (fun u v => u <<< (v &&& 31)) (pc + 1) x L st
  | .ishr => xq_bin (fun u v => u >>> (v &&& 31)) (pc + 1) x L st
  | .iushr => xq_bin (fun u v => (u.toUInt32 >>> (v.toUInt32 &&& Int32.toUInt32 31)).toInt32) (pc + 1) x L st
  | .idiv => xq_div (fun u v => u / v) (pc + 1) x L st
  | .irem => xq_div (fun u v => u - u / v * v) (pc + 1) x L st
  | .ineg => match st with
    | .int v :: r => some (pc + 1, x, L, .int (-v) :: r)
    | _ => none
  | .ladd => xq_lbin (fun u v => u + v) (pc + 1) x L st
  | .lmul => xq_lbin (fun u v => u * v) (pc + 1) x L st
  | .lcmp => match st with
    | .long v :: .long u :: r => some (pc + 1, x, L, .int (lg_cmp u v) :: r)
    | _ => none
  | .dup => xq_dup (pc + 1) x L st
  | .dup2 => xq_dup2 (pc + 1) x L st
  | .pop => xq_pop (pc + 1) x L st
  | .ifCond .eq off => xq_if1 (fun u => decide (u = 0)) (xq_tgt pc off) (pc + 3) x L st
  | .ifCond .ne off => xq_if1 (fun u => decide (¬ u = 0)) (xq_tgt pc off) (pc + 3) x L st
  | .ifCond .lt off => xq_if1 (fun u => decide (u < 0)) (xq_tgt pc off) (pc + 3) x L st
  | .ifCond .ge off => xq_if1 (fun u => decide (0 ≤ u)) (xq_tgt pc off) (pc + 3) x L st
  | .ifCond .gt off => xq_if1 (fun u => decide (0 < u)) (xq_tgt pc off) (pc + 3) x L st
  | .ifCond .le off => xq_if1 (fun u => decide (u ≤ 0)) (xq_tgt pc off) (pc + 3) x L st
  | .if_icmp .eq off => xq_if2 (fun u v => decide (u = v)) (xq_tgt pc off) (pc + 3) x L st
  | .if_icmp .ne off => xq_if2 (fun u v => decide (¬ u = v)) (xq_tgt pc off) (pc + 3) x L st
  | .if_icmp .lt off => xq_if2 (fun u v => decide (u < v)) (xq_tgt pc off) (pc + 3) x L st
  | .if_icmp .ge off => xq_if2 (fun u v => decide (v ≤ u)) (xq_tgt pc off) (pc + 3) x L st
  | .if_icmp .gt off => xq_if2 (fun u v => decide (v < u)) (xq_tgt pc off) (pc + 3) x L st
  | .if_icmp .le off => xq_if2 (fun u v => decide (u ≤ v)) (xq_tgt pc off) (pc + 3) x L st
  | .goto off => some (xq_tgt pc off, x, L, st)
  | .ifnonnull off => xq_null (pc + 3) (xq_tgt pc off) x L st
  | .ifnull off => xq_null (xq_tgt pc off) (pc + 3) x L st
  | .tableswitch d lo hi offs => xq_sw pc d lo hi offs x L st
  | .getfield _ => xq_getf (pc + 3) x L st a b
  | .putfield _ => xq_putf (pc + 3) x L st a b
  | .getstatic _ => some (pc + 3, x, L, .ref (xq_tB + a) :: st)
  | .iaload => xq_aload (pc + 1) x L st 100
  | .laload => xq_aload (pc + 1) x L st 101
  | .aaload => xq_aload (pc + 1) x L st 102
  | .iastore => xq_astore (pc + 1) x L st 100
  | .lastore => xq_astore (pc + 1) x L st 101
  | .aastore => xq_astore (pc + 1) x L st 102
  | .arraylength => xq_alen (pc + 1) x L st
  | .newarray .int => xq_newa (pc + 2) x L st 100
  | .newarray .long => xq_newa (pc + 2) x L st 101
  | .anewarray _ => xq_newa (pc + 3) x L st 102
  | .new _ => xq_obj (pc + 3) x L st a
  | .checkcast _ => match st with
    | .ref v :: r => if decide (v < xq_N x) && decide ((xq_K x v).1 = 100) then some (pc + 3, x, L, .ref v :: r) else none
    | _ => none
  | .invokevirtual _ => xq_self (pc + 3) x L st a
  | .invokespecial _ => xq_self (pc + 3) x L st a
  | .invokestatic _ => xq_self (pc + 3) x L st a
  | _ => none
/-- is it a call of a method that is run? -/
def xq_isCall (i : Instr) (a : Nat) : Bool := match i with
  | .invokevirtual _ => decide (a < 1000)
  | .invokespecial _ => decide (a < 1000)
  | .invokestatic _ => decide (a < 1000)
  | _ => false
/-- a return: what is answered; rt: 0 nothing, 1 an int, 2 a boolean, 3 a long -/
def xq_ret (i : Instr) (rt : Nat) (st : List Value) : Option (Option Value) := match i, rt, st with
  | .return_, 0, [] => some none
  | .ireturn, 1, [.int v] => some (some (.int v))
  | .ireturn, 2, [.int v] => if decide (v = 0) || decide (v = 1) then some (some (.int v)) else none
  | .lreturn, 3, [.long v] => some (some (.long v))
  | _, _, _ => none
/-- the arguments of a call: k values of one slot, the last one on top -/
def xq_args : Nat → List Value → Option (List Value × List Value)
  | 0, st => some ([], st)
  | k + 1, .int v :: st => match xq_args k st with
    | some (As, r) => some (As ++ [.int v], r)
    | none => none
  | k + 1, .ref v :: st => match xq_args k st with
    | some (As, r) => some (As ++ [.ref v], r)
    | none => none
  | _, _ => none
/-- a place of the locals of which nothing is known -/
abbrev xq_un : Value := .retAddr 0
section xq_run
variable (cd : Nat → Nat → Option (Instr × Nat × Nat × Nat × Nat)) (rt : Nat → Nat)
/-- a run: fuel, depth of calls, method, state, place, locals, stack -/
def xq_r : Nat → Nat → Nat → xq_S → Nat → List Value → List Value → Option (Option Value × xq_S)
  | 0, _, _, _, _, _, _ => none
  | F + 1, d, m, x, pc, L, st => match cd m pc with
    | none => none
    | some (i, _, a, b, c) =>
      if xq_isCall i a then
        match d, xq_args b st with
        | d' + 1, some (As, r) => if xq_room r then
            match xq_r F d' a x 0 (As ++ List.replicate (c - b) xq_un) [] with
            | some (v, x') => xq_r F (d' + 1) m x' (pc + 3) L (v.toList ++ r)
            | none => none
          else none
        | _, _ => none
      else match xq_ret i (rt m) st with
        | some v => some (v, x)
        | none => match xq_step i a b pc x L st with
          | some (pc', x', L', st') => xq_r F d m x' pc' L' st'
          | none => none
end xq_run
