/-! one instruction of the abstract machine is one of the machine -/
theorem xq_in_vp {i : Int32} {n : Nat} (h : xq_in i n = true) : vp_in i n := by
  intro q
  simp only [xq_in, Bool.not_eq_true', Bool.or_eq_false_iff, decide_eq_false_iff_not] at h
  exact q.elim h.1 h.2
theorem xq_sh_rv (t : xq_Th) (r : Option Nat) : xq_sh t (xq_rv r) = va_rf (xq_rr t r) := by cases r <;> rfl
theorem xq_mem {α : Type} [BEq α] [LawfulBEq α] {l : List α} {a : α} (h : l.contains a = true) : a ∈ l := by simpa using h
abbrev xq_cd (c : Nat) : vw_C := xq_cl.getD c ("", xq_T0, 0)
theorem xq_FL_ok {o x a b : Nat} (h : xq_FL.contains (o, x, a, b) = true) : a < 13 ∧ b < (xq_cd a).2.2 ∧ Cond.fieldLink (xq_cn o) x ((xq_cd a).2.1 b).1 ((xq_cd a).2.1 b).2.1 ((xq_cd a).2.1 b).2.2.1 ∈ xq_gw := by
  have h1 := xq_mem h
  rw [xq_FLe] at h1
  obtain ⟨q, hq, e⟩ := List.mem_map.mp h1
  obtain ⟨⟨o', x', a', b'⟩, k⟩ := q
  cases e
  have h2 := List.all_eq_true.mp xq_FLc _ hq
  simp only [Bool.and_eq_true, decide_eq_true_eq] at h2
  exact ⟨h2.1.1, h2.1.2, xq_tb _ h2.2 rfl⟩
theorem xq_cls1 {c : Nat} (h : c < 13) : (xq_cd c).1 = xq_cn c ∧ Cond.initialized (xq_cn c) ∈ xq_gw ∧ Cond.instantiable (xq_cn c) (xq_cd c).2.2 ∈ xq_gw ∧ (xq_ftl.getD c []).length = (xq_cd c).2.2 := by
  have h2 := List.all_eq_true.mp xq_clc1 c (List.mem_range.mpr h)
  simp only [Bool.and_eq_true, decide_eq_true_eq] at h2
  exact ⟨h2.1.1.1, xq_tb _ h2.1.1.2 rfl, xq_tb _ h2.1.2 rfl, h2.2⟩
theorem xq_cls0 {c : Nat} (h : c < 13) : xq_cl[c]? = some (xq_cn c, (xq_cd c).2) := by
  have h1 : xq_cl[c]? = some (xq_cd c) := by
    have hl : c < xq_cl.length := h
    rw [List.getElem?_eq_getElem hl]
    simp [xq_cd, List.getD_eq_getElem?_getD, List.getElem?_eq_getElem hl]
  rw [h1, ← (xq_cls1 h).1]
theorem xq_cls2 {c : Nat} (h : c < 13) : ∀ w ∈ u_ws (xq_cn c) (xq_cd c).2.1 (xq_cd c).2.2, w ∈ xq_gw := by
  intro w hw
  obtain ⟨k, hk, rfl⟩ := List.mem_map.mp hw
  have h2 := List.all_eq_true.mp xq_clc2 c (List.mem_range.mpr h)
  have h3 := List.all_eq_true.mp h2 k hk
  simp only [decide_eq_true_eq] at h3
  refine xq_tb _ h3 ?_
  unfold u_lay
  split <;> rfl
theorem xq_cls3 {c : Nat} (h : c < 13) : ∀ k, k < (xq_cd c).2.2 → parseFieldDescriptor ((xq_cd c).2.1 k).2.2.1 = some (xq_ty c k) := by
  intro k hk
  have h2 := List.all_eq_true.mp xq_clc3 c (List.mem_range.mpr h)
  have h3 := List.all_eq_true.mp h2 k (List.mem_range.mpr hk)
  simp only [Bool.and_eq_true, decide_eq_true_eq] at h3
  exact h3.1
theorem xq_cls3b {c : Nat} (h : c < 13) : ∀ k, k < (xq_cd c).2.2 → ((xq_cd c).2.1 k).1 = xq_cn c := by
  intro k hk
  have h2 := List.all_eq_true.mp xq_clc3 c (List.mem_range.mpr h)
  have h3 := List.all_eq_true.mp h2 k (List.mem_range.mpr hk)
  simp only [Bool.and_eq_true, decide_eq_true_eq] at h3
  exact h3.2
theorem xq_cls4 {c : Nat} (h : c < 13) {k : Nat} (hk : k < (xq_cd c).2.2) : if xq_ft c k = 0 then xq_ty c k = .int else if xq_ft c k = 1 then xq_ty c k = .boolean else (fits (xq_ty c k) .null = true ∧ fits (xq_ty c k) (.ref 0) = true) := by
  have h2 := List.all_eq_true.mp xq_clc4 c (List.mem_range.mpr h)
  have h3 := List.all_eq_true.mp h2 k (List.mem_range.mpr hk)
  split at h3
  · rename_i q; rw [if_pos q]; simpa using h3
  · rename_i q
    rw [if_neg q]
    split at h3
    · rename_i q; rw [if_pos q]; simpa using h3
    · rename_i q; rw [if_neg q]; simpa using h3
theorem xq_cls5 {c : Nat} (h : c < 13) : ∀ a, a < (xq_cd c).2.2 → ∀ b, b < (xq_cd c).2.2 → a ≠ b → ((xq_cd c).2.1 a).2.1 ≠ ((xq_cd c).2.1 b).2.1 := by
  intro a ha b hb hab
  have h2 := List.all_eq_true.mp xq_clc5 c (List.mem_range.mpr h)
  have h3 := List.all_eq_true.mp (List.all_eq_true.mp h2 b (List.mem_range.mpr hb)) a (List.mem_range.mpr ha)
  simp only [Bool.or_eq_true, decide_eq_true_eq] at h3
  exact h3.resolve_left hab
theorem xq_ent_o {t : xq_Th} {x : xq_S} {k : Nat} (h : (xq_K x k).1 < 13) : xq_ent t x k = .inr ((xq_K x k).1, (List.range (xq_K x k).2).map (xq_fl t x k)) := by
  have a1 : ¬ (xq_K x k).1 = 100 := by omega
  have a2 : ¬ (xq_K x k).1 = 101 := by omega
  have a3 : ¬ (xq_K x k).1 = 102 := by omega
  simp only [xq_ent, if_neg a1, if_neg a2, if_neg a3]
theorem xq_ent_i {t : xq_Th} {x : xq_S} {k : Nat} (h : (xq_K x k).1 = 100) : xq_ent t x k = .inl (t.2.2.1.1, (xq_K x k).2, .inl (xq_I x k)) := by simp only [xq_ent, if_pos h]
theorem xq_ent_l {t : xq_Th} {x : xq_S} {k : Nat} (h : (xq_K x k).1 = 101) : xq_ent t x k = .inl (t.2.2.1.2.1, (xq_K x k).2, .inr (.inl (xq_J x k))) := by
  have a1 : ¬ (xq_K x k).1 = 100 := by omega
  simp only [xq_ent, if_neg a1, if_pos h]
theorem xq_ent_q {t : xq_Th} {x : xq_S} {k : Nat} (h : (xq_K x k).1 = 102) : xq_ent t x k = .inl (t.2.2.1.2.2, (xq_K x k).2, .inr (.inr (.inr (.inr (fun j => xq_rr t (xq_R x k j)))))) := by
  have a1 : ¬ (xq_K x k).1 = 100 := by omega
  have a2 : ¬ (xq_K x k).1 = 101 := by omega
  simp only [xq_ent, if_neg a1, if_neg a2, if_pos h]
def xq_Cx (t : xq_Th) (p : Program) (R : Room) (s : State) (mid : MethodId) (args : Array Value) (meth : Method) (c : Code) (o : Nat) (ini : Bool) (by_ : ByteArray) (nL : Nat) : Prop :=
  p.tables.exec = Jvm.exec ∧ c.code = by_ ∧ c.maxLocals = nL ∧ s.vm.findClass (xq_cn o) = some mid.cls ∧ (∀ w ∈ xq_gw, w.before args s = true) ∧ va_K t.2.1 xq_cl (xq_tys t) s ∧ xq_EE t s ∧ meth.locks = false ∧ t.1 ≤ s.heap.size ∧ (ini = true → meth.name = "<init>") ∧ 8 ≤ R.frames ∧ 300 ≤ R.locals
def xq_Ok (p : Program) (l : Launch) (e : Env) (R : Room) (s : State) (mid : MethodId) (args : Array Value) (below : List Frame) (meth : Method) (c : Code) (Q : State → Prop) (t : xq_Th) (nL n0 z0 : Nat) (x : xq_S) (pc : Nat) (L st : List Value) : Prop :=
  ∀ (H : Heap) (locs : List Loc) (ls : Array Slot), xq_H t x H → va_S (xq_A t) s.heap H locs → xq_L t nL L ls → W p l e R s mid args below meth c H locs (xq_N x - n0) (xq_Z x - z0) Q (F0 mid pc ls (st.map (xq_sh t)))
section xq_steps
variable {p : Program} {l : Launch} {e : Env} {R : Room} {s : State} {mid : MethodId} {args : Array Value} {below : List Frame} {meth : Method} {c : Code} {Q : State → Prop}
variable {t : xq_Th} {o nL n0 z0 : Nat} {ini : Bool} {by_ : ByteArray} {x x' : xq_S} {q pc pc' : Nat} {L L' st st' : List Value}
theorem xq_pure (k : xq_Ok p l e R s mid args below meth c Q t nL n0 z0 x pc' L st') (hw : ∀ (H : Heap) (locs : List Loc) (ls : Array Slot) (ce sl : Nat), W p l e R s mid args below meth c H locs ce sl Q (F0 mid pc' ls (st'.map (xq_sh t))) → W p l e R s mid args below meth c H locs ce sl Q (F0 mid pc ls (st.map (xq_sh t)))) : xq_Ok p l e R s mid args below meth c Q t nL n0 z0 x pc L st :=
  fun H locs ls hH hS hL => hw _ _ _ _ _ (k H locs ls hH hS hL)
theorem xq_bin_ok {f : Int32 → Int32 → Int32} (h : xq_bin f q x L st = some (pc', x', L', st')) (k : xq_Ok p l e R s mid args below meth c Q t nL n0 z0 x' pc' L' st') (hw : ∀ (H : Heap) (locs : List Loc) (ls : Array Slot) (ce sl : Nat) (u v : Int32) (r : List Value), W p l e R s mid args below meth c H locs ce sl Q (F0 mid q ls (.int (f u v) :: r)) → W p l e R s mid args below meth c H locs ce sl Q (F0 mid pc ls (.int v :: .int u :: r))) : xq_Ok p l e R s mid args below meth c Q t nL n0 z0 x pc L st := by
  unfold xq_bin at h
  split at h
  · cases h
    exact xq_pure k (fun H locs ls ce sl w => hw _ _ _ _ _ _ _ _ w)
  · cases h
theorem xq_div_ok {f : Int32 → Int32 → Int32} (h : xq_div f q x L st = some (pc', x', L', st')) (k : xq_Ok p l e R s mid args below meth c Q t nL n0 z0 x' pc' L' st') (hw : ∀ (H : Heap) (locs : List Loc) (ls : Array Slot) (ce sl : Nat) (u v : Int32) (r : List Value), ¬ v = 0 → W p l e R s mid args below meth c H locs ce sl Q (F0 mid q ls (.int (f u v) :: r)) → W p l e R s mid args below meth c H locs ce sl Q (F0 mid pc ls (.int v :: .int u :: r))) : xq_Ok p l e R s mid args below meth c Q t nL n0 z0 x pc L st := by
  unfold xq_div at h
  split at h
  · split at h
    · cases h
    · cases h
      exact xq_pure k (fun H locs ls ce sl w => hw _ _ _ _ _ _ _ _ (by assumption) w)
  · cases h
theorem xq_lbin_ok {f : Int64 → Int64 → Int64} (h : xq_lbin f q x L st = some (pc', x', L', st')) (k : xq_Ok p l e R s mid args below meth c Q t nL n0 z0 x' pc' L' st') (hw : ∀ (H : Heap) (locs : List Loc) (ls : Array Slot) (ce sl : Nat) (u v : Int64) (r : List Value), W p l e R s mid args below meth c H locs ce sl Q (F0 mid q ls (.long (f u v) :: r)) → W p l e R s mid args below meth c H locs ce sl Q (F0 mid pc ls (.long v :: .long u :: r))) : xq_Ok p l e R s mid args below meth c Q t nL n0 z0 x pc L st := by
  unfold xq_lbin at h
  split at h
  · cases h
    exact xq_pure k (fun H locs ls ce sl w => hw _ _ _ _ _ _ _ _ w)
  · cases h
theorem xq_if1_ok {f : Int32 → Bool} {tg : Nat} (h : xq_if1 f tg q x L st = some (pc', x', L', st')) (k : xq_Ok p l e R s mid args below meth c Q t nL n0 z0 x' pc' L' st') (hw : ∀ (H : Heap) (locs : List Loc) (ls : Array Slot) (ce sl : Nat) (u : Int32) (r : List Value), W p l e R s mid args below meth c H locs ce sl Q (F0 mid (if f u then tg else q) ls r) → W p l e R s mid args below meth c H locs ce sl Q (F0 mid pc ls (.int u :: r))) : xq_Ok p l e R s mid args below meth c Q t nL n0 z0 x pc L st := by
  unfold xq_if1 at h
  split at h
  · cases h
    exact xq_pure k (fun H locs ls ce sl w => hw _ _ _ _ _ _ _ w)
  · cases h
theorem xq_if2_ok {f : Int32 → Int32 → Bool} {tg : Nat} (h : xq_if2 f tg q x L st = some (pc', x', L', st')) (k : xq_Ok p l e R s mid args below meth c Q t nL n0 z0 x' pc' L' st') (hw : ∀ (H : Heap) (locs : List Loc) (ls : Array Slot) (ce sl : Nat) (u v : Int32) (r : List Value), W p l e R s mid args below meth c H locs ce sl Q (F0 mid (if f u v then tg else q) ls r) → W p l e R s mid args below meth c H locs ce sl Q (F0 mid pc ls (.int v :: .int u :: r))) : xq_Ok p l e R s mid args below meth c Q t nL n0 z0 x pc L st := by
  unfold xq_if2 at h
  split at h
  · cases h
    exact xq_pure k (fun H locs ls ce sl w => hw _ _ _ _ _ _ _ _ w)
  · cases h
theorem xq_load_ok {kk : Nat} {int : Bool} (h : xq_load q x L st kk int = some (pc', x', L', st')) (k : xq_Ok p l e R s mid args below meth c Q t nL n0 z0 x' pc' L' st')
    (hi : int = true → ∀ (H : Heap) (locs : List Loc) (ls : Array Slot) (ce sl : Nat) (v : Int32) (r : List Value), ls[kk]? = some (.val (.int v)) → W p l e R s mid args below meth c H locs ce sl Q (F0 mid q ls (.int v :: r)) → W p l e R s mid args below meth c H locs ce sl Q (F0 mid pc ls r))
    (hr : int = false → ∀ (H : Heap) (locs : List Loc) (ls : Array Slot) (ce sl : Nat) (v : Nat) (r : List Value), ls[kk]? = some (.val (.ref v)) → W p l e R s mid args below meth c H locs ce sl Q (F0 mid q ls (.ref v :: r)) → W p l e R s mid args below meth c H locs ce sl Q (F0 mid pc ls r))
    (hn : int = false → ∀ (H : Heap) (locs : List Loc) (ls : Array Slot) (ce sl : Nat) (r : List Value), ls[kk]? = some (.val .null) → W p l e R s mid args below meth c H locs ce sl Q (F0 mid q ls (.null :: r)) → W p l e R s mid args below meth c H locs ce sl Q (F0 mid pc ls r)) : xq_Ok p l e R s mid args below meth c Q t nL n0 z0 x pc L st := by
  unfold xq_load at h
  split at h
  · rename_i v hv
    split at h
    · cases h
      intro H locs ls hH hS hL
      exact hi (by assumption) _ _ _ _ _ v _ (hL.2.2.2.1 kk _ hv (fun z => by cases z)) (k H locs ls hH hS hL)
    · cases h
  · rename_i v hv
    split at h
    · cases h
    · cases h
      rename_i hb
      intro H locs ls hH hS hL
      exact hr (by simpa using hb) _ _ _ _ _ _ _ (hL.2.2.2.1 kk _ hv (fun z => by cases z)) (k H locs ls hH hS hL)
  · rename_i hv
    split at h
    · cases h
    · cases h
      rename_i hb
      intro H locs ls hH hS hL
      exact hn (by simpa using hb) _ _ _ _ _ _ (hL.2.2.2.1 kk _ hv (fun z => by cases z)) (k H locs ls hH hS hL)
  · cases h
theorem xq_store_ok {kk : Nat} {int : Bool} (h : xq_store q x L st kk int = some (pc', x', L', st')) (k : xq_Ok p l e R s mid args below meth c Q t nL n0 z0 x' pc' L' st')
    (hi : int = true → ∀ (H : Heap) (locs : List Loc) (ls ls' : Array Slot) (ce sl : Nat) (v : Int32) (r : List Value), storeLocals ls kk (.int v) = some ls' → W p l e R s mid args below meth c H locs ce sl Q (F0 mid q ls' r) → W p l e R s mid args below meth c H locs ce sl Q (F0 mid pc ls (.int v :: r)))
    (hr : int = false → ∀ (H : Heap) (locs : List Loc) (ls ls' : Array Slot) (ce sl : Nat) (v : Nat) (r : List Value), storeLocals ls kk (.ref v) = some ls' → W p l e R s mid args below meth c H locs ce sl Q (F0 mid q ls' r) → W p l e R s mid args below meth c H locs ce sl Q (F0 mid pc ls (.ref v :: r))) : xq_Ok p l e R s mid args below meth c Q t nL n0 z0 x pc L st := by
  unfold xq_store at h
  split at h
  · rename_i v r
    split at h
    · rename_i hb
      simp only [Bool.and_eq_true, decide_eq_true_eq] at hb
      cases h
      intro H locs ls hH hS hL
      obtain ⟨ls', e1, e2⟩ := xq_L_set (v := .int v) hL hb.2 rfl
      exact hi hb.1 _ _ _ _ _ _ _ _ e1 (k H locs ls' hH hS e2)
    · cases h
  · rename_i v r
    split at h
    · rename_i hb
      simp only [Bool.and_eq_true, decide_eq_true_eq, Bool.not_eq_true'] at hb
      cases h
      intro H locs ls hH hS hL
      obtain ⟨ls', e1, e2⟩ := xq_L_set (v := .ref v) hL hb.2 rfl
      exact hr hb.1 _ _ _ _ _ _ _ _ e1 (k H locs ls' hH hS e2)
    · cases h
  · cases h
theorem xq_Wistore_n (hx : p.tables.exec = Jvm.exec) (hb : c.code = by_) {H : Heap} {locs : List Loc} {ce sl : Nat} {ls ls' : Array Slot} {r : List Value} {i : Fin 4} {v : Int32} (hd : decode by_ pc = .ok (.istore_n i, 1)) (e' : storeLocals ls i (.int v) = some ls') (k : W p l e R s mid args below meth c H locs ce sl Q (F0 mid (pc + 1) ls' r)) : W p l e R s mid args below meth c H locs ce sl Q (F0 mid pc ls (.int v :: r)) := by
  intro T hT X
  obtain ⟨t, a, b⟩ := k T hT X
  refine ⟨t, ?_, b⟩
  jvm_step X.here [X.here.top, ↓top_set X.here.top, hx, hb, hd, e']
  exact a
theorem xq_Wistore (hx : p.tables.exec = Jvm.exec) (hb : c.code = by_) {H : Heap} {locs : List Loc} {ce sl : Nat} {ls ls' : Array Slot} {r : List Value} {i : Nat} {v : Int32} (hd : decode by_ pc = .ok (.istore i, 2)) (e' : storeLocals ls i (.int v) = some ls') (k : W p l e R s mid args below meth c H locs ce sl Q (F0 mid (pc + 2) ls' r)) : W p l e R s mid args below meth c H locs ce sl Q (F0 mid pc ls (.int v :: r)) := by
  intro T hT X
  obtain ⟨t, a, b⟩ := k T hT X
  refine ⟨t, ?_, b⟩
  jvm_step X.here [X.here.top, ↓top_set X.here.top, hx, hb, hd, e']
  exact a
theorem xq_Wastore_n (hx : p.tables.exec = Jvm.exec) (hb : c.code = by_) {H : Heap} {locs : List Loc} {ce sl : Nat} {ls ls' : Array Slot} {r : List Value} {i : Fin 4} {v : Nat} (hd : decode by_ pc = .ok (.astore_n i, 1)) (e' : storeLocals ls i (.ref v) = some ls') (k : W p l e R s mid args below meth c H locs ce sl Q (F0 mid (pc + 1) ls' r)) : W p l e R s mid args below meth c H locs ce sl Q (F0 mid pc ls (.ref v :: r)) := by
  intro T hT X
  obtain ⟨t, a, b⟩ := k T hT X
  refine ⟨t, ?_, b⟩
  jvm_step X.here [X.here.top, ↓top_set X.here.top, hx, hb, hd, e', Value.isRef]
  exact a
theorem xq_Wastore (hx : p.tables.exec = Jvm.exec) (hb : c.code = by_) {H : Heap} {locs : List Loc} {ce sl : Nat} {ls ls' : Array Slot} {r : List Value} {i : Nat} {v : Nat} (hd : decode by_ pc = .ok (.astore i, 2)) (e' : storeLocals ls i (.ref v) = some ls') (k : W p l e R s mid args below meth c H locs ce sl Q (F0 mid (pc + 2) ls' r)) : W p l e R s mid args below meth c H locs ce sl Q (F0 mid pc ls (.ref v :: r)) := by
  intro T hT X
  obtain ⟨t, a, b⟩ := k T hT X
  refine ⟨t, ?_, b⟩
  jvm_step X.here [X.here.top, ↓top_set X.here.top, hx, hb, hd, e', Value.isRef]
  exact a
theorem xq_Wiinc (hx : p.tables.exec = Jvm.exec) (hb : c.code = by_) {H : Heap} {locs : List Loc} {ce sl : Nat} {ls ls' : Array Slot} {r : List Value} {i : Nat} {n : Int} {v : Int32} (hd : decode by_ pc = .ok (.iinc i n, 3)) (hg : ls[i]? = some (.val (.int v))) (e' : storeLocals ls i (.int (v + Int32.ofInt n)) = some ls') (k : W p l e R s mid args below meth c H locs ce sl Q (F0 mid (pc + 3) ls' r)) : W p l e R s mid args below meth c H locs ce sl Q (F0 mid pc ls r) := by
  intro T hT X
  obtain ⟨t, a, b⟩ := k T hT X
  refine ⟨t, ?_, b⟩
  jvm_step X.here [X.here.top, ↓top_set X.here.top, hx, hb, hd, hg, e']
  exact a
theorem xq_iinc_ok (Cx : xq_Cx t p R s mid args meth c o ini by_ nL) {i : Nat} {n : Int} (hd : decode by_ pc = .ok (.iinc i n, 3)) {a b : Nat} (h : xq_step (.iinc i n) a b pc x L st = some (pc', x', L', st')) (k : xq_Ok p l e R s mid args below meth c Q t nL n0 z0 x' pc' L' st') : xq_Ok p l e R s mid args below meth c Q t nL n0 z0 x pc L st := by
  simp only [xq_step] at h
  split at h
  · rename_i v hv
    cases h
    intro H locs ls hH hS hL
    obtain ⟨ls', e1, e2⟩ := xq_L_set (k := i) (v := .int (v + Int32.ofInt n)) hL (List.getElem?_eq_some_iff.mp hv).1 rfl
    exact xq_Wiinc Cx.1 Cx.2.1 hd (hL.2.2.2.1 i _ hv (fun z => by cases z)) e1 (k H locs ls' hH hS e2)
  · cases h
theorem xq_getf_ok (Cx : xq_Cx t p R s mid args meth c o ini by_ nL) {i ci k : Nat} (hd : decode by_ pc = .ok (.getfield i, 3)) (hok : xq_FL.contains (o, i, ci, k) = true) (h : xq_getf (pc + 3) x L st ci k = some (pc', x', L', st')) (kk : xq_Ok p l e R s mid args below meth c Q t nL n0 z0 x' pc' L' st') : xq_Ok p l e R s mid args below meth c Q t nL n0 z0 x pc L st := by
  obtain ⟨hc, hk, hw⟩ := xq_FL_ok hok
  unfold xq_getf at h
  split at h
  · rename_i a r
    split at h
    · rename_i hb
      simp only [Bool.and_eq_true, decide_eq_true_eq] at hb
      obtain ⟨⟨h1, h2⟩, h3⟩ := hb
      intro H locs ls hH hS hL
      have hP := hH.at h1
      rw [xq_ent_o (by omega), h2] at hP
      have hv : ((List.range (xq_K x a).2).map (xq_fl t x a))[k]? = some (xq_fl t x a k) := by simp [h3]
      refine va_get (C := xq_cn ci) (T := (xq_cd ci).2.1) (N := (xq_cd ci).2.2) (own := xq_cn o) (ref := ((xq_cd ci).2.1 k).1) Cx.1 Cx.2.1 Cx.2.2.2.2.1 (xq_cls2 hc) Cx.2.2.2.1 Cx.2.2.2.2.2.1 hP 0 rfl (xq_cls0 hc) k hk (Cx.2.2.2.2.1 _ hw) (fun _ z => z) hv hd ?_
      split at h
      · rename_i hf
        cases h
        have e1 : xq_fl t x a k = xq_sh t (xq_rv (xq_R x a k)) := by rw [xq_sh_rv]; simp only [xq_fl, h2, if_pos hf]
        rw [e1]
        exact kk H locs ls hH hS hL
      · rename_i hf
        cases h
        have e1 : xq_fl t x a k = .int (xq_I x a k) := by simp only [xq_fl, h2, if_neg hf]
        rw [e1]
        exact kk H locs ls hH hS hL
    · cases h
  · cases h
end xq_steps
