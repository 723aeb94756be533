/-! every instruction; calls; runs -/
section xq_rest
variable {p : Program} {l : Launch} {e : Env} {R : Room} {s : State} {mid : MethodId} {args : Array Value} {below : List Frame} {meth : Method} {c : Code} {Q : State → Prop}
variable {t : xq_Th} {o nL n0 z0 : Nat} {ini : Bool} {by_ : ByteArray} {x x' : xq_S} {q pc pc' : Nat} {L L' st st' r : List Value}
theorem xq_clone_ok (Cx : xq_Cx t p R s mid args meth c o ini by_ nL) {i b c' : Nat} (hd : decode by_ pc = .ok (.invokevirtual i, 3)) (hok : xq_KL.contains (o, i, 1002, b, c', 9) = true) (hr : xq_room r = true) (h3 : xq_N x < 100000) (hn : n0 ≤ xq_N x) (hz : z0 ≤ xq_Z x) (hR1 : xq_N x + 1 - n0 ≤ R.cells) (hR2 : xq_Z x + 12 - z0 ≤ R.slots)
    (kk : xq_Ok p l e R s mid args below meth c Q t nL n0 z0 ((xq_new x 100 12).1, (xq_new x 100 12).2.1, va_up x.2.2 (xq_N x) (fun j => (xq_sv.getD 0 []).getD j 0)) (pc + 3) L (.ref (xq_N x) :: r)) : xq_Ok p l e R s mid args below meth c Q t nL n0 z0 x pc L (.ref xq_tB :: r) := by
  intro H locs ls hH hS hL T hT X
  have hs := xq_room_sum (t := t) hr
  obtain ⟨cell, g1, g2, g3, g4, g5, g6⟩ := Cx.2.2.2.2.2.2.1.2
  have hcH : H[t.2.2.2.2.2 0]? = some cell := by rw [hS.2.1 _ (Array.getElem?_eq_some_iff.mp g1).1 g6]; exact g1
  have hnm : s.vm.findClass "[I" = some t.2.2.1.1 := va_nm_int (Cx.2.2.2.2.2.1.2 0 _ rfl).2
  obtain ⟨c0, t0', f1, f2, f3⟩ := Cond.castable_spec (va_Nw.use (A := args) rfl Cx.2.2.2.2.2.2.1.1.2.2.2.2.2.1)
  cases hnm.symm.trans f1
  obtain ⟨-, kA, hkA, comp, hkind⟩ := State.isArrayOf_alike X.warmed.alike ((Cx.2.2.2.2.2.1.2 0 _ rfl).1 0 (fun _ => .null))
  obtain ⟨-, kS, hkS, compS, hkindS⟩ := (Cx.2.2.2.2.2.1.2 0 _ rfl).1 0 (fun _ => .null)
  have hkS : s.vm.classes[t.2.2.1.1]? = some kS := hkS
  have hcellE : ({ cls := cell.cls, slots := cell.slots } : Cell) = vp_cell t.2.2.1.1 (12, .inl (fun j => (xq_sv.getD 0 []).getD j 0)) := by rw [g4, g5]; rfl
  have hsz : cell.slots.size = 12 := by rw [g5]; exact arrV_size _ _ _
  obtain ⟨vm', X', st⟩ := X.cloneArray Cx.1 Cx.2.2.2.1 (Cx.2.2.2.2.1 _ (xq_KL9 hok)) (Cx.2.2.2.2.1 _ xq_wk1) (Cx.2.2.2.2.1 _ xq_wk2) (Cx.2.2.2.2.1 _ xq_wk3) (Cx.2.2.2.2.1 _ xq_wk4) (a := t.2.2.2.2.2 0) (cell := cell) (by rw [hT]; exact hcH) g3 g2 (by rw [g4]; exact hnm) f2 (by rw [g4]; exact f3)
    (fun i v hv => by
      rw [g4]
      have hk' : T.vm.classes[t.2.2.1.1]? = some kA := hkA
      have hf : fits .int v = true := va_fit (cA := t.2.2.1.1) (n := 12) (F := fun j => .int ((xq_sv.getD 0 []).getD j 0)) (fun _ _ => rfl) i v (by rw [g5] at hv; exact hv)
      simpa [State.fitsSlot, State.slotType?, hk', hkind] using hf)
    (g := F0 mid pc ls (.ref (t.2.2.2.2.2 0) :: r.map (xq_sh t))) rfl (by rw [Cx.2.2.1]; exact hL.2.1) rfl (by rw [Cx.2.1]; exact hd) (by have := Cx.2.2.2.2.2.2.2.2.2.2.1; omega) (by show 2 * 0 + _ + 14 ≤ _; have := Cx.2.2.2.2.2.2.2.2.2.2.2; omega) (by omega) (by rw [hsz]; omega) (hloader := by rw [g4]; exact Vm.clonesLoader_of_array hkS hkindS)
  rw [hcellE, hsz] at X'
  rw [hcellE] at st
  generalize hH1 : H.push (vp_cell t.2.2.1.1 (12, .inl (fun j => (xq_sv.getD 0 []).getD j 0))) = H1
  have z1 : H1.size = H.size + 1 := by rw [← hH1, Array.size_push]
  have e1 : H1[H.size]? = some (vp_cell t.2.2.1.1 (12, .inl (fun j => (xq_sv.getD 0 []).getD j 0))) := by rw [← hH1, Array.getElem?_push_size]
  have o1 : ∀ q : Nat, q < H.size → H1[q]? = H[q]? := fun q hq => by rw [← hH1, Array.getElem?_push, if_neg (Nat.ne_of_lt hq)]
  have key := kk H1 locs ls (xq_H_new (x' := ((xq_new x 100 12).1, (xq_new x 100 12).2.1, va_up x.2.2 (xq_N x) (fun j => (xq_sv.getD 0 []).getD j 0))) hH (xq_sB_big h3) rfl (fun j hj => by
      have h : j ≠ xq_N x := by omega
      exact xq_ent_congr (va_up_ne _ _ h) (va_up_ne _ _ h) (va_up_ne _ _ h) (va_up_ne _ _ h)) z1 o1 (by
      rw [xq_ent_i (show (xq_K ((xq_new x 100 12).1, (xq_new x 100 12).2.1, va_up x.2.2 (xq_N x) (fun j => (xq_sv.getD 0 []).getD j 0)) (xq_N x)).1 = 100 from congrArg Prod.fst (va_up_self _ _ _))]
      show H1[H.size]? = some (vp_cell _ ((va_up _ (xq_N x) (100, 12) (xq_N x)).2, .inl (va_up x.2.2 (xq_N x) (fun j => (xq_sv.getD 0 []).getD j 0) (xq_N x))))
      rw [va_up_self, va_up_self, e1])) (xq_S_new hS z1 o1) hL
  rw [show xq_N ((xq_new x 100 12).1, (xq_new x 100 12).2.1, va_up x.2.2 (xq_N x) (fun j => (xq_sv.getD 0 []).getD j 0)) - n0 = xq_N x - n0 + 1 by show xq_N x + 1 - n0 = _; omega, show xq_Z ((xq_new x 100 12).1, (xq_new x 100 12).2.1, va_up x.2.2 (xq_N x) (fun j => (xq_sv.getD 0 []).getD j 0)) - z0 = xq_Z x - z0 + 12 by show xq_Z x + 12 - z0 = _; omega] at key
  have e3 : xq_ad t (xq_N x) = H.size := by rw [xq_ad_lt (xq_sB_big h3), hH.1]
  have key : W p l e R s mid args below meth c H1 locs (xq_N x - n0 + 1) (xq_Z x - z0 + 12) Q (F0 mid (pc + 3) ls (.ref (xq_ad t (xq_N x)) :: r.map (xq_sh t))) := key
  rw [e3] at key
  obtain ⟨t2, b1, b2⟩ := key _ (by rw [← hH1, ← hT]; rfl) X'
  refine ⟨t2, ?_, b2⟩
  have e4 : xq_ad t xq_tB = t.2.2.2.2.2 0 := by rw [xq_ad_t (Nat.lt_irrefl _), Nat.sub_self]
  show Steps p.tables e below (T.setTop (F0 mid pc ls (.ref (xq_ad t xq_tB) :: r.map (xq_sh t)))) t2
  rw [e4]
  refine st t2 ?_
  rw [hT]
  exact b1
end xq_rest
