/-! contracts by states of the abstract machine; fill of longs; clone -/
def xq_Q (t : xq_Th) (v : Option Value) (x' : xq_S) : Array Value → State → Outcome → State → Prop := fun _ st o u => o = .returned v ∧ xq_H t x' u.heap ∧ va_F (xq_A t) st u
def xq_P (t : xq_Th) (x : xq_S) (U : State) : Prop := xq_EE t U ∧ xq_H t x U.heap ∧ va_K t.2.1 xq_cl (xq_tys t) U
theorem xq_P_same {t : xq_Th} {x : xq_S} {U V : State} (hv : V.vm = U.vm) (hh : V.heap = U.heap) (h : xq_P t x U) : xq_P t x V := by
  refine ⟨xq_EE_same hv hh h.1, by rw [hh]; exact h.2.1, ?_⟩
  refine va_K.moved ?_ h.2.2
  rw [hv]
  exact Vm.Alike.refl _
theorem xq_blindP {t : xq_Th} {x : xq_S} {av : List Value} : FrameBlind (va_Pc av (fun U => xq_P t x U)) := fun a U g mk h => ⟨h.1, xq_P_same (U := U) rfl rfl h.2⟩
theorem xq_PreP {t : xq_Th} {x : xq_S} {s : State} {H : Heap} {locs : List Loc} (hE : xq_EE t s) (hK : va_K t.2.1 xq_cl (xq_tys t) s) (hH : xq_H t x H) (hS : va_S (xq_A t) s.heap H locs) (As : List Value) : PreS s H (va_Pc As (fun U => xq_P t x U)) As := ⟨xq_blindP, fun U hU hW => ⟨rfl, hE.moved hW (by rw [hU]; exact hS), by rw [hU]; exact hH, va_K.moved hW.alike hK⟩⟩
section xq_fills
variable {p : Program} {l : Launch} {e : Env} {R : Room} {s : State} {mid : MethodId} {args : Array Value} {below : List Frame} {meth : Method} {c : Code} {H : Heap} {locs : List Loc} {cells slots mc ms : Nat} {Q : State → Prop} {t : xq_Th} {x' : xq_S}
theorem xq_callq {pc : Nat} {ls : Array Slot} {st0 rest : List Value} {v : Option Value} {a : Array Value} (hr : va_Run p l e R s mid args below meth c H locs cells slots mc ms (F0 mid pc ls st0) rest (xq_Q t v x' a) (xq_A t)) (hS : va_S (xq_A t) s.heap H locs) (kk : ∀ (H1 : Heap) (locs1 : List Loc), xq_H t x' H1 → va_S (xq_A t) s.heap H1 locs1 → W p l e R s mid args below meth c H1 locs1 (cells + mc) (slots + ms) Q (F0 mid (pc + 3) ls (v.toList ++ rest))) : W p l e R s mid args below meth c H locs cells slots Q (F0 mid pc ls st0) := by
  intro T hT X
  obtain ⟨v', st₀, u, T', Lc, h0, X', hL, e1, e2, ⟨hv, hH, hz, hk⟩, st⟩ := hr T hT X
  cases hv
  rw [h0] at hz hk
  obtain ⟨t2, a1, b1⟩ := kk T'.heap (locs ++ Lc) (by rw [e1]; exact hH) ⟨Nat.le_trans hS.1 (by rw [e1]; exact hz), fun q h1 h2 => by rw [e1, hk q (Nat.lt_of_lt_of_le h1 hS.1) h2]; exact hS.2.1 q h1 h2, fun q hq => by
      rcases List.mem_append.mp hq with h | h
      · exact hS.2.2 q h
      · exact hL q h⟩ T' rfl X'
  exact ⟨t2, st t2 a1, b1⟩
end xq_fills
/-- the state with the first i longs of a set to v -/
def xq_fs (x : xq_S) (a : Nat) (v : Int64) (i : Nat) : xq_S := (x.1, va_up x.2.1 a (fun j => if j < i then v else x.2.1 a j), x.2.2)
theorem xq_fs_0 {t : xq_Th} {x : xq_S} {a : Nat} {v : Int64} {H : Heap} (h : xq_H t x H) : xq_H t (xq_fs x a v 0) H := by
  refine ⟨h.1, h.2.1, fun k hk => ?_⟩
  have e1 : xq_ent t (xq_fs x a v 0) k = xq_ent t x k := by
    refine xq_ent_congr rfl rfl ?_ rfl
    show va_up x.2.1 a (fun j => if j < 0 then v else x.2.1 a j) k = x.2.1 k
    by_cases hka : k = a
    · subst hka
      rw [va_up_self]
      funext j
      rw [if_neg (Nat.not_lt_zero j)]
    · exact va_up_ne _ _ hka
  rw [e1]
  exact h.2.2 k hk
theorem xq_fs_step (f : Nat → Int64) (v : Int64) (i : Nat) : updV (fun j => Value.long (if j < i then v else f j)) i (.long v) = fun j => Value.long (if j < i + 1 then v else f j) := by
  funext j
  by_cases h : j = i
  · subst h
    simp [updV]
  · by_cases h2 : j < i
    · simp [updV, h, h2, Nat.lt_succ_of_lt h2]
    · have h3 : ¬ j < i + 1 := by omega
      simp [updV, h, h2, h3]
set_option maxHeartbeats 2000000 in
theorem xq_m_fill (l : Launch) (t : xq_Th) {x : xq_S} {a : Nat} {v : Int64} (ha : a < xq_N x) (hK1 : (xq_K x a).1 = 101) (hN : (xq_K x a).2 < 1000000) : Met l xq_yf (Cond.code xq_yf prog_22_method_101_code 5 none :: xq_gw) ({ frames := 0, cells := 0, slots := 0, locals := 0 }) (va_Pc [.ref (xq_ad t a), .long v] (fun U => xq_P t x U)) (xq_Q t none (xq_fs x a v (xq_K x a).2)) 0 0 (xq_A t) := by
  refine va_MetF (cc := prog_22_method_101_code) (maxL := 5) (ret := none) (by decide +kernel) rfl ?_
  intro p e s m args below meth c s₁ B hml hv
  obtain ⟨rfl, hE, hH, hK⟩ := hv
  have hx := B.exec
  have hb := B.bytes
  have hr := B.returns
  have hlocks := B.notSynchronized
  have hl := lv_entry ([.ref (xq_ad t a), .long v]) (n := 5) (Nat.le_of_ble_eq_true rfl)
  rw [lg_entry_eq]
  generalize (lg_sl ([.ref (xq_ad t a), .long v]) ++ List.replicate (5 - (lg_sl ([.ref (xq_ad t a), .long v])).length) Slot.unset).toArray = ls at hl ⊢
  have hl : lv_has ls 5 [(0, .ref (xq_ad t a)), (1, .long v)] := hl
  have loop : ∀ (k i : Nat), i + k = (xq_K x a).2 → ∀ (H : Heap) (locs : List Loc) (ls : Array Slot), xq_H t (xq_fs x a v i) H → va_S (xq_A t) s.heap H locs → lv_has ls 5 [(3, .int (nI i)), (4, .int (nI (xq_K x a).2)), (0, .ref (xq_ad t a)), (1, .long v)] → W p l e (headSpec (Cond.code xq_yf prog_22_method_101_code 5 none :: xq_gw) { frames := 0, cells := 0, slots := 0, locals := 0 }).room s m #[Value.ref (xq_ad t a), Value.long v] below meth c H locs 0 0 (MQ below (xq_Q t none (xq_fs x a v (xq_K x a).2)) #[Value.ref (xq_ad t a), Value.long v] s 0 0 (xq_A t)) (F0 m 6 ls []) := by
    intro k
    induction k with
    | zero =>
      intro i hi H locs ls hH hS hl
      have hi : i = (xq_K x a).2 := by omega
      subst hi
      refine lv_iload_n hx hb xq_yf_6 rfl (lv_at hl 0 rfl) ?_
      refine lv_iload hx hb xq_yf_7 (lv_at hl 1 rfl) ?_
      refine lv_icmp_ge (tgt := 22) hx hb xq_yf_9 (by decide) (fun _ => ?_) (fun z => absurd (nI_le (Nat.le_refl _) (by omega)) z)
      exact W.vret hx hb hr (fun t' ht _ => ⟨rfl, by rw [ht]; exact hH, hS.F ht⟩) hS.2.2 xq_yf_22
    | succ k ih =>
      intro i hi H locs ls hH hS hl
      refine lv_iload_n hx hb xq_yf_6 rfl (lv_at hl 0 rfl) ?_
      refine lv_iload hx hb xq_yf_7 (lv_at hl 1 rfl) ?_
      refine lv_icmp_ge (tgt := 22) hx hb xq_yf_9 (by decide) (fun z => absurd z (nI_ge (by omega) (by omega))) (fun _ => ?_)
      refine lv_aload_n hx hb xq_yf_12 rfl (lv_at hl 2 rfl) ?_
      refine lv_iload_n hx hb xq_yf_13 rfl (lv_at hl 0 rfl) ?_
      refine lv_lload_n hx hb xq_yf_14 rfl (lv_at hl 3 rfl) ?_
      have ha' : a < xq_N (xq_fs x a v i) := ha
      have hP := hH.2.2 a ha'
      rw [← hH.lt ha', xq_ent_l (show (xq_K (xq_fs x a v i) a).1 = 101 from hK1)] at hP
      have hP : H[xq_ad t a]? = some (vp_cell t.2.2.1.2.1 ((xq_K x a).2, .inr (.inl (va_up x.2.1 a (fun j => if j < i then v else x.2.1 a j) a)))) := hP
      rw [va_up_self] at hP
      have hc : (nI i).toNatClampNeg = i := nI_clamp (by omega)
      refine W.last (g := F0 m 15 ls _) hx hb hP ((hK.2 1 _ rfl).1 _ (fun j => .long (if j < i then v else x.2.1 a j))) (fun z => by cases z) (by show ¬ (_ ∨ (arrV _ _ _).slots.size ≤ _); rw [arrV_size]; exact vp_in_nI (by omega) (by omega)) rfl rfl xq_yf_15 fun H1 e1 z1 oq => ?_
      rw [hc] at e1
      have hH1 : xq_H t (xq_fs x a v (i + 1)) H1 := by
        refine xq_H_set (x' := xq_fs x a v (i + 1)) hH ha' rfl (fun j hj => xq_ent_congr rfl rfl ?_ rfl) z1 oq ?_
        · show va_up _ _ _ j = va_up _ _ _ j
          rw [va_up_ne _ _ hj, va_up_ne _ _ hj]
        · rw [xq_ent_l (show (xq_K (xq_fs x a v (i + 1)) a).1 = 101 from hK1)]
          show H1[xq_ad t a]? = some (vp_cell _ ((xq_K x a).2, .inr (.inl (va_up x.2.1 a (fun j => if j < i + 1 then v else x.2.1 a j) a))))
          rw [va_up_self, e1, vp_cell_l, vp_cell_l, arrV_store, xq_fs_step]
      refine lv_iinc (v := nI (i + 1)) (lv' := [(3, .int (nI (i + 1))), (4, .int (nI (xq_K x a).2)), (0, .ref (xq_ad t a)), (1, .long v)]) hx hb xq_yf_16 hl (k := 0) rfl (nI_1 i) (by decide) rfl (fun ls hl => ?_)
      refine lv_goto (tgt := 6) hx hb xq_yf_19 (by show ((19 : Nat) : Int) + -13 = ((6 : Nat) : Int); decide) ?_
      exact ih (i + 1) (by omega) H1 _ ls hH1 (hS.put z1 oq (by show t.1 ≤ _; rw [hH.lt ha']; omega)) hl
  refine lv_iconst (v := 0) hx hb xq_yf_0 (by decide) ?_
  refine lv_istore_n (lv' := [(3, .int 0), (0, .ref (xq_ad t a)), (1, .long v)]) hx hb xq_yf_1 rfl hl (by decide) rfl (fun ls hl => ?_)
  refine lv_aload_n hx hb xq_yf_2 rfl (lv_at hl 1 rfl) ?_
  have hP := hH.at ha
  rw [xq_ent_l hK1] at hP
  refine va_alen (v := nI (xq_K x a).2) hx hb hK hP 0 1 rfl rfl rfl xq_yf_3 ?_
  refine lv_istore (lv' := [(4, .int (nI (xq_K x a).2)), (3, .int 0), (0, .ref (xq_ad t a)), (1, .long v)]) hx hb xq_yf_4 hl (by decide) rfl (fun ls hl => ?_)
  exact loop _ 0 (Nat.zero_add _) s.heap [] ls (xq_fs_0 hH) va_S.rf (lv_sub hl [1, 0, 2, 3] rfl)
