/-! arrays: loads, stores, lengths; new cells; static arrays and constants -/
theorem xq_ad_t {t : xq_Th} {a : Nat} (h : ¬ a < xq_tB) : xq_ad t a = t.2.2.2.2.2 (a - xq_tB) := by
  have h1 : ¬ a < xq_sB := by
    have : xq_sB < xq_tB := by decide
    omega
  simp only [xq_ad, if_neg h1, if_neg h]
section xq_arrs
variable {p : Program} {l : Launch} {e : Env} {R : Room} {s : State} {mid : MethodId} {args : Array Value} {below : List Frame} {meth : Method} {c : Code} {Q : State → Prop}
variable {t : xq_Th} {o nL n0 z0 : Nat} {ini : Bool} {by_ : ByteArray} {x x' : xq_S} {q pc pc' : Nat} {L L' st st' r : List Value}
theorem xq_iaload_ok (Cx : xq_Cx t p R s mid args meth c o ini by_ nL) (hd : decode by_ pc = .ok (.iaload, 1)) (h : xq_aload (pc + 1) x L st 100 = some (pc', x', L', st')) (kk : xq_Ok p l e R s mid args below meth c Q t nL n0 z0 x' pc' L' st') : xq_Ok p l e R s mid args below meth c Q t nL n0 z0 x pc L st := by
  unfold xq_aload at h
  split at h
  · rename_i i a r
    split at h
    · split at h
      · rename_i hb
        simp only [Bool.and_eq_true, decide_eq_true_eq] at hb
        obtain ⟨⟨h1, h2⟩, h3⟩ := hb
        cases h
        intro H locs ls hH hS hL
        have hP := hH.at h1
        rw [xq_ent_i h2] at hP
        exact va_iald Cx.1 Cx.2.1 Cx.2.2.2.2.2.1 hP 0 0 rfl rfl (xq_in_vp h3) hd (kk H locs ls hH hS hL)
      · cases h
    · split at h
      · rename_i ha hb
        simp only [Bool.and_eq_true, decide_eq_true_eq] at hb
        obtain ⟨⟨-, h2⟩, h3⟩ := hb
        cases h
        intro H locs ls hH hS hL
        have hT := (Cx.2.2.2.2.2.2.1.1.1 (a - xq_tB) h2).2
        show W _ _ _ _ _ _ _ _ _ _ _ _ _ _ _ (F0 mid pc ls (.int i :: .ref (xq_ad t a) :: r.map (xq_sh t)))
        rw [xq_ad_t ha]
        exact va_ti Cx.1 Cx.2.1 hT hS (xq_in_vp h3) rfl hd (kk H locs ls hH hS hL)
      · cases h
  · cases h
theorem xq_laload_ok (Cx : xq_Cx t p R s mid args meth c o ini by_ nL) (hd : decode by_ pc = .ok (.laload, 1)) (h : xq_aload (pc + 1) x L st 101 = some (pc', x', L', st')) (kk : xq_Ok p l e R s mid args below meth c Q t nL n0 z0 x' pc' L' st') : xq_Ok p l e R s mid args below meth c Q t nL n0 z0 x pc L st := by
  unfold xq_aload at h
  split at h
  · rename_i i a r
    split at h
    · split at h
      · rename_i hb
        simp only [Bool.and_eq_true, decide_eq_true_eq] at hb
        obtain ⟨⟨h1, h2⟩, h3⟩ := hb
        cases h
        intro H locs ls hH hS hL
        have hP := hH.at h1
        rw [xq_ent_l h2] at hP
        exact va_lald Cx.1 Cx.2.1 Cx.2.2.2.2.2.1 hP 0 1 rfl rfl (xq_in_vp h3) hd (kk H locs ls hH hS hL)
      · cases h
    · split at h
      · rename_i hb
        simp at hb
      · cases h
  · cases h
theorem xq_aaload_ok (Cx : xq_Cx t p R s mid args meth c o ini by_ nL) (hd : decode by_ pc = .ok (.aaload, 1)) (h : xq_aload (pc + 1) x L st 102 = some (pc', x', L', st')) (kk : xq_Ok p l e R s mid args below meth c Q t nL n0 z0 x' pc' L' st') : xq_Ok p l e R s mid args below meth c Q t nL n0 z0 x pc L st := by
  unfold xq_aload at h
  split at h
  · rename_i i a r
    split at h
    · split at h
      · rename_i hb
        simp only [Bool.and_eq_true, decide_eq_true_eq] at hb
        obtain ⟨⟨h1, h2⟩, h3⟩ := hb
        cases h
        intro H locs ls hH hS hL
        have hP := hH.at h1
        rw [xq_ent_q h2] at hP
        refine va_aldq Cx.1 Cx.2.1 Cx.2.2.2.2.2.1 hP 0 2 rfl rfl (xq_in_vp h3) hd ?_
        have := kk H locs ls hH hS hL
        simp only [List.map_cons] at this
        rw [show xq_sh t (if (102 : Nat) = 100 then Value.int (xq_I x a i.toNatClampNeg) else if (102 : Nat) = 101 then Value.long (xq_J x a i.toNatClampNeg) else xq_rv (xq_R x a i.toNatClampNeg)) = va_rf (xq_rr t (xq_R x a i.toNatClampNeg)) from xq_sh_rv t _] at this
        exact this
      · cases h
    · split at h
      · rename_i hb
        simp at hb
      · cases h
  · cases h
theorem xq_alen_ok (Cx : xq_Cx t p R s mid args meth c o ini by_ nL) (hd : decode by_ pc = .ok (.arraylength, 1)) (h : xq_alen (pc + 1) x L st = some (pc', x', L', st')) (kk : xq_Ok p l e R s mid args below meth c Q t nL n0 z0 x' pc' L' st') : xq_Ok p l e R s mid args below meth c Q t nL n0 z0 x pc L st := by
  unfold xq_alen at h
  split at h
  · rename_i a r
    split at h
    · split at h
      · rename_i hb
        simp only [Bool.and_eq_true, decide_eq_true_eq] at hb
        obtain ⟨⟨h1, h2⟩, h3⟩ := hb
        cases h
        intro H locs ls hH hS hL
        have hP := hH.at h1
        rcases (show (xq_K x a).1 = 100 ∨ (xq_K x a).1 = 101 ∨ (xq_K x a).1 = 102 by omega) with h4 | h4 | h4
        · rw [xq_ent_i h4] at hP
          exact va_alen Cx.1 Cx.2.1 Cx.2.2.2.2.2.1 hP 0 0 rfl rfl rfl hd (kk H locs ls hH hS hL)
        · rw [xq_ent_l h4] at hP
          exact va_alen Cx.1 Cx.2.1 Cx.2.2.2.2.2.1 hP 0 1 rfl rfl rfl hd (kk H locs ls hH hS hL)
        · rw [xq_ent_q h4] at hP
          exact va_alen Cx.1 Cx.2.1 Cx.2.2.2.2.2.1 hP 0 2 rfl rfl rfl hd (kk H locs ls hH hS hL)
      · cases h
    · split at h
      · rename_i ha hb
        cases h
        intro H locs ls hH hS hL
        have hT := (Cx.2.2.2.2.2.2.1.1.1 (a - xq_tB) hb).2
        show W _ _ _ _ _ _ _ _ _ _ _ _ _ _ _ (F0 mid pc ls (.ref (xq_ad t a) :: r.map (xq_sh t)))
        rw [xq_ad_t ha]
        exact va_tlen Cx.1 Cx.2.1 hT hS rfl hd (kk H locs ls hH hS hL)
      · cases h
  · cases h
theorem xq_upd_up (f : Nat → Int32) (k : Nat) (v : Int32) : (fun j => Value.int (upd f k v j)) = updV (fun j => .int (f j)) k (.int v) := by
  funext j
  by_cases h : j = k <;> simp [upd, updV, h]
theorem xq_iastore_ok (Cx : xq_Cx t p R s mid args meth c o ini by_ nL) (hd : decode by_ pc = .ok (.iastore, 1)) (h : xq_astore (pc + 1) x L st 100 = some (pc', x', L', st')) (kk : xq_Ok p l e R s mid args below meth c Q t nL n0 z0 x' pc' L' st') : xq_Ok p l e R s mid args below meth c Q t nL n0 z0 x pc L st := by
  unfold xq_astore at h
  split at h
  · rename_i v i a r
    split at h
    · rename_i hb
      simp only [Bool.and_eq_true, decide_eq_true_eq] at hb
      obtain ⟨⟨⟨h1, -⟩, h2⟩, h3⟩ := hb
      cases h
      intro H locs ls hH hS hL
      have hP := hH.2.2 a h1
      rw [← hH.lt h1, xq_ent_i h2] at hP
      have hin := xq_in_vp h3
      refine W.iast (cell := vp_cell t.2.2.1.1 ((xq_K x a).2, .inl (xq_I x a))) Cx.1 Cx.2.1 hP ((Cx.2.2.2.2.2.1.2 0 _ rfl).1 _ (fun j => .int (xq_I x a j))) (fun z => by cases z) (by show ¬ (i < 0 ∨ (arrV _ _ _).slots.size ≤ _); rw [arrV_size]; exact hin) rfl rfl hd fun H1 e1 z1 oq => ?_
      refine kk H1 _ ls (xq_H_set (x' := xq_setI x a i.toNatClampNeg v) hH h1 rfl (fun j hj => xq_ent_congr rfl rfl rfl (va_up_ne _ _ hj)) z1 oq ?_) (hS.put z1 oq (by show t.1 ≤ _; rw [hH.lt h1]; omega)) hL
      rw [xq_ent_i (show (xq_K (xq_setI x a i.toNatClampNeg v) a).1 = 100 from h2)]
      show H1[xq_ad t a]? = some (vp_cell _ (_, .inl (va_up x.2.2 a (upd (x.2.2 a) i.toNatClampNeg v) a)))
      rw [e1, va_up_self, vp_cell_i, vp_cell_i, arrV_store, xq_upd_up]
      rfl
    · cases h
  · split at h
    · rename_i hb
      simp at hb
    · cases h
  · split at h
    · rename_i hb
      simp at hb
    · cases h
  · cases h
theorem xq_upd_upL (f : Nat → Int64) (k : Nat) (v : Int64) : (fun j => Value.long (vp_updL f k v j)) = updV (fun j => .long (f j)) k (.long v) := by
  funext j
  by_cases h : j = k <;> simp [vp_updL, updV, h]
theorem xq_lastore_ok (Cx : xq_Cx t p R s mid args meth c o ini by_ nL) (hd : decode by_ pc = .ok (.lastore, 1)) (h : xq_astore (pc + 1) x L st 101 = some (pc', x', L', st')) (kk : xq_Ok p l e R s mid args below meth c Q t nL n0 z0 x' pc' L' st') : xq_Ok p l e R s mid args below meth c Q t nL n0 z0 x pc L st := by
  unfold xq_astore at h
  split at h
  · split at h
    · rename_i hb
      simp at hb
    · cases h
  · rename_i v i a r
    split at h
    · rename_i hb
      simp only [Bool.and_eq_true, decide_eq_true_eq] at hb
      obtain ⟨⟨⟨h1, -⟩, h2⟩, h3⟩ := hb
      cases h
      intro H locs ls hH hS hL
      have hP := hH.2.2 a h1
      rw [← hH.lt h1, xq_ent_l h2] at hP
      have hin := xq_in_vp h3
      refine W.last (cell := vp_cell t.2.2.1.2.1 ((xq_K x a).2, .inr (.inl (xq_J x a)))) Cx.1 Cx.2.1 hP ((Cx.2.2.2.2.2.1.2 1 _ rfl).1 _ (fun j => .long (xq_J x a j))) (fun z => by cases z) (by show ¬ (i < 0 ∨ (arrV _ _ _).slots.size ≤ _); rw [arrV_size]; exact hin) rfl rfl hd fun H1 e1 z1 oq => ?_
      refine kk H1 _ ls (xq_H_set (x' := xq_setJ x a i.toNatClampNeg v) hH h1 rfl (fun j hj => xq_ent_congr rfl rfl (va_up_ne _ _ hj) rfl) z1 oq ?_) (hS.put z1 oq (by show t.1 ≤ _; rw [hH.lt h1]; omega)) hL
      rw [xq_ent_l (show (xq_K (xq_setJ x a i.toNatClampNeg v) a).1 = 101 from h2)]
      show H1[xq_ad t a]? = some (vp_cell _ (_, .inr (.inl (va_up x.2.1 a (vp_updL (x.2.1 a) i.toNatClampNeg v) a))))
      rw [e1, va_up_self, vp_cell_l, vp_cell_l, arrV_store, xq_upd_upL]
      rfl
    · cases h
  · split at h
    · rename_i hb
      simp at hb
    · cases h
  · cases h
theorem xq_upd_upR (t : xq_Th) (f : Nat → Option Nat) (k b : Nat) : (fun j => va_rf (xq_rr t (va_up f k (some b) j))) = updV (fun j => va_rf (xq_rr t (f j))) k (.ref (xq_ad t b)) := by
  funext j
  by_cases h : j = k <;> simp [va_up, updV, h, xq_rr, va_rf]
theorem xq_aastore_ok (Cx : xq_Cx t p R s mid args meth c o ini by_ nL) (hd : decode by_ pc = .ok (.aastore, 1)) (h : xq_astore (pc + 1) x L st 102 = some (pc', x', L', st')) (kk : xq_Ok p l e R s mid args below meth c Q t nL n0 z0 x' pc' L' st') : xq_Ok p l e R s mid args below meth c Q t nL n0 z0 x pc L st := by
  unfold xq_astore at h
  split at h
  · split at h
    · rename_i hb
      simp at hb
    · cases h
  · split at h
    · rename_i hb
      simp at hb
    · cases h
  · rename_i b i a r
    split at h
    · rename_i hb
      simp only [Bool.and_eq_true, decide_eq_true_eq] at hb
      obtain ⟨⟨⟨⟨⟨h1, h5⟩, h6⟩, -⟩, h2⟩, h3⟩ := hb
      cases h
      intro H locs ls hH hS hL
      have hP := hH.2.2 a h1
      rw [← hH.lt h1, xq_ent_q h2] at hP
      have hin := xq_in_vp h3
      have hV := hH.2.2 b h5
      rw [← hH.lt h5, xq_ent_o (by omega), h6] at hV
      have hK := Cx.2.2.2.2.2.1
      have hlt : i.toNatClampNeg < (xq_K x a).2 := Nat.not_le.mp fun z => hin (Or.inr z)
      have h0 : ¬ i < 0 := fun z => hin (Or.inl z)
      obtain ⟨r', hr', cellV, g1, g2, g3, -⟩ := hV
      have hcls := (hK.1 6 _ (xq_cls0 (show 6 < 13 by decide))).2
      obtain ⟨kA, comp, k1, k2, k3, -⟩ := (hK.2 2 _ rfl).2
      have hcomp : comp = t.2.1.1 6 := Option.some.inj (k3.symm.trans hcls.1)
      subst hcomp
      obtain ⟨kC, hkC, -⟩ := hcls.2
      refine W.aast Cx.1 Cx.2.1 hP (fun q h => by cases h) (fun h => by cases h) k1 k2 rfl hkC ⟨h0, by show _ < (arrV _ _ _).slots.size; rw [arrV_size]; exact hlt⟩ g1 (fun q h => by rw [g3] at h; cases h) (by rw [g2]; exact hkC) (by rw [g2]; exact va_assign hcls) rfl rfl hd fun H1 e1 z1 oq => ?_
      refine kk H1 _ ls (xq_H_set (x' := xq_setR x a i.toNatClampNeg (some b)) hH h1 rfl (fun j hj => xq_ent_congr rfl (va_up_ne _ _ hj) rfl rfl) z1 oq ?_) (hS.put z1 oq (by show t.1 ≤ _; rw [hH.lt h1]; omega)) hL
      rw [xq_ent_q (show (xq_K (xq_setR x a i.toNatClampNeg (some b)) a).1 = 102 from h2)]
      show H1[xq_ad t a]? = some (vp_cell _ (_, .inr (.inr (.inr (.inr (fun j => xq_rr t (va_up x.1.2.2.2 a (va_up (x.1.2.2.2 a) i.toNatClampNeg (some b)) a j)))))))
      rw [e1, va_up_self, vp_cell_q, vp_cell_q, arrV_store, xq_upd_upR]
      rfl
    · cases h
  · cases h
end xq_arrs
