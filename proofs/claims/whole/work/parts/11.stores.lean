/-! stores into fields and arrays -/
theorem xq_map_set {α : Type} (f : Nat → α) (n k : Nat) (v : α) : ((List.range n).map f).set k v = (List.range n).map (fun j => if j = k then v else f j) := by
  apply List.ext_getElem?
  intro i
  by_cases hi : i < n
  · by_cases hk : i = k
    · subst hk
      rw [List.getElem?_set_self (by simpa using hi)]
      simp [hi]
    · rw [List.getElem?_set_ne (Ne.symm hk)]
      simp [hi, hk]
  · rw [List.getElem?_eq_none (by simp; omega), List.getElem?_eq_none (by simp; omega)]
theorem xq_ent_congr {t : xq_Th} {x x' : xq_S} {k : Nat} (hK : xq_K x' k = xq_K x k) (hR : xq_R x' k = xq_R x k) (hJ : xq_J x' k = xq_J x k) (hI : xq_I x' k = xq_I x k) : xq_ent t x' k = xq_ent t x k := by
  have h : xq_fl t x' k = xq_fl t x k := by funext j; simp only [xq_fl, hK, hR, hI]
  simp only [xq_ent, hK, hR, hJ, hI, h]
section xq_puts
variable {p : Program} {l : Launch} {e : Env} {R : Room} {s : State} {mid : MethodId} {args : Array Value} {below : List Frame} {meth : Method} {c : Code} {Q : State → Prop}
variable {t : xq_Th} {o nL n0 z0 : Nat} {ini : Bool} {by_ : ByteArray} {x x' : xq_S} {q pc pc' : Nat} {L L' st st' r : List Value}
theorem xq_put_gen (Cx : xq_Cx t p R s mid args meth c o ini by_ nL) {i ci k a : Nat} (hd : decode by_ pc = .ok (.putfield i, 3)) (hok : xq_FL.contains (o, i, ci, k) = true) (hfn : (!xq_fin ci k || ini && decide (ci = o)) = true) (h1 : a < xq_N x) (h2 : (xq_K x a).1 = ci) (h3 : k < (xq_K x a).2) {w : Value} (hn : narrow (xq_ty ci k) w = w) (hfit : fits (xq_ty ci k) w = true) (hN : xq_N x' = xq_N x) (hZ : xq_Z x' = xq_Z x) (he : ∀ j, j ≠ a → xq_ent t x' j = xq_ent t x j) (he2 : xq_ent t x' a = .inr (ci, ((List.range (xq_K x a).2).map (xq_fl t x a)).set k w))
    (kk : xq_Ok p l e R s mid args below meth c Q t nL n0 z0 x' (pc + 3) L r) (H : Heap) (locs : List Loc) (ls : Array Slot) (hH : xq_H t x H) (hS : va_S (xq_A t) s.heap H locs) (hL : xq_L t nL L ls) : W p l e R s mid args below meth c H locs (xq_N x - n0) (xq_Z x - z0) Q (F0 mid pc ls (w :: .ref (xq_ad t a) :: r.map (xq_sh t))) := by
  obtain ⟨hc, hk, hw⟩ := xq_FL_ok hok
  obtain ⟨hx, hb, hml, hown, hts, hK, hE, hlk, hB, hini, hRf, hRl⟩ := Cx
  have hlink := hts _ hw
  have hin := xq_cls2 hc
  have hcl := xq_cls0 hc
  have hap := va_apart (own := xq_cn o) hts hin (xq_ty ci) (xq_cls3 hc) (xq_cls5 hc) hK hcl
  have hP := hH.2.2 a h1
  rw [← hH.lt h1, xq_ent_o (by omega), h2] at hP
  obtain ⟨r', g1, cell, q1, q2, q3, q4⟩ := hP
  have hr : r' = (xq_cn ci, (xq_cd ci).2) := Option.some.inj (g1.symm.trans hcl)
  subst hr
  obtain ⟨hSl, hfc, kC, hkC, hkind⟩ := hK.1 ci _ hcl
  obtain ⟨cf, kf, fi, f, hi, hsl⟩ := hSl k hk
  have hlay := hts _ (hin _ (u_in_lay hk))
  have hst := (u_facts hfc hkC (u_lays hts hin hk) hi).1
  have hl : k < ((List.range (xq_K x a).2).map (xq_fl t x a)).length := by simpa using h3
  have fin : ∀ (H' : Heap), H'[xq_ad t a]? = some (cell.setSlot f.slot w) → H'.size = H.size → (∀ q, q ≠ xq_ad t a → H'[q]? = H[q]?) → W p l e R s mid args below meth c H' (locs ++ [⟨xq_ad t a, f.slot⟩]) (xq_N x - n0) (xq_Z x - z0) Q (F0 mid (pc + 3) ls (r.map (xq_sh t))) := by
    intro H' e1 e2 e3
    rw [hsl] at e1 ⊢
    have := kk H' (locs ++ [⟨xq_ad t a, t.2.1.2 ci k⟩]) ls (xq_H_set hH h1 hN he e2 e3 (by
      rw [he2]
      exact ⟨_, hcl, t_OB.to (V := updV (vp_V ((List.range (xq_K x a).2).map (xq_fl t x a))) k w) ⟨_, e1, q2, q3, t_set q4 hap hk w⟩ (fun j _ => vp_updV_set hl w j)⟩)) (hS.put e2 e3 (by show t.1 ≤ _; rw [hH.lt h1]; omega)) hL
    rw [hN, hZ] at this
    exact this
  unfold u_lay at hlay
  by_cases hf : ((xq_cd ci).2.1 k).2.2.2 = true
  · rw [if_pos hf] at hlay
    have hf' : xq_fin ci k = true := hf
    rw [hf'] at hfn
    simp only [Bool.not_true, Bool.false_or, Bool.and_eq_true, decide_eq_true_eq] at hfn
    have hcf : mid.cls = cf := by
      obtain ⟨_, _, c', _, _, _, -, -, hf', -, -, -, hown2, -⟩ := Cond.laysFinal_spec hlay
      have e1 : c' = cf := by have := hi.symm.trans hf'; simp at this; exact this.1.symm
      rw [xq_cls3b hc k hk, hfn.2] at hown2
      rw [← e1]; exact Option.some.inj (hown.symm.trans hown2)
    have h6 := u_fits hfc hkC hkind (Or.inr hlay) hi (xq_cls3 hc k hk) hn hfit
    exact W.putFinK hx hb hown hlink hi hst hcf (hini hfn.1) (by rw [q2]; exact h6) q1 q3 (by rw [hsl]; exact k2_hasslot (q4 k hk)) rfl rfl hd fin
  · rw [if_neg hf] at hlay
    have h6 := u_store hfc hkC hkind hlay hi (xq_cls3 hc k hk) hn hfit
    exact W.putK hx hb (f := f) ⟨hown, hlink, ⟨_, _, _, hi⟩, hst⟩ (by rw [q2]; exact h6) q1 q3 (by rw [hsl]; exact k2_hasslot (q4 k hk)) rfl rfl hd fin
theorem xq_fits_ref {ty : FieldType} {a b : Nat} (h : fits ty (.ref a) = true) : fits ty (.ref b) = true := by
  cases ty <;> first | rfl | (simp [fits] at h)
theorem xq_nar_ref {ty : FieldType} {v : Value} (h : fits ty v = true) (hv : v = .null ∨ ∃ a, v = .ref a) : narrow ty v = v := by
  rcases hv with rfl | ⟨a, rfl⟩ <;> cases ty <;> first | rfl | (simp [fits] at h)
theorem xq_putf_ok (Cx : xq_Cx t p R s mid args meth c o ini by_ nL) {i ci k : Nat} (hd : decode by_ pc = .ok (.putfield i, 3)) (hok : (xq_FL.contains (o, i, ci, k) && (!xq_fin ci k || ini && decide (ci = o))) = true) (h : xq_putf (pc + 3) x L st ci k = some (pc', x', L', st')) (kk : xq_Ok p l e R s mid args below meth c Q t nL n0 z0 x' pc' L' st') : xq_Ok p l e R s mid args below meth c Q t nL n0 z0 x pc L st := by
  rw [Bool.and_eq_true] at hok
  obtain ⟨hc, hk, -⟩ := xq_FL_ok hok.1
  have h4 := xq_cls4 hc hk
  unfold xq_putf at h
  split at h
  · rename_i v a r
    split at h
    · rename_i hb
      simp only [Bool.and_eq_true, decide_eq_true_eq, Bool.or_eq_true] at hb
      obtain ⟨⟨⟨h1, h2⟩, h3⟩, h5⟩ := hb
      cases h
      have hft : ¬ xq_ft ci k = 2 := by omega
      have hf : narrow (xq_ty ci k) (.int v) = .int v ∧ fits (xq_ty ci k) (.int v) = true := by
        rcases h5 with h5 | ⟨h5, h6⟩
        · rw [if_pos h5] at h4
          rw [h4]
          exact ⟨rfl, rfl⟩
        · rw [if_neg (by omega), if_pos h5] at h4
          rw [h4]
          rcases h6 with rfl | rfl <;> exact ⟨by decide, by decide⟩
      intro H locs ls hH hS hL
      refine xq_put_gen (x' := xq_setI x a k v) Cx hd hok.1 hok.2 h1 h2 h3 hf.1 hf.2 rfl rfl (fun j hj => ?_) ?_ kk H locs ls hH hS hL
      · exact xq_ent_congr rfl rfl rfl (va_up_ne _ _ hj)
      · rw [xq_map_set]
        have e0 : xq_ent t (xq_setI x a k v) a = .inr (ci, (List.range (xq_K x a).2).map (xq_fl t (xq_setI x a k v) a)) := by
          rw [xq_ent_o (show (xq_K (xq_setI x a k v) a).1 < 13 by show (xq_K x a).1 < 13; omega)]
          show Sum.inr ((xq_K x a).1, _) = _
          rw [h2]
          rfl
        rw [e0]
        congr 2
        apply List.map_congr_left
        intro j _
        show (if xq_ft (xq_K x a).1 j = 2 then _ else Value.int (va_up x.2.2 a (upd (x.2.2 a) k v) a j)) = if j = k then _ else if xq_ft (xq_K x a).1 j = 2 then _ else _
        rw [va_up_self]
        by_cases hj : j = k
        · subst hj
          rw [if_pos rfl, h2, if_neg hft]
          simp [upd]
        · rw [if_neg hj]
          simp only [upd, if_neg hj]
          rfl
    · cases h
  · rename_i b a r
    split at h
    · rename_i hb
      simp only [Bool.and_eq_true, decide_eq_true_eq] at hb
      obtain ⟨⟨⟨⟨h1, h7⟩, h2⟩, h3⟩, h5⟩ := hb
      cases h
      rw [if_neg (by omega), if_neg (by omega)] at h4
      have hfit : fits (xq_ty ci k) (.ref (xq_ad t b)) = true := xq_fits_ref h4.2
      intro H locs ls hH hS hL
      refine xq_put_gen (x' := xq_setR x a k (some b)) (w := .ref (xq_ad t b)) Cx hd hok.1 hok.2 h1 h2 h3 (xq_nar_ref hfit (Or.inr ⟨_, rfl⟩)) hfit rfl rfl (fun j hj => ?_) ?_ kk H locs ls hH hS hL
      · exact xq_ent_congr rfl (va_up_ne _ _ hj) rfl rfl
      · rw [xq_map_set]
        have e0 : xq_ent t (xq_setR x a k (some b)) a = .inr (ci, (List.range (xq_K x a).2).map (xq_fl t (xq_setR x a k (some b)) a)) := by
          rw [xq_ent_o (show (xq_K (xq_setR x a k (some b)) a).1 < 13 by show (xq_K x a).1 < 13; omega)]
          show Sum.inr ((xq_K x a).1, _) = _
          rw [h2]
          rfl
        rw [e0]
        congr 2
        apply List.map_congr_left
        intro j _
        show (if xq_ft (xq_K x a).1 j = 2 then va_rf (xq_rr t (va_up x.1.2.2.2 a (va_up (x.1.2.2.2 a) k (some b)) a j)) else _) = if j = k then _ else if xq_ft (xq_K x a).1 j = 2 then _ else _
        rw [va_up_self]
        by_cases hj : j = k
        · subst hj
          rw [if_pos rfl, h2, if_pos h5, va_up_self]
          rfl
        · rw [if_neg hj, va_up_ne _ _ hj]
          rfl
    · cases h
  · rename_i a r
    split at h
    · rename_i hb
      simp only [Bool.and_eq_true, decide_eq_true_eq] at hb
      obtain ⟨⟨⟨h1, h2⟩, h3⟩, h5⟩ := hb
      cases h
      rw [if_neg (by omega), if_neg (by omega)] at h4
      intro H locs ls hH hS hL
      refine xq_put_gen (x' := xq_setR x a k none) (w := .null) Cx hd hok.1 hok.2 h1 h2 h3 (xq_nar_ref h4.1 (Or.inl rfl)) h4.1 rfl rfl (fun j hj => ?_) ?_ kk H locs ls hH hS hL
      · exact xq_ent_congr rfl (va_up_ne _ _ hj) rfl rfl
      · rw [xq_map_set]
        have e0 : xq_ent t (xq_setR x a k none) a = .inr (ci, (List.range (xq_K x a).2).map (xq_fl t (xq_setR x a k none) a)) := by
          rw [xq_ent_o (show (xq_K (xq_setR x a k none) a).1 < 13 by show (xq_K x a).1 < 13; omega)]
          show Sum.inr ((xq_K x a).1, _) = _
          rw [h2]
          rfl
        rw [e0]
        congr 2
        apply List.map_congr_left
        intro j _
        show (if xq_ft (xq_K x a).1 j = 2 then va_rf (xq_rr t (va_up x.1.2.2.2 a (va_up (x.1.2.2.2 a) k none) a j)) else _) = if j = k then _ else if xq_ft (xq_K x a).1 j = 2 then _ else _
        rw [va_up_self]
        by_cases hj : j = k
        · subst hj
          rw [if_pos rfl, h2, if_pos h5, va_up_self]
          rfl
        · rw [if_neg hj, va_up_ne _ _ hj]
          rfl
    · cases h
  · cases h
end xq_puts
