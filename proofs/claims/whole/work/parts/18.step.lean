/-! every instruction that is no call -/
section xq_all
variable {p : Program} {l : Launch} {e : Env} {R : Room} {s : State} {mid : MethodId} {args : Array Value} {below : List Frame} {meth : Method} {c : Code} {Q : State → Prop}
variable {t : xq_Th} {o nL n0 z0 : Nat} {ini : Bool} {by_ : ByteArray} {x x' : xq_S} {q pc pc' : Nat} {L L' st st' r : List Value}
theorem xq_ad_s {t : xq_Th} {a : Nat} (h1 : xq_sB ≤ a) (h2 : a - xq_sB < 32) : xq_ad t a = t.2.2.2.1 (a - xq_sB) := by
  have e1 : xq_sB = 1000000 := rfl
  have e2 : xq_tB = 2000000 := rfl
  have h3 : ¬ a < xq_sB := by omega
  have h4 : a < xq_tB := by omega
  simp only [xq_ad, if_neg h3, if_pos h4]
theorem xq_len_ok (Cx : xq_Cx t p R s mid args meth c o ini by_ nL) {i b c' a : Nat} (hd : decode by_ pc = .ok (.invokevirtual i, 3)) (hok : xq_KL.contains (o, i, 1003, b, c', 9) = true) (hr : xq_room r = true) (h1 : xq_sB ≤ a) (h2 : a - xq_sB < 32) (hR1 : xq_N x - n0 ≤ R.cells) (hR2 : xq_Z x - z0 ≤ R.slots) (kk : xq_Ok p l e R s mid args below meth c Q t nL n0 z0 x (pc + 3) L (.int (nI (xq_tx.getD (a - xq_sB) []).length) :: r)) : xq_Ok p l e R s mid args below meth c Q t nL n0 z0 x pc L (.ref a :: r) := by
  intro H locs ls hH hS hL
  have hs := xq_room_sum (t := t) hr
  have hE := Cx.2.2.2.2.2.2.1
  show W _ _ _ _ _ _ _ _ _ _ _ _ _ _ _ (F0 mid pc ls (.ref (xq_ad t a) :: r.map (xq_sh t)))
  rw [xq_ad_s h1 h2]
  obtain ⟨cell, g1, g2, g3, -⟩ := (hE.1.2.2.1 _ h2).1.kept hS.2.1
  have hf := Cx.2.2.2.2.2.2.2.2.2.2.1
  have hlo := Cx.2.2.2.2.2.2.2.2.2.2.2
  exact xq_callp (va_runV (As := []) (rest := r.map (xq_sh t)) ⟨Cx.1, Cx.2.1, Cx.2.2.1, Cx.2.2.2.1, Cx.2.2.2.2.1⟩ (xq_m_len l t h2) (cwV 0 Cx.2.2.2.2.1 (xq_goodIn (xq_good4 (xq_KL9 hok) xq_yl_s xq_yl_e xq_yl_n (xq_goodC xq_yl_c))) rfl rfl rfl (by decide +kernel) ⟨by show 1 + 1 ≤ _; omega, by show 8 + (1 + 11) + 40 ≤ _; omega⟩) ⟨xq_blind, ⟨cell, g1, g2, g3⟩, (xq_PreS hE hS _).2⟩ rfl rfl hL.2.1 rfl (lv_room hs) hd ⟨hR1, hR2⟩) (kk H locs ls hH hS hL)
theorem xq_char_ok (Cx : xq_Cx t p R s mid args meth c o ini by_ nL) {i b c' a : Nat} {k : Int32} (hd : decode by_ pc = .ok (.invokevirtual i, 3)) (hok : xq_KL.contains (o, i, 1004, b, c', 9) = true) (hr : xq_room r = true) (h1 : xq_sB ≤ a) (h2 : a - xq_sB < 32) (h3 : xq_in k (xq_tx.getD (a - xq_sB) []).length = true) (hR1 : xq_N x - n0 ≤ R.cells) (hR2 : xq_Z x - z0 ≤ R.slots) (kk : xq_Ok p l e R s mid args below meth c Q t nL n0 z0 x (pc + 3) L (.int ((xq_tx.getD (a - xq_sB) []).getD k.toNatClampNeg 0) :: r)) : xq_Ok p l e R s mid args below meth c Q t nL n0 z0 x pc L (.int k :: .ref a :: r) := by
  intro H locs ls hH hS hL
  have hs := xq_room_sum (t := t) hr
  have hE := Cx.2.2.2.2.2.2.1
  show W _ _ _ _ _ _ _ _ _ _ _ _ _ _ _ (F0 mid pc ls (.int k :: .ref (xq_ad t a) :: r.map (xq_sh t)))
  rw [xq_ad_s h1 h2]
  obtain ⟨cell, g1, g2, g3, -⟩ := (hE.1.2.2.1 _ h2).1.kept hS.2.1
  have hf := Cx.2.2.2.2.2.2.2.2.2.2.1
  have hlo := Cx.2.2.2.2.2.2.2.2.2.2.2
  exact xq_callp (va_runV (As := [.int k]) (rest := r.map (xq_sh t)) ⟨Cx.1, Cx.2.1, Cx.2.2.1, Cx.2.2.2.1, Cx.2.2.2.2.1⟩ (xq_m_char l t h2 (xq_in_vp h3)) (cwV 1 Cx.2.2.2.2.1 (xq_goodIn (xq_good4 (xq_KL9 hok) xq_yh_s xq_yh_e xq_yh_n (xq_goodC xq_yh_c))) rfl rfl rfl (by decide +kernel) ⟨by show 3 + 1 ≤ _; omega, by show 8 + (2 + 11) + 120 ≤ _; omega⟩) ⟨xq_blind, ⟨cell, g1, g2, g3⟩, (xq_PreS hE hS _).2⟩ rfl rfl hL.2.1 rfl (lv_room hs) hd ⟨hR1, hR2⟩) (kk H locs ls hH hS hL)
theorem xq_fill_ok (Cx : xq_Cx t p R s mid args meth c o ini by_ nL) {i b c' a : Nat} {v : Int64} (hd : decode by_ pc = .ok (.invokestatic i, 3)) (hok : xq_KL.contains (o, i, 1005, b, c', 9) = true) (hr : xq_room r = true) (h1 : a < xq_N x) (h2 : (xq_K x a).1 = 101) (h3 : (xq_K x a).2 < 1000000) (hR1 : xq_N x - n0 ≤ R.cells) (hR2 : xq_Z x - z0 ≤ R.slots) (kk : xq_Ok p l e R s mid args below meth c Q t nL n0 z0 (x.1, va_up x.2.1 a (fun j => if j < (xq_K x a).2 then v else x.2.1 a j), x.2.2) (pc + 3) L r) : xq_Ok p l e R s mid args below meth c Q t nL n0 z0 x pc L (.long v :: .ref a :: r) := by
  intro H locs ls hH hS hL
  have hs := xq_room_sum (t := t) hr
  have hE := Cx.2.2.2.2.2.2.1
  have hf := Cx.2.2.2.2.2.2.2.2.2.2.1
  have hlo := Cx.2.2.2.2.2.2.2.2.2.2.2
  exact xq_callq (va_runS (As := [.ref (xq_ad t a), .long v]) (rest := r.map (xq_sh t)) ⟨Cx.1, Cx.2.1, Cx.2.2.1, Cx.2.2.2.1, Cx.2.2.2.2.1⟩ (xq_m_fill l t h1 h2 h3) (va_cwS 2 Cx.2.2.2.2.1 (xq_goodIn (xq_good3 (xq_KL9 hok) xq_yf_s xq_yf_n (xq_goodC xq_yf_c))) rfl rfl rfl (by decide +kernel) ⟨by show 0 + 1 ≤ _; omega, by show 8 + (5 + 11) + 0 ≤ _; omega⟩) (xq_PreP hE Cx.2.2.2.2.2.1 hH hS _) rfl rfl hL.2.1 rfl (lv_room hs) hd ⟨hR1, hR2⟩) hS (fun H1 locs1 g1 g2 => kk H1 locs1 ls g1 g2 hL)
theorem xq_selfv_ok (Cx : xq_Cx t p R s mid args meth c o ini by_ nL) {i a b c' : Nat} (hd : decode by_ pc = .ok (.invokevirtual i, 3)) (hok : (xq_KL.contains (o, i, a, b, c', 9) && (decide (a = 1002) || decide (a = 1003) || decide (a = 1004))) = true) (h : xq_self (pc + 3) x L st a = some (pc', x', L', st')) (hn : n0 ≤ xq_N x) (hz : z0 ≤ xq_Z x) (hR1 : xq_N x' - n0 ≤ R.cells) (hR2 : xq_Z x' - z0 ≤ R.slots) (kk : xq_Ok p l e R s mid args below meth c Q t nL n0 z0 x' pc' L' st') : xq_Ok p l e R s mid args below meth c Q t nL n0 z0 x pc L st := by
  simp only [Bool.and_eq_true, Bool.or_eq_true, decide_eq_true_eq] at hok
  obtain ⟨hk, hy⟩ := hok
  unfold xq_self at h
  split at h
  · omega
  · omega
  · split at h
    · rename_i hb
      simp only [Bool.and_eq_true, decide_eq_true_eq] at hb
      obtain ⟨⟨b1, rfl⟩, b3⟩ := hb
      cases h
      exact xq_clone_ok Cx hd hk b1 b3 hn hz hR1 hR2 kk
    · cases h
  · split at h
    · rename_i hb
      simp only [Bool.and_eq_true, decide_eq_true_eq] at hb
      obtain ⟨⟨b1, b2⟩, b3⟩ := hb
      cases h
      exact xq_len_ok Cx hd hk b1 b2 b3 hR1 hR2 kk
    · cases h
  · split at h
    · rename_i hb
      simp only [Bool.and_eq_true, decide_eq_true_eq] at hb
      obtain ⟨⟨⟨b1, b2⟩, b3⟩, b4⟩ := hb
      cases h
      exact xq_char_ok Cx hd hk b1 b2 b3 b4 hR1 hR2 kk
    · cases h
  · omega
  · cases h
theorem xq_selfs_ok (Cx : xq_Cx t p R s mid args meth c o ini by_ nL) {i a b c' : Nat} (hd : decode by_ pc = .ok (.invokestatic i, 3)) (hok : (xq_KL.contains (o, i, a, b, c', 9) && (decide (a = 1001) || decide (a = 1005))) = true) (h : xq_self (pc + 3) x L st a = some (pc', x', L', st')) (hR1 : xq_N x' - n0 ≤ R.cells) (hR2 : xq_Z x' - z0 ≤ R.slots) (kk : xq_Ok p l e R s mid args below meth c Q t nL n0 z0 x' pc' L' st') : xq_Ok p l e R s mid args below meth c Q t nL n0 z0 x pc L st := by
  simp only [Bool.and_eq_true, Bool.or_eq_true, decide_eq_true_eq] at hok
  obtain ⟨hk, hy⟩ := hok
  unfold xq_self at h
  split at h
  · omega
  · split at h
    · rename_i hb
      simp only [Bool.and_eq_true, decide_eq_true_eq, Bool.not_eq_true', decide_eq_false_iff_not] at hb
      obtain ⟨⟨⟨⟨⟨⟨⟨⟨⟨b1, b2⟩, b3⟩, b4⟩, b5⟩, b6⟩, b7⟩, b8⟩, b9⟩, b10⟩ := hb
      cases h
      exact xq_copy_ok Cx hd hk b1 b2 b3 b4 b5 b6 b7 b8 b9 b10 kk
    · cases h
  · omega
  · omega
  · omega
  · split at h
    · rename_i hb
      simp only [Bool.and_eq_true, decide_eq_true_eq] at hb
      obtain ⟨⟨⟨b1, b2⟩, b3⟩, b4⟩ := hb
      cases h
      exact xq_fill_ok Cx hd hk b1 b2 b3 b4 hR1 hR2 kk
    · cases h
  · cases h
theorem xq_selfp_ok (Cx : xq_Cx t p R s mid args meth c o ini by_ nL) {i a b c' : Nat} (hd : decode by_ pc = .ok (.invokespecial i, 3)) (hok : (xq_KL.contains (o, i, a, b, c', 9) && decide (a = 1000)) = true) (h : xq_self (pc + 3) x L st a = some (pc', x', L', st')) (kk : xq_Ok p l e R s mid args below meth c Q t nL n0 z0 x' pc' L' st') : xq_Ok p l e R s mid args below meth c Q t nL n0 z0 x pc L st := by
  simp only [Bool.and_eq_true, decide_eq_true_eq] at hok
  obtain ⟨hk, hy⟩ := hok
  unfold xq_self at h
  split at h
  · split at h
    · rename_i hb
      cases h
      exact xq_oinit_ok Cx hd hk hb kk
    · cases h
  · omega
  · omega
  · omega
  · omega
  · omega
  · cases h
end xq_all
