/-! the model: a week, whole -/
section xq_m5j
variable {d : Nat} {g : xq_V} {J : Nat → Nat → Int64} {I : Nat → Nat → Int32} {Q : Option Value → xq_S → Prop} {A W P F N : xw} {n ns : Nat}
theorem ok_we1 {t : Bool} (h : ok n ns W) : ok n ns (sp_we1 t W) := by
  unfold sp_we1
  split
  · exact ok_draw h
  · exact h
theorem ok_we2 {t : Bool} (h : ok n ns W) : ok n ns (sp_we2 t W) := by
  unfold sp_we2
  split
  · exact ok_draw h
  · exact h
theorem ok_mud {t : Bool} (h : ok n ns W) : ok n ns (sp_mud t W) := ok_free h (by omega)
theorem ok_endw {wet : Bool} {k : Nat} (h : ok n ns W) (hk : k < 20000) (ek : W 2 = nI k) : ok n ns (sp_end n wet W) := by
  unfold sp_end
  split
  · refine ok_turn (ok_falls (ok_split n 0 _ h (by omega))) hk ?_
    rw [st2_falls (ok_split n 0 _ h (by omega)) (by right; left; rfl), st2_split (by right; left; rfl) n 0 _ h (by omega), ek]
  · refine ok_turn (ok_falls h) hk ?_
    rw [st2_falls h (by right; left; rfl), ek]
theorem xl_213_129 {tl fl : Value} {v : Int32} {wet : Bool} (h : ok n ns W) (hp : Q (some (.int v)) (xq_s g J (xm I A (sp_end n wet W) P F N))) : xq_wp (d + 3) 213 (xq_s g J (xm I A W P F N)) 129 [.ref 126, tl, .int (sp_b2 wet), fl, .int v] [] Q := by
  have eN : ¬ (wet = true ∧ sp_frost W = true ∧ nI 0 < W 18) → sp_end n wet W = sp_turn (sp_falls n W) := fun z => by rw [sp_end, if_neg z]
  have eP : (wet = true ∧ sp_frost W = true ∧ nI 0 < W 18) → sp_end n wet W = sp_turn (sp_falls n (sp_split n 0 W)) := fun z => by rw [sp_end, if_pos z]
  have n1 : sp_b2 wet = nI 0 → ¬ (wet = true ∧ sp_frost W = true ∧ nI 0 < W 18) := fun q z => by rw [sp_b20.mp q] at z; exact absurd z.1 (by decide)
  have n2 : sp_b2 (sp_frost W) = nI 0 → ¬ (wet = true ∧ sp_frost W = true ∧ nI 0 < W 18) := fun q z => by rw [sp_b20.mp q] at z; exact absurd z.2.1 (by decide)
  refine xu_213_129 (n := n) (ns := ns) ⟨fun q => ⟨h, fun q2 => ?_, fun q2 => ?_⟩, fun q => ⟨fun q3 => ⟨h, fun q2 => ?_, fun q2 => ?_⟩, fun q3 => ⟨fun q4 => ⟨h, ok_split n 0 _ h (by omega), fun q2 => ?_, fun q2 => ?_⟩, fun q4 => ⟨h, fun q2 => ?_, fun q2 => ?_⟩⟩⟩⟩
  · rw [eN (n1 q), sp_turn, if_pos q2] at hp; exact hp
  · rw [eN (n1 q), sp_turn, if_neg q2] at hp; exact hp
  · rw [eN (n2 q3), sp_turn, if_pos q2] at hp; exact hp
  · rw [eN (n2 q3), sp_turn, if_neg q2] at hp; exact hp
  · rw [eP ⟨sp_b21 q, sp_b21 q3, q4⟩, sp_turn, if_pos q2] at hp; exact hp
  · rw [eP ⟨sp_b21 q, sp_b21 q3, q4⟩, sp_turn, if_neg q2] at hp; exact hp
  · rw [eN (fun z => q4 z.2.2), sp_turn, if_pos q2] at hp; exact hp
  · rw [eN (fun z => q4 z.2.2), sp_turn, if_neg q2] at hp; exact hp
/-- from the herds on -/
def sp_wk2 (bar : Int32) (n : Nat) (wet flood : Bool) (W : xw) : xw × Int32 := (sp_end n wet (sp_lays n (sp_haulw n wet flood (sp_cut bar n 0 (sp_herds W wet) (sp_herds W wet 13)))).1, (sp_lays n (sp_haulw n wet flood (sp_cut bar n 0 (sp_herds W wet) (sp_herds W wet 13)))).2)
theorem xl_213_108 {tl u4 : Value} {wet flood : Bool} (h : ok n ns W) (hp : ∀ (v' : Int32) (P' F' N' : xw), Q (some (.int (sp_wk2 (A 29) n wet flood W).2)) (xq_s g J (xm I (upd A 30 v') (sp_wk2 (A 29) n wet flood W).1 P' F' N'))) : xq_wp (d + 6) 213 (xq_s g J (xm I A W P F N)) 108 [.ref 126, tl, .int (sp_b2 wet), .int (sp_b2 flood), u4] [] Q := by
  have h1 := ok_herds (wet := wet) h
  have h2 := ok_cut (bar := A 29) n 0 _ (sp_herds W wet 13) h1 (by omega)
  have h3 := ok_haulw (wet := wet) (flood := flood) h2
  exact xu_213_108 ⟨h1, h2, fun v' P' F' N' => ⟨h3, xl_213_129 (ok_lays h3) (hp v' P' F' N')⟩⟩
theorem sp_week_eq {truly : Bool} {bar : Int32} : sp_week truly bar n W = sp_wk2 bar n (sp_wet truly W) (sp_fld truly (sp_mud (sp_wet truly W) (sp_we1 truly W))) (sp_we2 truly (sp_mud (sp_wet truly W) (sp_we1 truly W))) := rfl
theorem xl_213_73 {truly : Bool} {wet : Bool} {u3 u4 : Value} (h : ok n ns W) (hp : ∀ (v' : Int32) (P' F' N' : xw), Q (some (.int (sp_wk2 (A 29) n wet (sp_fld truly W) (sp_we2 truly W)).2)) (xq_s g J (xm I (upd A 30 v') (sp_wk2 (A 29) n wet (sp_fld truly W) (sp_we2 truly W)).1 P' F' N'))) : xq_wp (d + 6) 213 (xq_s g J (xm I A W P F N)) 73 [.ref 126, .int (sp_b2 truly), .int (sp_b2 wet), u3, u4] [] Q := by
  have e17 : sp_draw W 17 = W 17 := upd_ne (by omega)
  refine xu_213_73 ⟨fun q => ?_, fun q => ⟨fun q2 dv Wd ed eW => ⟨fun q3 => ?_, fun q3 => ?_⟩, fun q2 => ?_⟩⟩
  · rw [sp_b20.mp q] at hp ⊢
    exact xl_213_108 (flood := false) h hp
  · rw [sp_b21 q] at hp ⊢
    rw [eW, e17, ed] at q3
    have e1 : sp_fld true W = true := by simp only [sp_fld, q2, q3, decide_true, Bool.and_self]
    have e2 : sp_we2 true W = sp_draw W := by simp only [sp_we2, q2, and_self, if_true]
    rw [e1, e2] at hp
    rw [eW]
    exact xl_213_108 (flood := true) (ok_draw h) hp
  · rw [sp_b21 q] at hp ⊢
    rw [eW, e17, ed] at q3
    have e1 : sp_fld true W = false := by simp only [sp_fld, q3, decide_false, Bool.and_false]
    have e2 : sp_we2 true W = sp_draw W := by simp only [sp_we2, q2, and_self, if_true]
    rw [e1, e2] at hp
    rw [eW]
    exact xl_213_108 (flood := false) (ok_draw h) hp
  · rw [sp_b21 q] at hp ⊢
    have e1 : sp_fld true W = false := by simp only [sp_fld, q2, decide_false, Bool.and_false, Bool.false_and]
    have e2 : sp_we2 true W = W := by simp only [sp_we2, q2, and_false, if_false]
    rw [e1, e2] at hp
    exact xl_213_108 (flood := false) h hp
theorem xl_213 {truly : Bool} (h : ok n ns W) (hp : ∀ (v' : Int32) (P' F' N' : xw), Q (some (.int (sp_week truly (A 29) n W).2)) (xq_s g J (xm I (upd A 30 v') (sp_week truly (A 29) n W).1 P' F' N'))) : xq_wp (d + 6) 213 (xq_s g J (xm I A W P F N)) 0 [.ref 126, .int (sp_b2 truly), xq_un, xq_un, xq_un] [] Q := by
  have e16 : sp_draw W 16 = W 16 := upd_ne (by omega)
  rw [sp_week_eq] at hp
  refine xu_213_0 ⟨fun q => ?_, fun q => ⟨fun q2 dv Wd ed eW => ⟨fun q3 => ?_, fun q3 => ?_⟩, fun q2 => ?_⟩⟩
  · rw [sp_b20.mp q] at hp ⊢
    exact xl_213_73 (wet := false) (ok_mud (t := false) h) hp
  · rw [sp_b21 q] at hp ⊢
    rw [eW, e16, ed] at q3
    have e1 : sp_wet true W = true := by simp only [sp_wet, q2, q3, decide_true, Bool.and_self]
    have e2 : sp_we1 true W = sp_draw W := by simp only [sp_we1, q2, and_self, if_true]
    rw [e1, e2] at hp
    rw [eW]
    exact xl_213_73 (wet := true) (ok_mud (t := true) (ok_draw h)) hp
  · rw [sp_b21 q] at hp ⊢
    rw [eW, e16, ed] at q3
    have e1 : sp_wet true W = false := by simp only [sp_wet, q3, decide_false, Bool.and_false]
    have e2 : sp_we1 true W = sp_draw W := by simp only [sp_we1, q2, and_self, if_true]
    rw [e1, e2] at hp
    rw [eW]
    exact xl_213_73 (wet := false) (ok_mud (t := false) (ok_draw h)) hp
  · rw [sp_b21 q] at hp ⊢
    have e1 : sp_wet true W = false := by simp only [sp_wet, q2, decide_false, Bool.and_false, Bool.false_and]
    have e2 : sp_we1 true W = W := by simp only [sp_we1, q2, and_false, if_false]
    rw [e1, e2] at hp
    exact xl_213_73 (wet := false) (ok_mud (t := false) h) hp
/-! a week's row -/
theorem st2_we1 {t : Bool} {p : Nat} (hp : st2 p) : sp_we1 t W p = W p := by
  unfold sp_we1
  split
  · exact upd_ne (st2_5 hp).2.2
  · rfl
theorem st2_we2 {t : Bool} {p : Nat} (hp : st2 p) : sp_we2 t W p = W p := by
  unfold sp_we2
  split
  · exact upd_ne (st2_5 hp).2.2
  · rfl
theorem stp_ne {p : Nat} (hp : stp p) : ¬ p = 2 ∧ ¬ p = 3 ∧ ¬ p = 10 ∧ ¬ p = 11 := by
  rcases hp with hp | hp | ⟨b, k, h1, h2, hp⟩ | hp | hp <;> omega
theorem stp_herds {wet : Bool} {p : Nat} (h1 : ¬ p = 10) (h2 : ¬ p = 11) : sp_herds W wet p = W p := by rw [sp_herds, upd_ne h1, upd_ne h2]
theorem stp_turn {p : Nat} (h1 : ¬ p = 10) (h2 : ¬ p = 2) : sp_turn W p = W p := by
  unfold sp_turn
  split
  · rw [upd_ne h1, upd_ne h2]
  · exact upd_ne h2
theorem stp_end {wet : Bool} {p : Nat} (h : ok n ns W) (hp : stp p) : sp_end n wet W p = W p := by
  unfold sp_end
  rw [stp_turn (stp_ne hp).2.2.1 (stp_ne hp).1]
  split
  · rw [st2_falls (ok_split n 0 _ h (by omega)) (Or.inl hp), st2_split (Or.inl hp) n 0 _ h (by omega)]
  · exact st2_falls h (Or.inl hp)
theorem stp_wk2 {bar : Int32} {wet flood : Bool} {p : Nat} (h : ok n ns W) (hp : stp p) : (sp_wk2 bar n wet flood W).1 p = W p := by
  have h1 := ok_herds (wet := wet) h
  have h2 := ok_cut (bar := bar) n 0 _ (sp_herds W wet 13) h1 (by omega)
  have h3 := ok_haulw (wet := wet) (flood := flood) h2
  show sp_end n wet _ p = W p
  rw [stp_end (ok_lays h3) hp, st2_lays h3 (Or.inl hp), st2_haulw h2 (Or.inl hp), st2_cut (Or.inl hp) n 0 _ _ h1 (by omega), stp_herds (stp_ne hp).2.2.1 (stp_ne hp).2.2.2]
theorem stp_week {truly : Bool} {bar : Int32} {p : Nat} (h : ok n ns W) (hp : stp p) : (sp_week truly bar n W).1 p = W p := by
  rw [sp_week_eq, stp_wk2 (ok_we2 (ok_mud (ok_we1 h))) hp, st2_we2 (Or.inl hp), sp_mud, upd_ne (stp_ne hp).2.1, st2_we1 (Or.inl hp)]
theorem sp_turn2 : sp_turn W 2 = W 2 + nI 1 := by
  unfold sp_turn
  split
  · rw [upd_ne (by omega), upd_eq]
  · rw [upd_eq]
theorem wk_end {wet : Bool} (h : ok n ns W) : sp_end n wet W 2 = W 2 + nI 1 := by
  have s2 : st2 2 := Or.inr (Or.inl rfl)
  unfold sp_end
  rw [sp_turn2]
  split
  · rw [st2_falls (ok_split n 0 _ h (by omega)) s2, st2_split s2 n 0 _ h (by omega)]
  · rw [st2_falls h s2]
theorem wk_wk2 {bar : Int32} {wet flood : Bool} (h : ok n ns W) : (sp_wk2 bar n wet flood W).1 2 = W 2 + nI 1 := by
  have s2 : st2 2 := Or.inr (Or.inl rfl)
  have h1 := ok_herds (wet := wet) h
  have h2 := ok_cut (bar := bar) n 0 _ (sp_herds W wet 13) h1 (by omega)
  have h3 := ok_haulw (wet := wet) (flood := flood) h2
  show sp_end n wet _ 2 = _
  rw [wk_end (ok_lays h3), st2_lays h3 s2, st2_haulw h2 s2, st2_cut s2 n 0 _ _ h1 (by omega), stp_herds (by omega) (by omega)]
theorem wk_week {truly : Bool} {bar : Int32} (h : ok n ns W) : (sp_week truly bar n W).1 2 = W 2 + nI 1 := by
  rw [sp_week_eq, wk_wk2 (ok_we2 (ok_mud (ok_we1 h))), st2_we2 (Or.inr (Or.inl rfl)), sp_mud, upd_ne (by omega), st2_we1 (Or.inr (Or.inl rfl))]
theorem ok_wk2 {bar : Int32} {wet flood : Bool} {k : Nat} (h : ok n ns W) (hk : k < 20000) (ek : W 2 = nI k) : ok n ns (sp_wk2 bar n wet flood W).1 := by
  have s2 : st2 2 := Or.inr (Or.inl rfl)
  have h1 := ok_herds (wet := wet) h
  have h2 := ok_cut (bar := bar) n 0 _ (sp_herds W wet 13) h1 (by omega)
  have h3 := ok_haulw (wet := wet) (flood := flood) h2
  exact ok_endw (k := k) (ok_lays h3) hk (by rw [st2_lays h3 s2, st2_haulw h2 s2, st2_cut s2 n 0 _ _ h1 (by omega), stp_herds (by omega) (by omega), ek])
theorem ok_sweek {truly : Bool} {bar : Int32} {k : Nat} (h : ok n ns W) (hk : k < 20000) (ek : W 2 = nI k) : ok n ns (sp_week truly bar n W).1 := by
  rw [sp_week_eq]
  refine ok_wk2 (k := k) (ok_we2 (ok_mud (ok_we1 h))) hk ?_
  rw [st2_we2 (Or.inr (Or.inl rfl)), sp_mud, upd_ne (by omega), st2_we1 (Or.inr (Or.inl rfl)), ek]
end xq_m5j
