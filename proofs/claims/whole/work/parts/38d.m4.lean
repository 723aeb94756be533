/-! the model: on the way -/
section xq_m4d
variable {d : Nat} {g : xq_V} {J : Nat → Nat → Int64} {I : Nat → Nat → Int32} {Q : Option Value → xq_S → Prop} {A W P F N : xw} {n ns : Nat}
theorem ok_pos {b w : Nat} {v u : Int32} (h : ok n ns W) (hb : b < n) (hw : w < 5) (hk : w = 2 → ∃ k, k < ns ∧ v = nI k) : ok n ns (upd (upd (upd W (50 + 14 * b + 4) (nI w)) (50 + 14 * b + 5) v) (50 + 14 * b + 6) u) := by
  have n14 := (ok_n h).2
  refine ok_free ?_ (Or.inr (Or.inr (Or.inr (Or.inr (Or.inl ⟨b, 6, by omega, by omega, rfl, by omega⟩)))))
  obtain ⟨g1, g2, g3, g4, g5, g6, g7, g8, g9, g10, g11⟩ := h
  have ns8 := g1.2.2.2
  refine ⟨ok1_fr g1 ?_ ?_, okb_fr g2 ?_, ok2_fr g3 ?_, ok3_fr g4 ?_, ok4_fr g5 ?_, fun b' hb' => ?_, ok6_fr g7 ?_, ok7_fr g8 ?_, ok8_fr g9 ?_, ok9_fr g10 ?_, sp_law_fr g11 ?_⟩
  case refine_7 =>
    by_cases e : b' = b
    · subst e
      refine ⟨w, hw, by rw [upd_ne (by omega), upd_eq], fun z => ?_⟩
      obtain ⟨k, q1, q2⟩ := hk z
      exact ⟨k, q1, by rw [upd_eq, q2]⟩
    · obtain ⟨w', q1, q2, q3⟩ := g6 b' hb'
      rw [upd_ne (by omega), upd_ne (by omega), upd_ne (by omega), upd_ne (by omega)]
      exact ⟨w', q1, q2, q3⟩
  all_goals (try intros)
  all_goals (rw [upd_ne (by omega), upd_ne (by omega)])
theorem ok_onk {k : Int32} (h : ok n ns W) (q : ¬ (k < nI 0 ∨ W 1 - nI 1 < k)) : ∃ k', k' < ns ∧ k = nI k' := by
  have ns8 := h.1.2.2.2
  rw [h.1.2.2.1] at q
  rcases pk_ix k (n := ns) (by omega) with z | z | z
  · exact absurd (Or.inl z) q
  · exfalso
    refine q (Or.inr ?_)
    rw [Int32.lt_iff_toInt_lt, pk_sub_toInt (by omega) (by omega)]
    have := Int32.le_iff_toInt_le.mp z
    rw [nI_toInt (by omega)] at this
    omega
  · exact z
theorem ok_on {b : Nat} {k : Int32} (h : ok n ns W) (hb : b < n) : ok n ns (sp_on W b k) := by
  unfold sp_on
  split
  · exact ok_wr (ok_pos h hb (by omega) (fun z => by omega))
  · rename_i q
    exact ok_pos h hb (by omega) (fun _ => ok_onk h q)
theorem ok_over {b : Nat} (h : ok n ns W) (hb : b < n) : ok n ns (sp_over W b) := ok_on (ok_wr h) hb
theorem ok_wt {b e : Nat} (h : ok n ns W) (hb : b < n) (he : e < 5) : ok n ns (sp_wt W b e) :=
  ok_free h (Or.inr (Or.inr (Or.inr (Or.inr (Or.inl ⟨b, 7 + e, by omega, by omega, rfl, by have := (ok_n h).2; omega⟩)))))
theorem ok_went {b : Nat} {z : Int32} (h : ok n ns W) (hb : b < n) : ok n ns (sp_went W b z) :=
  ok_free h (Or.inr (Or.inr (Or.inr (Or.inr (Or.inl ⟨b, 6, by omega, by omega, rfl, by have := (ok_n h).2; omega⟩)))))
theorem ok_goes {b : Nat} {z fr : Int32} (h : ok n ns W) (hb : b < n) : ok n ns (sp_goes z W N fr b).1 := by
  unfold sp_goes
  repeat' split
  · exact ok_wt h hb (by omega)
  · exact ok_wt h hb (by omega)
  · exact ok_over h hb
  · exact ok_went h hb
  · exact ok_over (ok_went h hb) hb
theorem ok_h1 {b : Nat} {z fr : Int32} (h : ok n ns W) (hb : b < n) : ok n ns (sp_h1 z W N fr b).1 := by
  unfold sp_h1
  repeat' split
  · exact ok_goes (ok_on h hb) hb
  · exact ok_on h hb
  · exact ok_goes h hb
  · exact h
theorem xl_225 {b : Nat} {wet : Bool} (h : ok n ns W) (hb : b < n) (hw : W (50 + 14 * b + 4) = nI 2) (hp : ∀ P' F' : xw, Q none (xq_s g J (xm I (upd A 30 (sp_goes (sp_b2 wet) W N (A 30) b).2.2) (sp_goes (sp_b2 wet) W N (A 30) b).1 P' F' (sp_goes (sp_b2 wet) W N (A 30) b).2.1))) : xq_wp (d + 4) 225 (xq_s g J (xm I A W P F N)) 0 [.ref 126, .int (nI b), .int (sp_b2 wet), xq_un, xq_un] [] Q := by
  obtain ⟨k, hk, hk8, ek, ik⟩ := ok_at h hb hw
  have n14 := (ok_n h).2
  have eA : upd A 30 (A 30) = A := by
    funext j; simp only [upd]; split
    · rename_i e; rw [e]
    · rfl
  unfold sp_goes at hp
  rw [ik] at hp
  have hb6 : okb (upd W (50 + 14 * b + 6) (W (50 + 14 * b + 6) + sp_haul W b (sp_b2 wet))) := okb_up h.2.1 (by omega)
  refine xu_225 (k := k) ⟨by omega, ek, hk8, fun q => ?_, fun q => ⟨by omega, ek, by omega, fun q2 => ⟨by omega, fun q3 => ?_, fun q3 => ⟨h.2.1, ?_⟩⟩, fun q2 => ⟨by omega, h.2.2.2.2.2.2.2.2.2.2, fun P' F' => ⟨fun q4 => ?_, fun q4 => ⟨by omega, fun q5 => ?_, fun q5 => ⟨hb6, ?_⟩⟩⟩⟩⟩⟩
  · rw [if_pos q] at hp
    have := hp P F
    rw [eA] at this
    exact this
  · rw [if_neg q, if_pos ⟨q2, q3⟩] at hp
    have := hp P F
    rw [eA] at this
    exact this
  · rw [if_neg q, if_neg (fun z => q3 z.2), if_pos q2] at hp
    exact hp P F
  · rw [upd_ne (by omega)] at q4
    exact absurd q4 q2
  · rw [if_neg q, if_neg (fun z => q2 z.1), if_neg q2] at hp
    rw [upd_eq, upd_ne (by omega)] at q5
    rw [if_pos (by rw [sp_went, upd_eq]; exact q5)] at hp
    exact hp P' F'
  · rw [if_neg q, if_neg (fun z => q2 z.1), if_neg q2] at hp
    rw [upd_eq, upd_ne (by omega)] at q5
    rw [if_neg (by rw [sp_went, upd_eq]; exact q5)] at hp
    exact hp P' F'
end xq_m4d
