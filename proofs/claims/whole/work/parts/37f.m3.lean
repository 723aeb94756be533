/-! the model: how far a block goes -/
section xq_m3f
variable {d : Nat} {g : xq_V} {J : Nat → Nat → Int64} {I : Nat → Nat → Int32} {Q : Option Value → xq_S → Prop} {A W P F N : xw} {n ns : Nat}
theorem xl_230_116 (hl : sp_law W) {m : Nat} (hm : W 1075 = nI m) (hm3 : m ≤ 16) {bl zl kl : Value} : ∀ (c l : Nat) (P : xw), l + c = m → (∀ P' : xw, Q (some (.int (sp_hl W F c l))) (xq_s g J (xm I A W P' F N))) → xq_wp (d + 2) 230 (xq_s g J (xm I A W P F N)) 116 [.ref 126, bl, zl, kl, .int (nI l)] [] Q := by
  obtain ⟨m', hm1, hm2, hl⟩ := hl
  have em : m = m' := (xn_eq (by omega) (by omega)).mp (hm.symm.trans hm2)
  subst em
  intro c
  induction c with
  | zero =>
    intro l P e hp
    exact xu_230_116 (m := m) ⟨hm2, by omega, by omega, fun q => by omega, fun _ => hp P⟩
  | succ c ih =>
    intro l P e hp
    obtain ⟨a, b, c', q1, q2, q3, q4, q5, q6, q7, q8⟩ := hl l (by omega)
    have x1 : sp_ix W (1100 + l) = b := xk_ix q5 (by omega)
    have x2 : sp_ix W (1120 + l) = c' := xk_ix q6 (by omega)
    have x3 : sp_ix W (1080 + l) = a := xk_ix q4 (by omega)
    refine xu_230_116 (m := m) ⟨hm2, by omega, by omega, fun _ => ⟨by omega, by omega, fun q => ⟨by omega, a, q4, b, q5, by omega, by omega, q7, fun P' => ?_⟩, fun q => ⟨b, q5, c', q6, q2, q3, (q8 ?_).1, fun P' => ⟨fun q0 => ⟨by omega, a, q4, b, q5, by omega, by omega, q7, fun P' => ?_⟩, fun q0 => ?_⟩⟩⟩, fun q => by omega⟩
    · have := hp P'
      simp only [sp_hl, x1, x2, x3, if_pos (Or.inl q : W (1120 + l) = W (1100 + l) ∨ sp_to W F b c' = nI 1)] at this
      exact this
    · rcases Nat.lt_or_ge b c' with z | z
      · exact z
      · exact absurd (by rw [q6, q5, show c' = b by omega]) q
    · have := hp P'
      simp only [sp_hl, x1, x2, x3, if_pos (Or.inr q0 : W (1120 + l) = W (1100 + l) ∨ sp_to W F b c' = nI 1)] at this
      exact this
    · refine ih (l + 1) P' (by omega) (fun P'' => ?_)
      have := hp P''
      simp only [sp_hl, x1, x2, x3, if_neg (fun z => Or.elim z q q0 : ¬ (W (1120 + l) = W (1100 + l) ∨ sp_to W F b c' = nI 1))] at this
      exact this
theorem sp_hl_cg {F' : xw} (hl : sp_law W) {m : Nat} (hm : W 1075 = nI m) (hm2 : m ≤ 16) (hF : ∀ j, 1 ≤ j → j < 9 → F j = F' j) : ∀ c l, l + c = m → sp_hl W F c l = sp_hl W F' c l := by
  obtain ⟨m', h1, h2, hl⟩ := hl
  have em : m = m' := (xn_eq (by omega) (by omega)).mp (hm.symm.trans h2)
  subst em
  intro c
  induction c with
  | zero => intro l _; rfl
  | succ c ih =>
    intro l e
    obtain ⟨a, b, c', q1, q2, q3, q4, q5, q6, q7, q8⟩ := hl l (by omega)
    have x1 : sp_ix W (1100 + l) = b := xk_ix q5 (by omega)
    have x2 : sp_ix W (1120 + l) = c' := xk_ix q6 (by omega)
    have x3 : sp_ix W (1080 + l) = a := xk_ix q4 (by omega)
    have e1 : sp_to W F a b = sp_to W F' a b := sp_ev_cg hF _ _ _ 1 _ _ q7 (fun _ _ => rfl) 0 (by omega)
    simp only [sp_hl, x1, x2, x3, e1, ih (l + 1) (by omega)]
    rcases Nat.lt_or_ge b c' with z | z
    · rw [show sp_to W F b c' = sp_to W F' b c' from sp_ev_cg hF _ _ _ 1 _ _ (q8 z).1 (fun _ _ => rfl) 0 (by omega)]
    · have : W (1120 + l) = W (1100 + l) := by rw [q6, q5, show c' = b by omega]
      rw [if_pos (Or.inl this), if_pos (Or.inl this)]
theorem sp_facts_cg {b : Nat} {z : Int32} : ∀ j, 1 ≤ j → j < 9 → sp_facts W b z F j = sp_facts W b z (fun _ => nI 0) j := by
  intro j h1 h2
  unfold sp_facts
  match j, h1, h2 with
  | 1, _, _ => rfl
  | 2, _, _ => rfl
  | 3, _, _ => rfl
  | 4, _, _ => rfl
  | 5, _, _ => rfl
  | 6, _, _ => rfl
  | 7, _, _ => rfl
  | 8, _, _ => rfl
theorem xl_230 {b k : Nat} {wet : Bool} (hb : b < 14) (hk : W (50 + 14 * b + 5) = nI k) (hk8 : k < 8) (hl : sp_law W) (hp : ∀ P' F' : xw, Q (some (.int (sp_haul W b (sp_b2 wet)))) (xq_s g J (xm I A W P' F' N))) : xq_wp (d + 2) 230 (xq_s g J (xm I A W P F N)) 0 [.ref 126, .int (nI b), .int (sp_b2 wet), xq_un, xq_un] [] Q := by
  obtain ⟨m, h1, h2, h3⟩ := id hl
  have x1 : sp_ix W (50 + 14 * b + 5) = k := xk_ix hk (by omega)
  have x2 : sp_ix W 1075 = m := xk_ix h2 (by omega)
  have key : xq_wp (d + 2) 230 (xq_s g J (xm I A W P (sp_facts W b (sp_b2 wet) F) N)) 116 [.ref 126, .int (nI b), .int (sp_b2 wet), .int (nI k), .int (nI 0)] [] Q := by
    refine xl_230_116 hl h2 h1 m 0 P (by omega) (fun P' => ?_)
    rw [sp_hl_cg hl h2 h1 sp_facts_cg m 0 (by omega)]
    have := hp P' (sp_facts W b (sp_b2 wet) F)
    rw [sp_haul, x2] at this
    exact this
  unfold sp_facts at key
  rw [x1] at key
  cases wet
  · exact xu_230 ⟨by omega, hk, by omega, by omega, fun _ => ⟨by omega, by omega, key⟩, fun z => absurd rfl z⟩
  · exact xu_230 ⟨by omega, hk, by omega, by omega, fun z => absurd z (by decide), fun _ => ⟨by omega, by omega, key⟩⟩
end xq_m3f
