/-! the class writes its book -/
def bok (q : Bool) (R : Nat → xw) : Prop := R 11 1 < R 11 0 → q = true ∧ ∃ l, l < 200 ∧ R 11 1 = nI l
section xk_bk
variable {d : Nat} {g : xq_V} {J : Nat → Nat → Int64} {I : Nat → Nat → Int32} {Q : Option Value → xq_S → Prop} {q : Bool} {R : Nat → xw} {W : xw}
theorem yl_79 {wk b e k : Int32} (h : bok q R) (hp : Q none (xq_s g J (xc q I (cw R wk b e k)))) : xq_wp d 79 (xq_s g J (xc q I R)) 0 [.ref (xid q 11), .int wk, .int b, .int e, .int k] [] Q := by
  by_cases z : R 11 1 < R 11 0
  · obtain ⟨hq, l, hl, el⟩ := h z
    subst hq
    rw [cw, if_pos z, xk_ix el (by omega), el, nI_add] at hp
    exact yu_79_t (l := l) ⟨fun _ => ⟨el, hl, el, el, el, el, hp⟩, fun y => absurd z y⟩
  · rw [cw, if_neg z] at hp
    cases q
    · exact yu_79_f (l := 0) ⟨fun y => absurd y z, fun _ => hp⟩
    · exact yu_79_t (l := 0) ⟨fun y => absurd y z, fun _ => hp⟩
theorem bok_cB (h : cB q R W) (ho : okb W) : bok q R := by
  intro z
  cases q
  · obtain ⟨h1, h2, h3⟩ := h.2 rfl
    rw [h1, h2] at z
    exact absurd z (by decide)
  · obtain ⟨h1, h2, h3⟩ := h.1 rfl
    obtain ⟨l, hl, el⟩ := ho
    rw [h1, h2, el, xn_lt (by omega) (by omega)] at z
    exact ⟨rfl, l, z, h2.trans el⟩
theorem bok_row {R' : Nat → xw} (h : bok q R) (e : R' 11 = R 11) : bok q R' := by
  unfold bok
  rw [e]
  exact h
end xk_bk
section xk_mut
variable {q : Bool} {n ns : Nat} {I R R' : Nat → xw} {W W' : xw}
/-- a block is put elsewhere; nothing laid, nothing taken up -/
theorem CR_blk {b : Nat} (ho : ok n ns W) (h : CR q n ns I R W) (hb : b < n) (eW : ∀ p, ¬ p = 50 + 14 * b + 4 → ¬ p = 50 + 14 * b + 5 → ¬ p = 50 + 14 * b + 6 → W' p = W p) (eR : ∀ i, ¬ i = 4 → ¬ i = 5 → ¬ i = 6 → R' i = R i) (eX : ∀ i x, ¬ x = b → R' i x = R i x) (h4 : R' 4 b = W' (50 + 14 * b + 4)) (hA : W' (50 + 14 * b + 4) = nI 2 → R' 5 b = W' (50 + 14 * b + 5) ∧ R' 6 b = W' (50 + 14 * b + 6)) (o4 : ¬ W (50 + 14 * b + 4) = nI 4) (n4 : ¬ W' (50 + 14 * b + 4) = nI 4) : CR q n ns I R' W' := by
  have n14 := ho.1.2.1
  have ns8 := ho.1.2.2.2
  obtain ⟨g1, g2, g3, g4, g5, g6, g7, g8, g9, g10, g11, g12, g13, g14⟩ := h
  have eb : ∀ x, x < n → (W' (50 + 14 * x + 4) = nI 4 ↔ W (50 + 14 * x + 4) = nI 4) := by
    intro x hx
    by_cases e : x = b
    · subst e; exact ⟨fun z => absurd z n4, fun z => absurd z o4⟩
    · rw [eW _ (by omega) (by omega) (by omega)]
  have em : sp_lmany W' n 0 (nI 0) = sp_lmany W n 0 (nI 0) := sp_lmany_cg _ _ _ (fun x h1 h2 => eb x (by omega))
  refine ⟨⟨?_, ?_, fun b' hb' => ?_, fun k hk => ?_⟩, cLaw_fr ho.2.2.2.2.2.2.2.2.2.2 g2 (fun p h1 h2 => eW p (by omega) (by omega) (by omega)), ?_, ⟨?_, ?_, ?_, ?_, ?_⟩, fun i hi => ?_, fun i hi => ?_, fun i hi => ?_, fun b' hb' => ?_, fun b' hb' z => ?_, fun b' hb' => ?_, fun hq b' k hb' hk => ?_, ?_, ⟨?_, ?_⟩, ?_⟩
  · rw [eW _ (by omega) (by omega) (by omega)]; exact g1.1
  · rw [eW _ (by omega) (by omega) (by omega)]; exact g1.2.1
  · rw [eW _ (by omega) (by omega) (by omega), eW _ (by omega) (by omega) (by omega), eW _ (by omega) (by omega) (by omega), eW _ (by omega) (by omega) (by omega)]; exact g1.2.2.1 b' hb'
  · rw [eW _ (by omega) (by omega) (by omega), eW _ (by omega) (by omega) (by omega)]; exact g1.2.2.2 k hk
  · rw [eR _ (by omega) (by omega) (by omega)]; exact g3
  · rw [eR _ (by omega) (by omega) (by omega), eW _ (by omega) (by omega) (by omega)]; exact g4.1
  · rw [eR _ (by omega) (by omega) (by omega), eW _ (by omega) (by omega) (by omega)]; exact g4.2.1
  · rw [eR _ (by omega) (by omega) (by omega), eW _ (by omega) (by omega) (by omega)]; exact g4.2.2.1
  · rw [eR _ (by omega) (by omega) (by omega), eW _ (by omega) (by omega) (by omega)]; exact g4.2.2.2.1
  · rw [eR _ (by omega) (by omega) (by omega), eW _ (by omega) (by omega) (by omega)]; exact g4.2.2.2.2
  · rw [eR _ (by omega) (by omega) (by omega), eW _ (by omega) (by omega) (by omega)]; exact g5 i hi
  · rw [eR _ (by omega) (by omega) (by omega), eW _ (by omega) (by omega) (by omega)]; exact g6 i hi
  · rw [eR _ (by omega) (by omega) (by omega), eW _ (by omega) (by omega) (by omega)]; exact g7 i hi
  · by_cases e : b' = b
    · subst e; exact h4
    · rw [eX _ _ e, eW _ (by omega) (by omega) (by omega)]; exact g8 b' hb'
  · by_cases e : b' = b
    · subst e; exact hA z
    · rw [eW _ (by omega) (by omega) (by omega)] at z
      rw [eX _ _ e, eX _ _ e, eW _ (by omega) (by omega) (by omega), eW _ (by omega) (by omega) (by omega)]; exact g9 b' hb' z
  · rw [eR _ (by omega) (by omega) (by omega), eW _ (by omega) (by omega) (by omega)]; exact g10 b' hb'
  · rw [eR _ (by omega) (by omega) (by omega), eW _ (by omega) (by omega) (by omega)]; exact g11 hq b' k hb' hk
  · unfold cB sp_ix
    rw [eR _ (by omega) (by omega) (by omega), eR _ (by omega) (by omega) (by omega), eR _ (by omega) (by omega) (by omega), eR _ (by omega) (by omega) (by omega), eR _ (by omega) (by omega) (by omega), eW 6 (by omega) (by omega) (by omega)]
    refine ⟨fun hq => ⟨(g12.1 hq).1, (g12.1 hq).2.1, fun i hi => ?_⟩, g12.2⟩
    rw [eW _ (by omega) (by omega) (by omega), eW _ (by omega) (by omega) (by omega), eW _ (by omega) (by omega) (by omega), eW _ (by omega) (by omega) (by omega)]
    exact (g12.1 hq).2.2 i hi
  · rw [eR _ (by omega) (by omega) (by omega), g13.1]; exact (sp_lset_cg _ _ _ (fun x h1 h2 => eb x (by omega))).symm
  · rw [eR _ (by omega) (by omega) (by omega), g13.2]; exact (sp_lean_cg _ _ _ (fun x h1 h2 => ⟨eb x (by omega), by rw [sp_wei, sp_wei, eW _ (by omega) (by omega) (by omega), eW _ (by omega) (by omega) (by omega)]⟩)).symm
  · unfold cS
    rw [em, eW _ (by omega) (by omega) (by omega)]
    exact g14
/-- rows and places that count for nothing else -/
theorem CR_oth {F : Nat → Prop} (ho : ok n ns W) (h : CR q n ns I R W) (eW : ∀ p, ¬ F p → W' p = W p) (hF : ∀ p, F p → p = 3 ∨ p = 4 ∨ p = 7 ∨ p = 2 ∨ (10 ≤ p ∧ p < 22) ∨ (24 ≤ p ∧ p < 28) ∨ (∃ b k, b < 14 ∧ (k = 1 ∨ 7 ≤ k ∧ k < 12) ∧ p = 50 + 14 * b + k)) (e3 : R' 3 = R 3) (e4 : R' 4 = R 4) (e5 : R' 5 = R 5) (e6 : R' 6 = R 6) (e9 : R' 9 4 = R 9 4) (e11 : R' 11 = R 11) (e12 : R' 12 = R 12) (e13 : R' 13 = R 13) (e14 : R' 14 = R 14) (e15 : R' 15 = R 15) (e0 : R' 0 13 = R 0 13 ∧ R' 0 14 = R 0 14) (h0 : cT0 R' W') (h1 : cT1 R' W') (h2 : cT2 R' W') (h7 : cT7 n R' W') (h8 : cT8 q n R' W') : CR q n ns I R' W' := by
  have n14 := ho.1.2.1
  have ns8 := ho.1.2.2.2
  obtain ⟨g1, g2, g3, g4, g5, g6, g7, g8, g9, g10, g11, g12, g13, g14⟩ := h
  have ew : ∀ p, ¬ (p = 3 ∨ p = 4 ∨ p = 7 ∨ p = 2 ∨ (10 ≤ p ∧ p < 22) ∨ (24 ≤ p ∧ p < 28) ∨ (∃ b k, b < 14 ∧ (k = 1 ∨ 7 ≤ k ∧ k < 12) ∧ p = 50 + 14 * b + k)) → W' p = W p := fun p z => eW p (fun y => z (hF p y))
  have eb : ∀ b k, b < 14 → k < 14 → ¬ k = 1 → ¬ (7 ≤ k ∧ k < 12) → W' (50 + 14 * b + k) = W (50 + 14 * b + k) := by
    intro b k hb hk k1 k2
    refine ew _ ?_
    rintro (z | z | z | z | z | z | ⟨b', k', h1, h2, h3⟩) <;> omega
  have es : ∀ p, (p < 2 ∨ p = 5 ∨ p = 6 ∨ (28 ≤ p ∧ p < 50) ∨ 246 ≤ p) → W' p = W p := by
    intro p hp
    refine ew _ ?_
    rintro (z | z | z | z | z | z | ⟨b', k', h1, h2, h3⟩) <;> omega
  have em : sp_lmany W' n 0 (nI 0) = sp_lmany W n 0 (nI 0) := sp_lmany_cg _ _ _ (fun x h1 h2 => by rw [eb x 4 (by omega) (by omega) (by omega) (by omega)])
  refine ⟨⟨?_, ?_, fun b' hb' => ?_, fun k hk => ?_⟩, cLaw_fr ho.2.2.2.2.2.2.2.2.2.2 g2 (fun p h1 h2 => es p (by omega)), e9.trans g3, h0, h1, h2, fun i hi => ?_, fun b' hb' => ?_, fun b' hb' z => ?_, h7, h8, ?_, ⟨?_, ?_⟩, ?_⟩
  · rw [es _ (by omega)]; exact g1.1
  · rw [es _ (by omega)]; exact g1.2.1
  · rw [eb _ _ (by omega) (by omega) (by omega) (by omega), eb _ _ (by omega) (by omega) (by omega) (by omega), eb _ _ (by omega) (by omega) (by omega) (by omega), eb _ _ (by omega) (by omega) (by omega) (by omega)]; exact g1.2.2.1 b' hb'
  · rw [es _ (by omega), es _ (by omega)]; exact g1.2.2.2 k hk
  · rw [e3, es _ (by omega)]; exact g7 i hi
  · rw [e4, eb _ _ (by omega) (by omega) (by omega) (by omega)]; exact g8 b' hb'
  · rw [eb _ _ (by omega) (by omega) (by omega) (by omega)] at z
    rw [e5, e6, eb _ _ (by omega) (by omega) (by omega) (by omega), eb _ _ (by omega) (by omega) (by omega) (by omega)]; exact g9 b' hb' z
  · unfold cB sp_ix
    rw [e11, e12, e13, e14, e15, es 6 (by omega)]
    refine ⟨fun hq => ⟨(g12.1 hq).1, (g12.1 hq).2.1, fun i hi => ?_⟩, g12.2⟩
    rw [es _ (by omega), es _ (by omega), es _ (by omega), es _ (by omega)]
    exact (g12.1 hq).2.2 i hi
  · rw [e0.1, g13.1]; exact (sp_lset_cg _ _ _ (fun x h1 h2 => by rw [eb x 4 (by omega) (by omega) (by omega) (by omega)])).symm
  · rw [e0.2, g13.2]; exact (sp_lean_cg _ _ _ (fun x h1 h2 => ⟨by rw [eb x 4 (by omega) (by omega) (by omega) (by omega)], by rw [sp_wei, sp_wei, eb _ _ (by omega) (by omega) (by omega) (by omega), eb _ _ (by omega) (by omega) (by omega) (by omega)]⟩)).symm
  · unfold cS
    rw [em, es _ (by omega)]
    exact g14
end xk_mut
