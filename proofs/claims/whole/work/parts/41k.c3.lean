/-! the class: haul -/
section yk_c3k
variable {d : Nat} {g : xq_V} {J : Nat → Nat → Int64} {I : Nat → Nat → Int32} {Q : Option Value → xq_S → Prop} {q : Bool} {n ns : Nat} {W F : xw}
theorem sp_to01 {b c : Nat} (h1 : sp_hs W (c - b) b 0 = some 1) (h2 : sp_ty W (c - b) b [] = some [true]) : sp_to W F b c = nI 0 ∨ sp_to W F b c = nI 1 :=
  (sp_ty_ev (F := F) (c - b) b 1 [] [true] (fun _ => nI 0) h2 h1 trivial).1.1 rfl
theorem yl_84_4 {m : Nat} (hl : sp_law W) (hm : W 1075 = nI m) (hm16 : m ≤ 16) {po : Nat → Nat} (h9 : I 9 0 = nI m) (hc : (0 < m → W 1080 = nI 0) ∧ ∀ l, l < m → (l + 1 < m → W (1080 + (l + 1)) = W (1120 + l)) ∧ I 11 l = nI (po (sp_ix W (1120 + l))) ∧ po (sp_ix W (1120 + l)) ≤ 400 ∧ ∀ i, i < sp_ix W (1120 + l) → cStep (I 10) W i (po i) (po (i + 1))) : ∀ (c l a : Nat) (R : Nat → xw) (tl sl : Value), l + c = m → (l < m → W (1080 + l) = nI a ∧ a ≤ 405) → (∀ k, k < 8 → R 17 k = F (k + 1)) → (∀ R' : Nat → xw, (∀ a, ¬ a = 16 → R' a = R a) → Q (some (.int (sp_hl W F c l))) (xq_s g J (xc q I R'))) → po a ≤ 400 → xq_wp (d + 1) 84 (xq_s g J (xc q I R)) 4 [.ref 9, .int (nI (po a)), .int (nI l), tl, sl] [] Q := by
  obtain ⟨m', hm1, hm2, hl⟩ := hl
  have em : m = m' := (xn_eq (by omega) (by omega)).mp (hm.symm.trans hm2)
  subst em
  intro c
  induction c with
  | zero =>
    intro l a R tl sl e ha hK hp h400
    exact yu_84_4 (m := m) ⟨h9, by omega, by omega, fun z => by omega, fun _ => hp R (fun _ _ => rfl)⟩
  | succ c ih =>
    intro l a R tl sl e ha hK hp h400
    refine yu_84_4 (m := m) ⟨h9, by omega, by omega, fun _ => ⟨fun hl16 => ?_, fun z => by omega⟩, fun z => by omega⟩
    obtain ⟨a', b, c', q1, q2, q3, q4, q5, q6, q7, q8⟩ := hl l (by omega)
    have ea : a = a' := (xn_eq (by have := (ha (by omega)).2; omega) (by omega)).mp ((ha (by omega)).1.symm.trans q4)
    subst ea
    have x1 : sp_ix W (1100 + l) = b := xk_ix q5 (by omega)
    have x2 : sp_ix W (1120 + l) = c' := xk_ix q6 (by omega)
    have x3 : sp_ix W (1080 + l) = a := xk_ix q4 (by omega)
    obtain ⟨k1, k2, k3, k4⟩ := hc.2 l (by omega)
    rw [x2] at k2 k3 k4
    have hE : po (a + (b - a)) ≤ po c' := by
      have := po_le (W := W) (C := I 10) (po := po) (c' - b) b (fun j h1 h2 => k4 j (by omega))
      rw [show b + (c' - b) = c' by omega] at this
      rw [show a + (b - a) = b by omega]
      omega
    refine y84_ev (F := F) (po := po) (o := 0) (P := fun _ => nI 0) (by omega) hl16 k2 k3 (b - a) a 0 1 R sl (fun j h1 h2 => k4 j (by omega)) hE q7 (by omega) (fun j hj => by omega) hK (fun R1 sl1 z1 z2 z3 => ?_)
    have e0 : R1 16 0 = sp_to W F a b := z1 0 (by omega)
    rw [show a + (b - a) = b by omega]
    rcases Nat.lt_or_ge b c' with hbc | hbc
    · obtain ⟨q8, q9⟩ := q8 hbc
      have hE2 : po (b + (c' - b)) ≤ po c' := by rw [show b + (c' - b) = c' by omega]; exact Nat.le_refl _
      refine y84_ev (F := F) (po := po) (o := 1) (P := fun _ => nI 0) (by omega) hl16 k2 k3 (c' - b) b 0 1 R1 sl1 (fun j h1 h2 => k4 j (by omega)) hE2 q8 (by omega) (fun j hj => by omega) (fun k hk => by rw [z3 17 (by omega)]; exact hK k hk) (fun R2 sl2 y1 y2 y3 => ?_)
      have e1 : R2 16 1 = sp_to W F b c' := y1 0 (by omega)
      have e2 : R2 16 0 = sp_to W F a b := (y2 0 (by omega)).trans e0
      rw [show b + (c' - b) = c' by omega]
      refine yu_84_20 (e := po c') (s := 0) ⟨hl16, k2, by omega, by omega, fun z => by omega, fun _ => ⟨by omega, fun z => by omega, fun _ => ⟨fun z => ?_, fun z => ?_⟩⟩⟩
      · have hne : ¬ (W (1120 + l) = W (1100 + l) ∨ sp_to W F b c' = nI 1) := by
          rintro (y | y)
          · rw [q6, q5, xn_eq (by omega) (by omega)] at y; omega
          · rw [e1, y] at z; exact absurd z (by decide)
        refine ih (l + 1) c' R2 _ _ (by omega) (fun y => ⟨(k1 y).trans q6, by omega⟩) (fun k hk => by rw [y3 17 (by omega), z3 17 (by omega)]; exact hK k hk) (fun R' y => ?_) k3
        have := hp R' (fun a ha => by rw [y a ha, y3 a ha, z3 a ha])
        simp only [sp_hl, x1, x2, x3, if_neg hne] at this
        exact this
      · have hpo : W (1120 + l) = W (1100 + l) ∨ sp_to W F b c' = nI 1 := by
          right
          rw [e1] at z
          exact (sp_to01 q8 q9).resolve_left z
        have := hp R2 (fun a ha => by rw [y3 a ha, z3 a ha])
        simp only [sp_hl, x1, x2, x3, if_pos hpo] at this
        rw [e2]
        exact this
    · have ebc : b = c' := by omega
      subst ebc
      refine yu_84_20 (e := po b) (s := 0) ⟨hl16, k2, by omega, by omega, fun z => by omega, fun _ => ⟨by omega, fun z => ?_, fun z => by omega⟩⟩
      have hpo : W (1120 + l) = W (1100 + l) ∨ sp_to W F b b = nI 1 := Or.inl (by rw [q6, q5])
      have := hp R1 z3
      simp only [sp_hl, x1, x2, x3, if_pos hpo] at this
      rw [e0]
      exact this
theorem yl_84 {R : Nat → xw} {m : Nat} (hl : sp_law W) (hm : W 1075 = nI m) (hm16 : m ≤ 16) (hc : cLaw (I 9 0) (I 10) (I 11) W) (hK : ∀ k, k < 8 → R 17 k = F (k + 1)) (hp : ∀ R' : Nat → xw, (∀ a, ¬ a = 16 → R' a = R a) → Q (some (.int (sp_hl W F m 0))) (xq_s g J (xc q I R'))) : xq_wp (d + 1) 84 (xq_s g J (xc q I R)) 0 [.ref 9, xq_un, xq_un, xq_un, xq_un] [] Q := by
  obtain ⟨h1, po, h2, h3⟩ := hc
  obtain ⟨h4, h5⟩ := h3 m hm hm16
  have key := yl_84_4 (d := d) (g := g) (J := J) (Q := Q) (q := q) (F := F) hl hm hm16 (h1.trans hm) ⟨h4, h5⟩ m 0 0 R xq_un xq_un (by omega) (fun z => ⟨h4 z, by omega⟩) hK hp (by omega)
  rw [h2] at key
  cases q
  · exact xq_wp.go (k := 4) (fun F => rfl) key
  · exact xq_wp.go (k := 4) (fun F => rfl) key
end yk_c3k
