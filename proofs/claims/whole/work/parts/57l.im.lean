/-! THE IMAGE: a yard is made for it; the pair: image -/
section xk_imn
theorem yk_s : (∀ j, j < 7 → YK.getD (1 + j) (0, 0) = yG.getD j (0, 0)) ∧ (∀ j, j < 5 → YK.getD (8 + j) (0, 0) = yL.getD j (0, 0)) ∧ (∀ j, j < 4 → YK.getD (13 + j) (0, 0) = yP.getD j (0, 0)) ∧ (∀ j, j < 9 → YK.getD (17 + j) (0, 0) = yS.getD j (0, 0)) ∧ ∀ j, j < 5 → YK.getD (26 + j) (0, 0) = yB.getD j (0, 0) := by decide
theorem sh_of {x : xq_S} {N : Nat} (hN : xq_N x = N + 31) (KK : ∀ i, i < 31 → xq_K x (N + i) = YK.getD i (0, 0)) (RR : ∀ r ∈ YR, xq_R x (N + r.1) r.2.1 = some (N + r.2.2)) : shY x N := by
  have kk : ∀ b j, b + j < 31 → N + b + j < xq_N x ∧ xq_K x (N + b + j) = YK.getD (b + j) (0, 0) := fun b j h => ⟨by omega, by rw [Nat.add_assoc]; exact KK (b + j) h⟩
  refine ⟨by omega, KK 0 (by omega), RR (0, 0, 1) (by decide), RR (0, 1, 8) (by decide), RR (0, 2, 13) (by decide), RR (0, 3, 17) (by decide), RR (0, 4, 26) (by decide), ⟨fun j hj => ?_, RR (1, 1, 2) (by decide), RR (1, 2, 3) (by decide), RR (1, 3, 4) (by decide), RR (1, 4, 5) (by decide), RR (1, 6, 6) (by decide), RR (1, 7, 7) (by decide)⟩, ⟨fun j hj => ?_, RR (8, 2, 9) (by decide), RR (8, 3, 10) (by decide)⟩, ⟨fun j hj => ?_, RR (13, 1, 14) (by decide), RR (13, 2, 15) (by decide), RR (13, 3, 16) (by decide)⟩, ⟨fun j hj => ?_, fun j hj => ?_⟩, ⟨fun j hj => ?_, RR (26, 2, 27) (by decide), RR (26, 3, 28) (by decide), RR (26, 4, 29) (by decide), RR (26, 5, 30) (by decide)⟩⟩
  · exact ⟨(kk 1 j (by omega)).1, (kk 1 j (by omega)).2.trans (yk_s.1 j hj)⟩
  · exact ⟨(kk 8 j (by omega)).1, (kk 8 j (by omega)).2.trans (yk_s.2.1 j hj)⟩
  · exact ⟨(kk 13 j (by omega)).1, (kk 13 j (by omega)).2.trans (yk_s.2.2.1 j hj)⟩
  · exact ⟨(kk 17 j (by omega)).1, (kk 17 j (by omega)).2.trans (yk_s.2.2.2.1 j hj)⟩
  · match j, hj with
    | 0, _ => exact RR (17, 0, 18) (by decide)
    | 1, _ => exact RR (17, 1, 19) (by decide)
    | 2, _ => exact RR (17, 2, 20) (by decide)
    | 3, _ => exact RR (17, 3, 21) (by decide)
    | 4, _ => exact RR (17, 4, 22) (by decide)
    | 5, _ => exact RR (17, 5, 23) (by decide)
    | 6, _ => exact RR (17, 6, 24) (by decide)
    | 7, _ => exact RR (17, 7, 25) (by decide)
    | j + 8, h => exact absurd h (by omega)
  · exact ⟨(kk 26 j (by omega)).1, (kk 26 j (by omega)).2.trans (yk_s.2.2.2.2 j hj)⟩
theorem im_new : imNew := by
  intro g J I Q hg h14 hp
  refine xq_wp.go (k := 1) (x' := xq_s g J I) (pc' := 12) (L' := [.ref 0, .int (nI 1)]) (st' := [.ref 0]) (fun F => rfl) ?_
  refine xq_wp.mkO (c := 10) (n := 5) rfl (by decide) rfl (by show g.1 + 143 < 100000; omega) (fun x1 n1 z1 f1 k1 _ => ?_)
  have y0 : ys (xq_s g J I) (xq_s g J I) (g.1 + 143) 0 0 [] := ⟨rfl, rfl, fun a _ => ⟨rfl, rfl, rfl, rfl⟩, fun i hi => absurd hi (by omega), fun r hr => absurd hr (by simp)⟩
  have y1 : ys (xq_s g J I) x1 (g.1 + 143) 1 5 [] := ys_new y0 rfl n1 z1 f1 k1
  refine xq_wp.go (k := 1) (x' := x1) (pc' := 16) (L' := [.ref 0, .int (nI 1)]) (st' := [.ref (g.1 + 143), .ref (g.1 + 143), .ref 0]) (fun F => rfl) ?_
  refine xq_wp.call (d := 89) (As := [.ref (g.1 + 143)]) (r := [.ref (g.1 + 143), .ref 0]) rfl rfl rfl rfl (cn_1 (d := 87) y1 (by omega) (fun x2 y2 r200 => ?_))
  obtain ⟨b1, b2, b3, b4, b5⟩ := y2
  refine xq_wp.pfR (c := 11) (k := 9) (o := 0) (sz := 10) (r := g.1 + 143) rfl (by omega) (by show g.1 + 143 < 1000000; omega) ((b3 0 (by omega)).1) (by decide) rfl (fun x3 h1 h2 h3 h4 h5 h6 h7 h8 => ?_)
  have KO : ∀ a, a < g.1 + 143 → xq_K x3 a = xq_K (xq_s g J I) a := fun a ha => by
    by_cases e : a = 0
    · subst e; exact h4.trans (b3 0 ha).1
    · exact (h3 a e).1.trans (b3 a ha).1
  have RO : ∀ a j, a < g.1 + 143 → ¬ (a = 0 ∧ j = 9) → xq_R x3 a j = xq_R (xq_s g J I) a j := fun a j ha hn => by
    by_cases e : a = 0
    · subst e; exact (h7 j (fun z => hn ⟨rfl, z⟩)).trans (congrFun (b3 0 ha).2.1 j)
    · exact congrFun ((h3 a e).2.1.trans (b3 a ha).2.1) j
  have IO : ∀ a, a < g.1 + 143 → xq_I x3 a = I a := fun a ha => by
    by_cases e : a = 0
    · subst e; exact h6.trans (b3 0 ha).2.2.2
    · exact (h3 a e).2.2.2.trans (b3 a ha).2.2.2
  have e2 : xq_K x3 = fun a => if a < 143 then xq_K0.getD a (0, 0) else (fun a => if a < 143 then g.2.2.1 a else xq_K x3 a) a := by
    funext a
    by_cases ha : a < 143
    · rw [if_pos ha, KO a (by omega)]
      exact if_pos ha
    · rw [if_neg ha]
      exact (if_neg ha).symm
  have e3 : xq_R x3 = fun a j => if a < 143 then (if a = 0 ∧ j = 9 then some (g.1 + 143) else if a = 53 ∧ j = 1 then g.2.2.2.2.2 else (xq_R0.getD a []).getD j none) else xq_R x3 a j := by
    funext a j
    by_cases ha : a < 143
    · rw [if_pos ha]
      by_cases h0 : a = 0 ∧ j = 9
      · rw [if_pos h0]
        obtain ⟨z1, z2⟩ := h0
        subst z1 z2
        exact h8
      · rw [if_neg h0, RO a j (by omega) h0]
        show (if a < 143 then (if a = 0 ∧ j = 9 then g.2.2.2.2.1 else if a = 53 ∧ j = 1 then g.2.2.2.2.2 else (xq_R0.getD a []).getD j none) else g.2.2.2.1 a j) = _
        rw [if_pos ha, if_neg h0]
    · rw [if_neg ha]
  have ex : x3 = xq_s (g.1 + 31, xq_Z x3, fun a => if a < 143 then g.2.2.1 a else xq_K x3 a, xq_R x3, some (g.1 + 143), g.2.2.2.2.2) x3.2.1 x3.2.2 := Prod.ext (Prod.ext (show xq_N x3 = g.1 + 31 + 143 by omega) (Prod.ext rfl (Prod.ext e2 e3))) rfl
  have sh : shY x3 (g.1 + 143) := sh_of (h1.trans b1) (fun i hi => (h3 _ (by omega)).1.trans (b4 i hi)) (fun r hr => by rw [(h3 _ (by omega)).2.1]; exact (b5 r hr).2)
  have fin := hp (g.1 + 31, xq_Z x3, fun a => if a < 143 then g.2.2.1 a else xq_K x3 a, xq_R x3, some (g.1 + 143), g.2.2.2.2.2) x3.2.1 x3.2.2 rfl (by show xq_Z x3 ≤ g.2.1 + 1836; rw [h2, b2]; exact Nat.le_refl _) (fun a ha => ?_) rfl rfl (by rw [← ex]; exact sh) (fun t ht => IO t ht) ((congrFun (h3 (g.1 + 143 + 26) (by omega)).2.2.2 0).trans r200)
  · rw [← ex] at fin
    exact fin
  · show (if a < 143 then g.2.2.1 a else xq_K x3 a) = g.2.2.1 a
    by_cases h : a < 143
    · rw [if_pos h]
    · rw [if_neg h, KO a ha]
      exact if_neg h
theorem P29 : xq_P29 126 Inv := P29_of im_new
end xk_imn
