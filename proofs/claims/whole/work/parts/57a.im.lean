/-! THE IMAGE: a yard is copied -/
section xk_im
variable {d m pc : Nat} {x : xq_S} {L : List Value} {Q : Option Value → xq_S → Prop} {a b : Nat}
theorem xq_wp.cv {o b0 i0 len f c sz : Nat} (hc : xq_code m pc = some (.invokevirtual i0, len, f, 2, c)) (hf : f < 1000) (hN : o < xq_N x) (hK : xq_K x o = (xq_ow f, sz)) (g : xq_wp d f x 0 ([.ref o, .ref b0] ++ List.replicate (c - 2) xq_un) [] (fun v x1 => xq_wp (d + 1) m x1 (pc + 3) L (v.toList ++ []) Q)) : xq_wp (d + 1) m x pc L [.ref b0, .ref o] Q :=
  xq_wp.call (As := [.ref o, .ref b0]) (r := []) hc (by simp only [xq_isCall, hf, decide_true]) rfl (by simp only [xq_rc, hN, hK, decide_true, Bool.and_self, Bool.and_true]; rfl) g
theorem cp_155 (ha : shB x a) (hb : shB x b) (hab : a + 4 < b ∨ b + 4 < a) {cnt : Nat} (hcnt : cnt ≤ 200) (h0 : x.2.2 a 0 = nI 200) (h1 : x.2.2 b 1 = nI cnt) (hp : ∀ I' : Nat → xw, (∀ t, t < a ∨ a + 4 < t → I' t = x.2.2 t) → I' a 1 = nI cnt → I' a 0 = x.2.2 a 0 → (∀ j, j < cnt → I' (a + 1) j = x.2.2 (b + 1) j) → (∀ j, j < cnt → I' (a + 2) j = x.2.2 (b + 2) j) → (∀ j, j < cnt → I' (a + 3) j = x.2.2 (b + 3) j) → (∀ j, j < cnt → I' (a + 4) j = x.2.2 (b + 4) j) → Q none (x.1, x.2.1, I')) : xq_wp (d + 1) 155 x 0 [.ref a, .ref b, xq_un] [] Q := by
  refine xq_wp.go (k := 1) (x' := x) (pc' := 1) (L' := [.ref a, .ref b, xq_un]) (st' := [.ref a]) (fun F => rfl) ?_
  refine xq_wp.gfI rfl (ha.1 0 (by omega)).1 (ha.1 0 (by omega)).2 (by decide) rfl ?_
  rw [h0]
  refine xq_wp.go (k := 1) (x' := x) (pc' := 5) (L' := [.ref a, .ref b, xq_un]) (st' := [.ref b, .int (nI 200)]) (fun F => rfl) ?_
  refine xq_wp.gfI rfl (hb.1 0 (by omega)).1 (hb.1 0 (by omega)).2 (by decide) rfl ?_
  rw [h1]
  refine xq_wp.call (As := [.int (nI 200), .int (nI cnt)]) (r := []) rfl rfl rfl rfl (xf_39 ?_)
  rw [xn_min (by omega) (by omega), show min 200 cnt = cnt by omega]
  refine xq_wp.go (k := 1) (x' := x) (pc' := 12) (L' := [.ref a, .ref b, .int (nI cnt)]) (st' := []) (fun F => rfl) ?_
  exact cp_155c ha hb hab hcnt hp
/-- what a copied yard has of the other's -/
def yc (I' I : Nat → xw) (a b cnt : Nat) : Prop := (I' (a + 1) 0 = I (b + 1) 0 ∧ I' (a + 1) 5 = I (b + 1) 5 ∧ (∀ i j, i < 4 → j < 14 → I' (a + 2 + i) j = I (b + 2 + i) j) ∧ ∀ i j, i < 2 → j < 8 → I' (a + 6 + i) j = I (b + 6 + i) j) ∧ (I' (a + 8) 0 = I (b + 8) 0 ∧ (∀ j, j < 400 → I' (a + 9) j = I (b + 9) j) ∧ ∀ j, j < 16 → I' (a + 10) j = I (b + 10) j) ∧ (I' (a + 13) 0 = I (b + 13) 0 ∧ ∀ i j, i < 3 → j < 100 → I' (a + 14 + i) j = I (b + 14 + i) j) ∧ ((∀ j, 8 ≤ j → j < 15 → I' (a + 17) j = I (b + 17) j) ∧ (∀ j, j < 12 → I' (a + 18) j = I (b + 18) j) ∧ (∀ j, j < 4 → I' (a + 19) j = I (b + 19) j) ∧ (∀ i j, i < 5 → j < 14 → I' (a + 20 + i) j = I (b + 20 + i) j) ∧ ∀ j, j < 70 → I' (a + 25) j = I (b + 25) j) ∧ (I' (a + 26) 0 = I (a + 26) 0 ∧ I' (a + 26) 1 = nI cnt ∧ ∀ i j, i < 4 → j < cnt → I' (a + 27 + i) j = I (b + 27 + i) j)
theorem cp_154 (ha : shY x a) (hb : shY x b) (hab : a + 30 < b ∨ b + 30 < a) {cnt : Nat} (hcnt : cnt ≤ 200) (h0 : x.2.2 (a + 26) 0 = nI 200) (h1 : x.2.2 (b + 26) 1 = nI cnt) (hp : ∀ I' : Nat → xw, (∀ t, t < a ∨ a + 30 < t → I' t = x.2.2 t) → yc I' x.2.2 a b cnt → Q none (x.1, x.2.1, I')) : xq_wp (d + 2) 154 x 0 [.ref a, .ref b] [] Q := by
  obtain ⟨na, ka, ra0, ra1, ra2, ra3, ra4, aG, aL, aP, aS, aB⟩ := ha
  obtain ⟨nb, kb, rb0, rb1, rb2, rb3, rb4, bG, bL, bP, bS, bB⟩ := hb
  refine xq_wp.go (k := 1) (x' := x) (pc' := 1) (L' := [.ref a, .ref b]) (st' := [.ref a]) (fun F => rfl) ?_
  refine xq_wp.gfR rfl na ka (by decide) rfl ra0 ?_
  refine xq_wp.go (k := 1) (x' := x) (pc' := 5) (L' := [.ref a, .ref b]) (st' := [.ref b, .ref (a + 1)]) (fun F => rfl) ?_
  refine xq_wp.gfR rfl nb kb (by decide) rfl rb0 ?_
  refine xq_wp.cv rfl (by decide) (aG.1 0 (by omega)).1 (aG.1 0 (by omega)).2 (cp_32 aG bG (by omega) (fun I1 o1 g0 g5 g1 g2 g3 g4 g6 g7 => ?_))
  refine xq_wp.go (k := 1) (x' := (x.1, x.2.1, I1)) (pc' := 12) (L' := [.ref a, .ref b]) (st' := [.ref a]) (fun F => rfl) ?_
  refine xq_wp.gfR (x := (x.1, x.2.1, I1)) rfl na ka (by decide) rfl ra1 ?_
  refine xq_wp.go (k := 1) (x' := (x.1, x.2.1, I1)) (pc' := 16) (L' := [.ref a, .ref b]) (st' := [.ref b, .ref (a + 8)]) (fun F => rfl) ?_
  refine xq_wp.gfR (x := (x.1, x.2.1, I1)) rfl nb kb (by decide) rfl rb1 ?_
  refine xq_wp.cv (x := (x.1, x.2.1, I1)) rfl (by decide) (aL.1 0 (by omega)).1 (aL.1 0 (by omega)).2 (cp_58 (x := (x.1, x.2.1, I1)) aL bL (by omega) (fun I2 o2 l3 l4 l0 l1 l6 l7 => ?_))
  refine xq_wp.go (k := 1) (x' := (x.1, x.2.1, I2)) (pc' := 23) (L' := [.ref a, .ref b]) (st' := [.ref a]) (fun F => rfl) ?_
  refine xq_wp.gfR (x := (x.1, x.2.1, I2)) rfl na ka (by decide) rfl ra2 ?_
  refine xq_wp.go (k := 1) (x' := (x.1, x.2.1, I2)) (pc' := 27) (L' := [.ref a, .ref b]) (st' := [.ref b, .ref (a + 13)]) (fun F => rfl) ?_
  refine xq_wp.gfR (x := (x.1, x.2.1, I2)) rfl nb kb (by decide) rfl rb2 ?_
  refine xq_wp.cv (x := (x.1, x.2.1, I2)) rfl (by decide) (aP.1 0 (by omega)).1 (aP.1 0 (by omega)).2 (cp_66 (x := (x.1, x.2.1, I2)) aP bP (by omega) (fun I3 o3 p0 p1 p2 p3 => ?_))
  refine xq_wp.go (k := 1) (x' := (x.1, x.2.1, I3)) (pc' := 34) (L' := [.ref a, .ref b]) (st' := [.ref a]) (fun F => rfl) ?_
  refine xq_wp.gfR (x := (x.1, x.2.1, I3)) rfl na ka (by decide) rfl ra3 ?_
  refine xq_wp.go (k := 1) (x' := (x.1, x.2.1, I3)) (pc' := 38) (L' := [.ref a, .ref b]) (st' := [.ref b, .ref (a + 17)]) (fun F => rfl) ?_
  refine xq_wp.gfR (x := (x.1, x.2.1, I3)) rfl nb kb (by decide) rfl rb3 ?_
  refine xq_wp.cv (x := (x.1, x.2.1, I3)) rfl (by decide) (aS.1 0 (by omega)).1 (aS.1 0 (by omega)).2 (cp_71 (x := (x.1, x.2.1, I3)) aS bS (by omega) (fun I4 o4 s8 s9 s10 s11 s12 s13 s14 t1 t2 t3 t4 t5 t6 t7 t8 => ?_))
  refine xq_wp.go (k := 1) (x' := (x.1, x.2.1, I4)) (pc' := 45) (L' := [.ref a, .ref b]) (st' := [.ref a]) (fun F => rfl) ?_
  refine xq_wp.gfR (x := (x.1, x.2.1, I4)) rfl na ka (by decide) rfl ra4 ?_
  refine xq_wp.go (k := 1) (x' := (x.1, x.2.1, I4)) (pc' := 49) (L' := [.ref a, .ref b]) (st' := [.ref b, .ref (a + 26)]) (fun F => rfl) ?_
  refine xq_wp.gfR (x := (x.1, x.2.1, I4)) rfl nb kb (by decide) rfl rb4 ?_
  have q1 : ∀ t, t < a + 1 ∨ a + 7 < t → I1 t = x.2.2 t := fun t ht => o1 t (by omega)
  have q2 : ∀ t, t < a + 8 ∨ a + 12 < t → I2 t = I1 t := fun t ht => o2 t (by omega)
  have q3 : ∀ t, t < a + 13 ∨ a + 16 < t → I3 t = I2 t := fun t ht => o3 t (by omega)
  have q4 : ∀ t, t < a + 17 ∨ a + 25 < t → I4 t = I3 t := fun t ht => o4 t (by omega)
  have r4 : ∀ t, t < a + 1 ∨ a + 25 < t → I4 t = x.2.2 t := fun t ht => by rw [q4 t (by omega), q3 t (by omega), q2 t (by omega), q1 t (by omega)]
  refine xq_wp.cv (x := (x.1, x.2.1, I4)) rfl (by decide) (aB.1 0 (by omega)).1 (aB.1 0 (by omega)).2 (cp_155 (x := (x.1, x.2.1, I4)) aB bB (by omega) hcnt ((congrFun (r4 (a + 26) (by omega)) 0).trans h0) ((congrFun (r4 (b + 26) (by omega)) 1).trans h1) (fun I5 o5 b1 b0 u1 u2 u3 u4 => ?_))
  have q5 : ∀ t, t < a + 26 ∨ a + 30 < t → I5 t = I4 t := fun t ht => o5 t (by omega)
  have c1 : ∀ t, a + 1 ≤ t → t ≤ a + 7 → ∀ j, I5 t j = I1 t j := fun t t1 t2 j => by rw [q5 t (by omega), q4 t (by omega), q3 t (by omega), q2 t (by omega)]
  have c2 : ∀ t, a + 8 ≤ t → t ≤ a + 12 → ∀ j, I5 t j = I2 t j := fun t t1 t2 j => by rw [q5 t (by omega), q4 t (by omega), q3 t (by omega)]
  have c3 : ∀ t, a + 13 ≤ t → t ≤ a + 16 → ∀ j, I5 t j = I3 t j := fun t t1 t2 j => by rw [q5 t (by omega), q4 t (by omega)]
  have c4 : ∀ t, a + 17 ≤ t → t ≤ a + 25 → ∀ j, I5 t j = I4 t j := fun t t1 t2 j => by rw [q5 t (by omega)]
  have d1 : ∀ t, b ≤ t → t ≤ b + 30 → ∀ j, I1 t j = x.2.2 t j := fun t t1 t2 j => by rw [q1 t (by omega)]
  have d2 : ∀ t, b ≤ t → t ≤ b + 30 → ∀ j, I2 t j = x.2.2 t j := fun t t1 t2 j => by rw [q2 t (by omega), q1 t (by omega)]
  have d3 : ∀ t, b ≤ t → t ≤ b + 30 → ∀ j, I3 t j = x.2.2 t j := fun t t1 t2 j => by rw [q3 t (by omega), q2 t (by omega), q1 t (by omega)]
  have d4 : ∀ t, b ≤ t → t ≤ b + 30 → ∀ j, I4 t j = x.2.2 t j := fun t t1 t2 j => by rw [r4 t (by omega)]
  refine xq_wp.ret (k := 1) (fun F => rfl) (hp I5 (fun t ht => ?_) ⟨⟨?_, ?_, fun i j hi hj => ?_, fun i j hi hj => ?_⟩, ⟨?_, fun j hj => ?_, fun j hj => ?_⟩, ⟨?_, fun i j hi hj => ?_⟩, ⟨fun j j1 j2 => ?_, fun j hj => ?_, fun j hj => ?_, fun i j hi hj => ?_, fun j hj => ?_⟩, ⟨?_, b1, fun i j hi hj => ?_⟩⟩)
  · rw [q5 t (by omega), r4 t (by omega)]
  · exact (c1 _ (by omega) (by omega) _).trans g0
  · exact (c1 _ (by omega) (by omega) _).trans g5
  · rw [c1 _ (by omega) (by omega)]
    match i, hi with
    | 0, _ => exact g1 j hj
    | 1, _ => exact g2 j hj
    | 2, _ => exact g3 j hj
    | 3, _ => exact g4 j hj
    | i + 4, h => exact absurd h (by omega)
  · rw [c1 _ (by omega) (by omega)]
    match i, hi with
    | 0, _ => exact g6 j hj
    | 1, _ => exact g7 j hj
    | i + 2, h => exact absurd h (by omega)
  · exact (c2 _ (by omega) (by omega) _).trans (l0.trans (d1 _ (by omega) (by omega) _))
  · exact (c2 _ (by omega) (by omega) _).trans ((l6 j hj).trans (d1 (b + 9) (by omega) (by omega) _))
  · exact (c2 _ (by omega) (by omega) _).trans ((l7 j hj).trans (d1 (b + 10) (by omega) (by omega) _))
  · exact (c3 _ (by omega) (by omega) _).trans (p0.trans (d2 _ (by omega) (by omega) _))
  · rw [c3 _ (by omega) (by omega)]
    match i, hi with
    | 0, _ => exact (p1 j hj).trans (d2 (b + 14) (by omega) (by omega) _)
    | 1, _ => exact (p2 j hj).trans (d2 (b + 15) (by omega) (by omega) _)
    | 2, _ => exact (p3 j hj).trans (d2 (b + 16) (by omega) (by omega) _)
    | i + 3, h => exact absurd h (by omega)
  · rw [c4 _ (by omega) (by omega), ← d3 (b + 17) (by omega) (by omega)]
    have : j = 8 ∨ j = 9 ∨ j = 10 ∨ j = 11 ∨ j = 12 ∨ j = 13 ∨ j = 14 := by omega
    rcases this with e | e | e | e | e | e | e <;> subst e
    · exact s8
    · exact s9
    · exact s10
    · exact s11
    · exact s12
    · exact s13
    · exact s14
  · exact (c4 _ (by omega) (by omega) _).trans ((t1 j hj).trans (d3 (b + 18) (by omega) (by omega) _))
  · exact (c4 _ (by omega) (by omega) _).trans ((t2 j hj).trans (d3 (b + 19) (by omega) (by omega) _))
  · rw [c4 _ (by omega) (by omega)]
    match i, hi with
    | 0, _ => exact (t3 j hj).trans (d3 (b + 20) (by omega) (by omega) _)
    | 1, _ => exact (t4 j hj).trans (d3 (b + 21) (by omega) (by omega) _)
    | 2, _ => exact (t5 j hj).trans (d3 (b + 22) (by omega) (by omega) _)
    | 3, _ => exact (t6 j hj).trans (d3 (b + 23) (by omega) (by omega) _)
    | 4, _ => exact (t7 j hj).trans (d3 (b + 24) (by omega) (by omega) _)
    | i + 5, h => exact absurd h (by omega)
  · exact (c4 _ (by omega) (by omega) _).trans ((t8 j hj).trans (d3 (b + 25) (by omega) (by omega) _))
  · exact b0.trans (congrFun (r4 (a + 26) (by omega)) 0)
  · match i, hi with
    | 0, _ => exact (u1 j hj).trans (d4 (b + 27) (by omega) (by omega) _)
    | 1, _ => exact (u2 j hj).trans (d4 (b + 28) (by omega) (by omega) _)
    | 2, _ => exact (u3 j hj).trans (d4 (b + 29) (by omega) (by omega) _)
    | 3, _ => exact (u4 j hj).trans (d4 (b + 30) (by omega) (by omega) _)
    | i + 4, h => exact absurd h (by omega)
end xk_im
