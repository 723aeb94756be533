/-! copies of a site, a ground, a law, a plan, a book (written by program) -/
section yk_cp
variable {d : Nat} {x : xq_S} {a b : Nat} {Q : Option Value → xq_S → Prop}
theorem cp_71 (ha : shS x a) (hb : shS x b) (hab : a + 8 < b ∨ b + 8 < a) (hp : ∀ I' : Nat → xw, (∀ t, t < a ∨ a + 8 < t → I' t = x.2.2 t) → I' a 8 = x.2.2 b 8 → I' a 9 = x.2.2 b 9 → I' a 10 = x.2.2 b 10 → I' a 11 = x.2.2 b 11 → I' a 12 = x.2.2 b 12 → I' a 13 = x.2.2 b 13 → I' a 14 = x.2.2 b 14 → (∀ j, j < 12 → I' (a + 1) j = x.2.2 (b + 1) j) → (∀ j, j < 4 → I' (a + 2) j = x.2.2 (b + 2) j) → (∀ j, j < 14 → I' (a + 3) j = x.2.2 (b + 3) j) → (∀ j, j < 14 → I' (a + 4) j = x.2.2 (b + 4) j) → (∀ j, j < 14 → I' (a + 5) j = x.2.2 (b + 5) j) → (∀ j, j < 14 → I' (a + 6) j = x.2.2 (b + 6) j) → (∀ j, j < 14 → I' (a + 7) j = x.2.2 (b + 7) j) → (∀ j, j < 70 → I' (a + 8) j = x.2.2 (b + 8) j) → Q none (x.1, x.2.1, I')) : xq_wp d 71 x 0 [.ref a, .ref b] [] Q := by
  have na0 : a < xq_N x := (ha.1 0 (by omega)).1
  have ka0 : xq_K x a = (6, 15) := (ha.1 0 (by omega)).2
  have na1 : (a + 1) < xq_N x := (ha.1 1 (by omega)).1
  have ka1 : xq_K x (a + 1) = (100, 12) := (ha.1 1 (by omega)).2
  have na2 : (a + 2) < xq_N x := (ha.1 2 (by omega)).1
  have ka2 : xq_K x (a + 2) = (100, 4) := (ha.1 2 (by omega)).2
  have na3 : (a + 3) < xq_N x := (ha.1 3 (by omega)).1
  have ka3 : xq_K x (a + 3) = (100, 14) := (ha.1 3 (by omega)).2
  have na4 : (a + 4) < xq_N x := (ha.1 4 (by omega)).1
  have ka4 : xq_K x (a + 4) = (100, 14) := (ha.1 4 (by omega)).2
  have na5 : (a + 5) < xq_N x := (ha.1 5 (by omega)).1
  have ka5 : xq_K x (a + 5) = (100, 14) := (ha.1 5 (by omega)).2
  have na6 : (a + 6) < xq_N x := (ha.1 6 (by omega)).1
  have ka6 : xq_K x (a + 6) = (100, 14) := (ha.1 6 (by omega)).2
  have na7 : (a + 7) < xq_N x := (ha.1 7 (by omega)).1
  have ka7 : xq_K x (a + 7) = (100, 14) := (ha.1 7 (by omega)).2
  have na8 : (a + 8) < xq_N x := (ha.1 8 (by omega)).1
  have ka8 : xq_K x (a + 8) = (100, 70) := (ha.1 8 (by omega)).2
  have ra0 : xq_R x a 0 = some (a + 1) := ha.2 0 (by omega)
  have ra1 : xq_R x a 1 = some (a + 2) := ha.2 1 (by omega)
  have ra2 : xq_R x a 2 = some (a + 3) := ha.2 2 (by omega)
  have ra3 : xq_R x a 3 = some (a + 4) := ha.2 3 (by omega)
  have ra4 : xq_R x a 4 = some (a + 5) := ha.2 4 (by omega)
  have ra5 : xq_R x a 5 = some (a + 6) := ha.2 5 (by omega)
  have ra6 : xq_R x a 6 = some (a + 7) := ha.2 6 (by omega)
  have ra7 : xq_R x a 7 = some (a + 8) := ha.2 7 (by omega)
  have nb0 : b < xq_N x := (hb.1 0 (by omega)).1
  have kb0 : xq_K x b = (6, 15) := (hb.1 0 (by omega)).2
  have nb1 : (b + 1) < xq_N x := (hb.1 1 (by omega)).1
  have kb1 : xq_K x (b + 1) = (100, 12) := (hb.1 1 (by omega)).2
  have nb2 : (b + 2) < xq_N x := (hb.1 2 (by omega)).1
  have kb2 : xq_K x (b + 2) = (100, 4) := (hb.1 2 (by omega)).2
  have nb3 : (b + 3) < xq_N x := (hb.1 3 (by omega)).1
  have kb3 : xq_K x (b + 3) = (100, 14) := (hb.1 3 (by omega)).2
  have nb4 : (b + 4) < xq_N x := (hb.1 4 (by omega)).1
  have kb4 : xq_K x (b + 4) = (100, 14) := (hb.1 4 (by omega)).2
  have nb5 : (b + 5) < xq_N x := (hb.1 5 (by omega)).1
  have kb5 : xq_K x (b + 5) = (100, 14) := (hb.1 5 (by omega)).2
  have nb6 : (b + 6) < xq_N x := (hb.1 6 (by omega)).1
  have kb6 : xq_K x (b + 6) = (100, 14) := (hb.1 6 (by omega)).2
  have nb7 : (b + 7) < xq_N x := (hb.1 7 (by omega)).1
  have kb7 : xq_K x (b + 7) = (100, 14) := (hb.1 7 (by omega)).2
  have nb8 : (b + 8) < xq_N x := (hb.1 8 (by omega)).1
  have kb8 : xq_K x (b + 8) = (100, 70) := (hb.1 8 (by omega)).2
  have rb0 : xq_R x b 0 = some (b + 1) := hb.2 0 (by omega)
  have rb1 : xq_R x b 1 = some (b + 2) := hb.2 1 (by omega)
  have rb2 : xq_R x b 2 = some (b + 3) := hb.2 2 (by omega)
  have rb3 : xq_R x b 3 = some (b + 4) := hb.2 3 (by omega)
  have rb4 : xq_R x b 4 = some (b + 5) := hb.2 4 (by omega)
  have rb5 : xq_R x b 5 = some (b + 6) := hb.2 5 (by omega)
  have rb6 : xq_R x b 6 = some (b + 7) := hb.2 6 (by omega)
  have rb7 : xq_R x b 7 = some (b + 8) := hb.2 7 (by omega)
  refine xq_wp.go (k := 1) (x' := x) (pc' := 1) (L' := [.ref a, .ref b]) (st' := [.ref b]) (fun F => rfl) ?_
  refine xq_wp.gfR (sz := 15) (r := (b + 1)) rfl nb0 kb0 (by decide) rfl rb0 ?_
  refine xq_wp.go (k := 2) (x' := x) (pc' := 6) (L' := [.ref a, .ref b]) (st' := [.ref a, .int (nI 0), .ref (b + 1)]) (fun F => rfl) ?_
  refine xq_wp.gfR (sz := 15) (r := (a + 1)) rfl na0 ka0 (by decide) rfl ra0 ?_
  refine xq_wp.go (k := 2) (x' := x) (pc' := 12) (L' := [.ref a, .ref b]) (st' := [.int (nI 12), .int (nI 0), .ref (a + 1), .int (nI 0), .ref (b + 1)]) (fun F => rfl) ?_
  refine xq_wp.cpy (zd := 12) (zs := 12) rfl na1 nb1 ka1 kb1 (by decide) (by decide) (by decide) rfl (by omega) (fun I1 p1 v1 => ?_)
  (try dsimp only at p1); (try dsimp only at v1)
  refine xq_wp.go (k := 1) (x' := (x.1, x.2.1, I1)) (pc' := 16) (L' := [.ref a, .ref b]) (st' := [.ref b]) (fun F => rfl) ?_
  refine xq_wp.gfR (sz := 15) (r := (b + 2)) rfl nb0 kb0 (by decide) rfl rb1 ?_
  refine xq_wp.go (k := 2) (x' := (x.1, x.2.1, I1)) (pc' := 21) (L' := [.ref a, .ref b]) (st' := [.ref a, .int (nI 0), .ref (b + 2)]) (fun F => rfl) ?_
  refine xq_wp.gfR (sz := 15) (r := (a + 2)) rfl na0 ka0 (by decide) rfl ra1 ?_
  refine xq_wp.go (k := 2) (x' := (x.1, x.2.1, I1)) (pc' := 26) (L' := [.ref a, .ref b]) (st' := [.int (nI 4), .int (nI 0), .ref (a + 2), .int (nI 0), .ref (b + 2)]) (fun F => rfl) ?_
  refine xq_wp.cpy (zd := 4) (zs := 4) rfl na2 nb2 ka2 kb2 (by decide) (by decide) (by decide) rfl (by omega) (fun I2 p2 v2 => ?_)
  (try dsimp only at p2); (try dsimp only at v2)
  refine xq_wp.go (k := 1) (x' := (x.1, x.2.1, I2)) (pc' := 30) (L' := [.ref a, .ref b]) (st' := [.ref b]) (fun F => rfl) ?_
  refine xq_wp.gfR (sz := 15) (r := (b + 3)) rfl nb0 kb0 (by decide) rfl rb2 ?_
  refine xq_wp.go (k := 2) (x' := (x.1, x.2.1, I2)) (pc' := 35) (L' := [.ref a, .ref b]) (st' := [.ref a, .int (nI 0), .ref (b + 3)]) (fun F => rfl) ?_
  refine xq_wp.gfR (sz := 15) (r := (a + 3)) rfl na0 ka0 (by decide) rfl ra2 ?_
  refine xq_wp.go (k := 2) (x' := (x.1, x.2.1, I2)) (pc' := 41) (L' := [.ref a, .ref b]) (st' := [.int (nI 14), .int (nI 0), .ref (a + 3), .int (nI 0), .ref (b + 3)]) (fun F => rfl) ?_
  refine xq_wp.cpy (zd := 14) (zs := 14) rfl na3 nb3 ka3 kb3 (by decide) (by decide) (by decide) rfl (by omega) (fun I3 p3 v3 => ?_)
  (try dsimp only at p3); (try dsimp only at v3)
  refine xq_wp.go (k := 1) (x' := (x.1, x.2.1, I3)) (pc' := 45) (L' := [.ref a, .ref b]) (st' := [.ref b]) (fun F => rfl) ?_
  refine xq_wp.gfR (sz := 15) (r := (b + 4)) rfl nb0 kb0 (by decide) rfl rb3 ?_
  refine xq_wp.go (k := 2) (x' := (x.1, x.2.1, I3)) (pc' := 50) (L' := [.ref a, .ref b]) (st' := [.ref a, .int (nI 0), .ref (b + 4)]) (fun F => rfl) ?_
  refine xq_wp.gfR (sz := 15) (r := (a + 4)) rfl na0 ka0 (by decide) rfl ra3 ?_
  refine xq_wp.go (k := 2) (x' := (x.1, x.2.1, I3)) (pc' := 56) (L' := [.ref a, .ref b]) (st' := [.int (nI 14), .int (nI 0), .ref (a + 4), .int (nI 0), .ref (b + 4)]) (fun F => rfl) ?_
  refine xq_wp.cpy (zd := 14) (zs := 14) rfl na4 nb4 ka4 kb4 (by decide) (by decide) (by decide) rfl (by omega) (fun I4 p4 v4 => ?_)
  (try dsimp only at p4); (try dsimp only at v4)
  refine xq_wp.go (k := 1) (x' := (x.1, x.2.1, I4)) (pc' := 60) (L' := [.ref a, .ref b]) (st' := [.ref b]) (fun F => rfl) ?_
  refine xq_wp.gfR (sz := 15) (r := (b + 5)) rfl nb0 kb0 (by decide) rfl rb4 ?_
  refine xq_wp.go (k := 2) (x' := (x.1, x.2.1, I4)) (pc' := 65) (L' := [.ref a, .ref b]) (st' := [.ref a, .int (nI 0), .ref (b + 5)]) (fun F => rfl) ?_
  refine xq_wp.gfR (sz := 15) (r := (a + 5)) rfl na0 ka0 (by decide) rfl ra4 ?_
  refine xq_wp.go (k := 2) (x' := (x.1, x.2.1, I4)) (pc' := 71) (L' := [.ref a, .ref b]) (st' := [.int (nI 14), .int (nI 0), .ref (a + 5), .int (nI 0), .ref (b + 5)]) (fun F => rfl) ?_
  refine xq_wp.cpy (zd := 14) (zs := 14) rfl na5 nb5 ka5 kb5 (by decide) (by decide) (by decide) rfl (by omega) (fun I5 p5 v5 => ?_)
  (try dsimp only at p5); (try dsimp only at v5)
  refine xq_wp.go (k := 1) (x' := (x.1, x.2.1, I5)) (pc' := 75) (L' := [.ref a, .ref b]) (st' := [.ref b]) (fun F => rfl) ?_
  refine xq_wp.gfR (sz := 15) (r := (b + 6)) rfl nb0 kb0 (by decide) rfl rb5 ?_
  refine xq_wp.go (k := 2) (x' := (x.1, x.2.1, I5)) (pc' := 80) (L' := [.ref a, .ref b]) (st' := [.ref a, .int (nI 0), .ref (b + 6)]) (fun F => rfl) ?_
  refine xq_wp.gfR (sz := 15) (r := (a + 6)) rfl na0 ka0 (by decide) rfl ra5 ?_
  refine xq_wp.go (k := 2) (x' := (x.1, x.2.1, I5)) (pc' := 86) (L' := [.ref a, .ref b]) (st' := [.int (nI 14), .int (nI 0), .ref (a + 6), .int (nI 0), .ref (b + 6)]) (fun F => rfl) ?_
  refine xq_wp.cpy (zd := 14) (zs := 14) rfl na6 nb6 ka6 kb6 (by decide) (by decide) (by decide) rfl (by omega) (fun I6 p6 v6 => ?_)
  (try dsimp only at p6); (try dsimp only at v6)
  refine xq_wp.go (k := 1) (x' := (x.1, x.2.1, I6)) (pc' := 90) (L' := [.ref a, .ref b]) (st' := [.ref b]) (fun F => rfl) ?_
  refine xq_wp.gfR (sz := 15) (r := (b + 7)) rfl nb0 kb0 (by decide) rfl rb6 ?_
  refine xq_wp.go (k := 2) (x' := (x.1, x.2.1, I6)) (pc' := 95) (L' := [.ref a, .ref b]) (st' := [.ref a, .int (nI 0), .ref (b + 7)]) (fun F => rfl) ?_
  refine xq_wp.gfR (sz := 15) (r := (a + 7)) rfl na0 ka0 (by decide) rfl ra6 ?_
  refine xq_wp.go (k := 2) (x' := (x.1, x.2.1, I6)) (pc' := 101) (L' := [.ref a, .ref b]) (st' := [.int (nI 14), .int (nI 0), .ref (a + 7), .int (nI 0), .ref (b + 7)]) (fun F => rfl) ?_
  refine xq_wp.cpy (zd := 14) (zs := 14) rfl na7 nb7 ka7 kb7 (by decide) (by decide) (by decide) rfl (by omega) (fun I7 p7 v7 => ?_)
  (try dsimp only at p7); (try dsimp only at v7)
  refine xq_wp.go (k := 1) (x' := (x.1, x.2.1, I7)) (pc' := 105) (L' := [.ref a, .ref b]) (st' := [.ref b]) (fun F => rfl) ?_
  refine xq_wp.gfR (sz := 15) (r := (b + 8)) rfl nb0 kb0 (by decide) rfl rb7 ?_
  refine xq_wp.go (k := 2) (x' := (x.1, x.2.1, I7)) (pc' := 110) (L' := [.ref a, .ref b]) (st' := [.ref a, .int (nI 0), .ref (b + 8)]) (fun F => rfl) ?_
  refine xq_wp.gfR (sz := 15) (r := (a + 8)) rfl na0 ka0 (by decide) rfl ra7 ?_
  refine xq_wp.go (k := 2) (x' := (x.1, x.2.1, I7)) (pc' := 116) (L' := [.ref a, .ref b]) (st' := [.int (nI 70), .int (nI 0), .ref (a + 8), .int (nI 0), .ref (b + 8)]) (fun F => rfl) ?_
  refine xq_wp.cpy (zd := 70) (zs := 70) rfl na8 nb8 ka8 kb8 (by decide) (by decide) (by decide) rfl (by omega) (fun I8 p8 v8 => ?_)
  (try dsimp only at p8); (try dsimp only at v8)
  refine xq_wp.go (k := 2) (x' := (x.1, x.2.1, I8)) (pc' := 121) (L' := [.ref a, .ref b]) (st' := [.ref b, .ref a]) (fun F => rfl) ?_
  refine xq_wp.gfI (sz := 15) rfl nb0 kb0 (by decide) rfl ?_
  refine xq_wp.pfI (sz := 15) rfl na0 ka0 (by decide) rfl (fun I9 p9 q9 v9 => ?_)
  (try dsimp only at p9); (try dsimp only at q9); (try dsimp only at v9)
  refine xq_wp.go (k := 2) (x' := (x.1, x.2.1, I9)) (pc' := 129) (L' := [.ref a, .ref b]) (st' := [.ref b, .ref a]) (fun F => rfl) ?_
  refine xq_wp.gfI (sz := 15) rfl nb0 kb0 (by decide) rfl ?_
  refine xq_wp.pfI (sz := 15) rfl na0 ka0 (by decide) rfl (fun I10 p10 q10 v10 => ?_)
  (try dsimp only at p10); (try dsimp only at q10); (try dsimp only at v10)
  refine xq_wp.go (k := 2) (x' := (x.1, x.2.1, I10)) (pc' := 137) (L' := [.ref a, .ref b]) (st' := [.ref b, .ref a]) (fun F => rfl) ?_
  refine xq_wp.gfI (sz := 15) rfl nb0 kb0 (by decide) rfl ?_
  refine xq_wp.pfI (sz := 15) rfl na0 ka0 (by decide) rfl (fun I11 p11 q11 v11 => ?_)
  (try dsimp only at p11); (try dsimp only at q11); (try dsimp only at v11)
  refine xq_wp.go (k := 2) (x' := (x.1, x.2.1, I11)) (pc' := 145) (L' := [.ref a, .ref b]) (st' := [.ref b, .ref a]) (fun F => rfl) ?_
  refine xq_wp.gfI (sz := 15) rfl nb0 kb0 (by decide) rfl ?_
  refine xq_wp.pfI (sz := 15) rfl na0 ka0 (by decide) rfl (fun I12 p12 q12 v12 => ?_)
  (try dsimp only at p12); (try dsimp only at q12); (try dsimp only at v12)
  refine xq_wp.go (k := 2) (x' := (x.1, x.2.1, I12)) (pc' := 153) (L' := [.ref a, .ref b]) (st' := [.ref b, .ref a]) (fun F => rfl) ?_
  refine xq_wp.gfI (sz := 15) rfl nb0 kb0 (by decide) rfl ?_
  refine xq_wp.pfI (sz := 15) rfl na0 ka0 (by decide) rfl (fun I13 p13 q13 v13 => ?_)
  (try dsimp only at p13); (try dsimp only at q13); (try dsimp only at v13)
  refine xq_wp.go (k := 2) (x' := (x.1, x.2.1, I13)) (pc' := 161) (L' := [.ref a, .ref b]) (st' := [.ref b, .ref a]) (fun F => rfl) ?_
  refine xq_wp.gfI (sz := 15) rfl nb0 kb0 (by decide) rfl ?_
  refine xq_wp.pfI (sz := 15) rfl na0 ka0 (by decide) rfl (fun I14 p14 q14 v14 => ?_)
  (try dsimp only at p14); (try dsimp only at q14); (try dsimp only at v14)
  refine xq_wp.go (k := 2) (x' := (x.1, x.2.1, I14)) (pc' := 169) (L' := [.ref a, .ref b]) (st' := [.ref b, .ref a]) (fun F => rfl) ?_
  refine xq_wp.gfI (sz := 15) rfl nb0 kb0 (by decide) rfl ?_
  refine xq_wp.pfI (sz := 15) rfl na0 ka0 (by decide) rfl (fun I15 p15 q15 v15 => ?_)
  (try dsimp only at p15); (try dsimp only at q15); (try dsimp only at v15)
  refine xq_wp.ret (k := 1) (v := none) (x1 := (x.1, x.2.1, I15)) (fun F => rfl) (hp _ ?_ ?_ ?_ ?_ ?_ ?_ ?_ ?_ ?_ ?_ ?_ ?_ ?_ ?_ ?_ ?_)
  · intro t ht; rw [p15 _ (by omega), p14 _ (by omega), p13 _ (by omega), p12 _ (by omega), p11 _ (by omega), p10 _ (by omega), p9 _ (by omega), p8 _ (by omega), p7 _ (by omega), p6 _ (by omega), p5 _ (by omega), p4 _ (by omega), p3 _ (by omega), p2 _ (by omega), p1 _ (by omega)]
  · rw [q15 _ (by omega), q14 _ (by omega), q13 _ (by omega), q12 _ (by omega), q11 _ (by omega), q10 _ (by omega), v9, p8 _ (by omega), p7 _ (by omega), p6 _ (by omega), p5 _ (by omega), p4 _ (by omega), p3 _ (by omega), p2 _ (by omega), p1 _ (by omega)]
  · rw [q15 _ (by omega), q14 _ (by omega), q13 _ (by omega), q12 _ (by omega), q11 _ (by omega), v10, p9 _ (by omega), p8 _ (by omega), p7 _ (by omega), p6 _ (by omega), p5 _ (by omega), p4 _ (by omega), p3 _ (by omega), p2 _ (by omega), p1 _ (by omega)]
  · rw [q15 _ (by omega), q14 _ (by omega), q13 _ (by omega), q12 _ (by omega), v11, p10 _ (by omega), p9 _ (by omega), p8 _ (by omega), p7 _ (by omega), p6 _ (by omega), p5 _ (by omega), p4 _ (by omega), p3 _ (by omega), p2 _ (by omega), p1 _ (by omega)]
  · rw [q15 _ (by omega), q14 _ (by omega), q13 _ (by omega), v12, p11 _ (by omega), p10 _ (by omega), p9 _ (by omega), p8 _ (by omega), p7 _ (by omega), p6 _ (by omega), p5 _ (by omega), p4 _ (by omega), p3 _ (by omega), p2 _ (by omega), p1 _ (by omega)]
  · rw [q15 _ (by omega), q14 _ (by omega), v13, p12 _ (by omega), p11 _ (by omega), p10 _ (by omega), p9 _ (by omega), p8 _ (by omega), p7 _ (by omega), p6 _ (by omega), p5 _ (by omega), p4 _ (by omega), p3 _ (by omega), p2 _ (by omega), p1 _ (by omega)]
  · rw [q15 _ (by omega), v14, p13 _ (by omega), p12 _ (by omega), p11 _ (by omega), p10 _ (by omega), p9 _ (by omega), p8 _ (by omega), p7 _ (by omega), p6 _ (by omega), p5 _ (by omega), p4 _ (by omega), p3 _ (by omega), p2 _ (by omega), p1 _ (by omega)]
  · rw [v15, p14 _ (by omega), p13 _ (by omega), p12 _ (by omega), p11 _ (by omega), p10 _ (by omega), p9 _ (by omega), p8 _ (by omega), p7 _ (by omega), p6 _ (by omega), p5 _ (by omega), p4 _ (by omega), p3 _ (by omega), p2 _ (by omega), p1 _ (by omega)]
  · intro j hj; rw [p15 _ (by omega), p14 _ (by omega), p13 _ (by omega), p12 _ (by omega), p11 _ (by omega), p10 _ (by omega), p9 _ (by omega), p8 _ (by omega), p7 _ (by omega), p6 _ (by omega), p5 _ (by omega), p4 _ (by omega), p3 _ (by omega), p2 _ (by omega), v1 j hj]
  · intro j hj; rw [p15 _ (by omega), p14 _ (by omega), p13 _ (by omega), p12 _ (by omega), p11 _ (by omega), p10 _ (by omega), p9 _ (by omega), p8 _ (by omega), p7 _ (by omega), p6 _ (by omega), p5 _ (by omega), p4 _ (by omega), p3 _ (by omega), v2 j hj, p1 _ (by omega)]
  · intro j hj; rw [p15 _ (by omega), p14 _ (by omega), p13 _ (by omega), p12 _ (by omega), p11 _ (by omega), p10 _ (by omega), p9 _ (by omega), p8 _ (by omega), p7 _ (by omega), p6 _ (by omega), p5 _ (by omega), p4 _ (by omega), v3 j hj, p2 _ (by omega), p1 _ (by omega)]
  · intro j hj; rw [p15 _ (by omega), p14 _ (by omega), p13 _ (by omega), p12 _ (by omega), p11 _ (by omega), p10 _ (by omega), p9 _ (by omega), p8 _ (by omega), p7 _ (by omega), p6 _ (by omega), p5 _ (by omega), v4 j hj, p3 _ (by omega), p2 _ (by omega), p1 _ (by omega)]
  · intro j hj; rw [p15 _ (by omega), p14 _ (by omega), p13 _ (by omega), p12 _ (by omega), p11 _ (by omega), p10 _ (by omega), p9 _ (by omega), p8 _ (by omega), p7 _ (by omega), p6 _ (by omega), v5 j hj, p4 _ (by omega), p3 _ (by omega), p2 _ (by omega), p1 _ (by omega)]
  · intro j hj; rw [p15 _ (by omega), p14 _ (by omega), p13 _ (by omega), p12 _ (by omega), p11 _ (by omega), p10 _ (by omega), p9 _ (by omega), p8 _ (by omega), p7 _ (by omega), v6 j hj, p5 _ (by omega), p4 _ (by omega), p3 _ (by omega), p2 _ (by omega), p1 _ (by omega)]
  · intro j hj; rw [p15 _ (by omega), p14 _ (by omega), p13 _ (by omega), p12 _ (by omega), p11 _ (by omega), p10 _ (by omega), p9 _ (by omega), p8 _ (by omega), v7 j hj, p6 _ (by omega), p5 _ (by omega), p4 _ (by omega), p3 _ (by omega), p2 _ (by omega), p1 _ (by omega)]
  · intro j hj; rw [p15 _ (by omega), p14 _ (by omega), p13 _ (by omega), p12 _ (by omega), p11 _ (by omega), p10 _ (by omega), p9 _ (by omega), v8 j hj, p7 _ (by omega), p6 _ (by omega), p5 _ (by omega), p4 _ (by omega), p3 _ (by omega), p2 _ (by omega), p1 _ (by omega)]
theorem cp_32 (ha : shG x a) (hb : shG x b) (hab : a + 6 < b ∨ b + 6 < a) (hp : ∀ I' : Nat → xw, (∀ t, t < a ∨ a + 6 < t → I' t = x.2.2 t) → I' a 0 = x.2.2 b 0 → I' a 5 = x.2.2 b 5 → (∀ j, j < 14 → I' (a + 1) j = x.2.2 (b + 1) j) → (∀ j, j < 14 → I' (a + 2) j = x.2.2 (b + 2) j) → (∀ j, j < 14 → I' (a + 3) j = x.2.2 (b + 3) j) → (∀ j, j < 14 → I' (a + 4) j = x.2.2 (b + 4) j) → (∀ j, j < 8 → I' (a + 5) j = x.2.2 (b + 5) j) → (∀ j, j < 8 → I' (a + 6) j = x.2.2 (b + 6) j) → Q none (x.1, x.2.1, I')) : xq_wp d 32 x 0 [.ref a, .ref b] [] Q := by
  have na0 : a < xq_N x := (ha.1 0 (by omega)).1
  have ka0 : xq_K x a = (1, 8) := (ha.1 0 (by omega)).2
  have na1 : (a + 1) < xq_N x := (ha.1 1 (by omega)).1
  have ka1 : xq_K x (a + 1) = (100, 14) := (ha.1 1 (by omega)).2
  have na2 : (a + 2) < xq_N x := (ha.1 2 (by omega)).1
  have ka2 : xq_K x (a + 2) = (100, 14) := (ha.1 2 (by omega)).2
  have na3 : (a + 3) < xq_N x := (ha.1 3 (by omega)).1
  have ka3 : xq_K x (a + 3) = (100, 14) := (ha.1 3 (by omega)).2
  have na4 : (a + 4) < xq_N x := (ha.1 4 (by omega)).1
  have ka4 : xq_K x (a + 4) = (100, 14) := (ha.1 4 (by omega)).2
  have na5 : (a + 5) < xq_N x := (ha.1 5 (by omega)).1
  have ka5 : xq_K x (a + 5) = (100, 8) := (ha.1 5 (by omega)).2
  have na6 : (a + 6) < xq_N x := (ha.1 6 (by omega)).1
  have ka6 : xq_K x (a + 6) = (100, 8) := (ha.1 6 (by omega)).2
  have ra1 : xq_R x a 1 = some (a + 1) := ha.2.1
  have ra2 : xq_R x a 2 = some (a + 2) := ha.2.2.1
  have ra3 : xq_R x a 3 = some (a + 3) := ha.2.2.2.1
  have ra4 : xq_R x a 4 = some (a + 4) := ha.2.2.2.2.1
  have ra6 : xq_R x a 6 = some (a + 5) := ha.2.2.2.2.2.1
  have ra7 : xq_R x a 7 = some (a + 6) := ha.2.2.2.2.2.2
  have nb0 : b < xq_N x := (hb.1 0 (by omega)).1
  have kb0 : xq_K x b = (1, 8) := (hb.1 0 (by omega)).2
  have nb1 : (b + 1) < xq_N x := (hb.1 1 (by omega)).1
  have kb1 : xq_K x (b + 1) = (100, 14) := (hb.1 1 (by omega)).2
  have nb2 : (b + 2) < xq_N x := (hb.1 2 (by omega)).1
  have kb2 : xq_K x (b + 2) = (100, 14) := (hb.1 2 (by omega)).2
  have nb3 : (b + 3) < xq_N x := (hb.1 3 (by omega)).1
  have kb3 : xq_K x (b + 3) = (100, 14) := (hb.1 3 (by omega)).2
  have nb4 : (b + 4) < xq_N x := (hb.1 4 (by omega)).1
  have kb4 : xq_K x (b + 4) = (100, 14) := (hb.1 4 (by omega)).2
  have nb5 : (b + 5) < xq_N x := (hb.1 5 (by omega)).1
  have kb5 : xq_K x (b + 5) = (100, 8) := (hb.1 5 (by omega)).2
  have nb6 : (b + 6) < xq_N x := (hb.1 6 (by omega)).1
  have kb6 : xq_K x (b + 6) = (100, 8) := (hb.1 6 (by omega)).2
  have rb1 : xq_R x b 1 = some (b + 1) := hb.2.1
  have rb2 : xq_R x b 2 = some (b + 2) := hb.2.2.1
  have rb3 : xq_R x b 3 = some (b + 3) := hb.2.2.2.1
  have rb4 : xq_R x b 4 = some (b + 4) := hb.2.2.2.2.1
  have rb6 : xq_R x b 6 = some (b + 5) := hb.2.2.2.2.2.1
  have rb7 : xq_R x b 7 = some (b + 6) := hb.2.2.2.2.2.2
  refine xq_wp.go (k := 2) (x' := x) (pc' := 2) (L' := [.ref a, .ref b]) (st' := [.ref b, .ref a]) (fun F => rfl) ?_
  refine xq_wp.gfI (sz := 8) rfl nb0 kb0 (by decide) rfl ?_
  refine xq_wp.pfI (sz := 8) rfl na0 ka0 (by decide) rfl (fun I1 p1 q1 v1 => ?_)
  (try dsimp only at p1); (try dsimp only at q1); (try dsimp only at v1)
  refine xq_wp.go (k := 1) (x' := (x.1, x.2.1, I1)) (pc' := 9) (L' := [.ref a, .ref b]) (st' := [.ref b]) (fun F => rfl) ?_
  refine xq_wp.gfR (sz := 8) (r := (b + 1)) rfl nb0 kb0 (by decide) rfl rb1 ?_
  refine xq_wp.go (k := 2) (x' := (x.1, x.2.1, I1)) (pc' := 14) (L' := [.ref a, .ref b]) (st' := [.ref a, .int (nI 0), .ref (b + 1)]) (fun F => rfl) ?_
  refine xq_wp.gfR (sz := 8) (r := (a + 1)) rfl na0 ka0 (by decide) rfl ra1 ?_
  refine xq_wp.go (k := 2) (x' := (x.1, x.2.1, I1)) (pc' := 20) (L' := [.ref a, .ref b]) (st' := [.int (nI 14), .int (nI 0), .ref (a + 1), .int (nI 0), .ref (b + 1)]) (fun F => rfl) ?_
  refine xq_wp.cpy (zd := 14) (zs := 14) rfl na1 nb1 ka1 kb1 (by decide) (by decide) (by decide) rfl (by omega) (fun I2 p2 v2 => ?_)
  (try dsimp only at p2); (try dsimp only at v2)
  refine xq_wp.go (k := 1) (x' := (x.1, x.2.1, I2)) (pc' := 24) (L' := [.ref a, .ref b]) (st' := [.ref b]) (fun F => rfl) ?_
  refine xq_wp.gfR (sz := 8) (r := (b + 2)) rfl nb0 kb0 (by decide) rfl rb2 ?_
  refine xq_wp.go (k := 2) (x' := (x.1, x.2.1, I2)) (pc' := 29) (L' := [.ref a, .ref b]) (st' := [.ref a, .int (nI 0), .ref (b + 2)]) (fun F => rfl) ?_
  refine xq_wp.gfR (sz := 8) (r := (a + 2)) rfl na0 ka0 (by decide) rfl ra2 ?_
  refine xq_wp.go (k := 2) (x' := (x.1, x.2.1, I2)) (pc' := 35) (L' := [.ref a, .ref b]) (st' := [.int (nI 14), .int (nI 0), .ref (a + 2), .int (nI 0), .ref (b + 2)]) (fun F => rfl) ?_
  refine xq_wp.cpy (zd := 14) (zs := 14) rfl na2 nb2 ka2 kb2 (by decide) (by decide) (by decide) rfl (by omega) (fun I3 p3 v3 => ?_)
  (try dsimp only at p3); (try dsimp only at v3)
  refine xq_wp.go (k := 1) (x' := (x.1, x.2.1, I3)) (pc' := 39) (L' := [.ref a, .ref b]) (st' := [.ref b]) (fun F => rfl) ?_
  refine xq_wp.gfR (sz := 8) (r := (b + 3)) rfl nb0 kb0 (by decide) rfl rb3 ?_
  refine xq_wp.go (k := 2) (x' := (x.1, x.2.1, I3)) (pc' := 44) (L' := [.ref a, .ref b]) (st' := [.ref a, .int (nI 0), .ref (b + 3)]) (fun F => rfl) ?_
  refine xq_wp.gfR (sz := 8) (r := (a + 3)) rfl na0 ka0 (by decide) rfl ra3 ?_
  refine xq_wp.go (k := 2) (x' := (x.1, x.2.1, I3)) (pc' := 50) (L' := [.ref a, .ref b]) (st' := [.int (nI 14), .int (nI 0), .ref (a + 3), .int (nI 0), .ref (b + 3)]) (fun F => rfl) ?_
  refine xq_wp.cpy (zd := 14) (zs := 14) rfl na3 nb3 ka3 kb3 (by decide) (by decide) (by decide) rfl (by omega) (fun I4 p4 v4 => ?_)
  (try dsimp only at p4); (try dsimp only at v4)
  refine xq_wp.go (k := 1) (x' := (x.1, x.2.1, I4)) (pc' := 54) (L' := [.ref a, .ref b]) (st' := [.ref b]) (fun F => rfl) ?_
  refine xq_wp.gfR (sz := 8) (r := (b + 4)) rfl nb0 kb0 (by decide) rfl rb4 ?_
  refine xq_wp.go (k := 2) (x' := (x.1, x.2.1, I4)) (pc' := 59) (L' := [.ref a, .ref b]) (st' := [.ref a, .int (nI 0), .ref (b + 4)]) (fun F => rfl) ?_
  refine xq_wp.gfR (sz := 8) (r := (a + 4)) rfl na0 ka0 (by decide) rfl ra4 ?_
  refine xq_wp.go (k := 2) (x' := (x.1, x.2.1, I4)) (pc' := 65) (L' := [.ref a, .ref b]) (st' := [.int (nI 14), .int (nI 0), .ref (a + 4), .int (nI 0), .ref (b + 4)]) (fun F => rfl) ?_
  refine xq_wp.cpy (zd := 14) (zs := 14) rfl na4 nb4 ka4 kb4 (by decide) (by decide) (by decide) rfl (by omega) (fun I5 p5 v5 => ?_)
  (try dsimp only at p5); (try dsimp only at v5)
  refine xq_wp.go (k := 2) (x' := (x.1, x.2.1, I5)) (pc' := 70) (L' := [.ref a, .ref b]) (st' := [.ref b, .ref a]) (fun F => rfl) ?_
  refine xq_wp.gfI (sz := 8) rfl nb0 kb0 (by decide) rfl ?_
  refine xq_wp.pfI (sz := 8) rfl na0 ka0 (by decide) rfl (fun I6 p6 q6 v6 => ?_)
  (try dsimp only at p6); (try dsimp only at q6); (try dsimp only at v6)
  refine xq_wp.go (k := 1) (x' := (x.1, x.2.1, I6)) (pc' := 77) (L' := [.ref a, .ref b]) (st' := [.ref b]) (fun F => rfl) ?_
  refine xq_wp.gfR (sz := 8) (r := (b + 5)) rfl nb0 kb0 (by decide) rfl rb6 ?_
  refine xq_wp.go (k := 2) (x' := (x.1, x.2.1, I6)) (pc' := 82) (L' := [.ref a, .ref b]) (st' := [.ref a, .int (nI 0), .ref (b + 5)]) (fun F => rfl) ?_
  refine xq_wp.gfR (sz := 8) (r := (a + 5)) rfl na0 ka0 (by decide) rfl ra6 ?_
  refine xq_wp.go (k := 2) (x' := (x.1, x.2.1, I6)) (pc' := 88) (L' := [.ref a, .ref b]) (st' := [.int (nI 8), .int (nI 0), .ref (a + 5), .int (nI 0), .ref (b + 5)]) (fun F => rfl) ?_
  refine xq_wp.cpy (zd := 8) (zs := 8) rfl na5 nb5 ka5 kb5 (by decide) (by decide) (by decide) rfl (by omega) (fun I7 p7 v7 => ?_)
  (try dsimp only at p7); (try dsimp only at v7)
  refine xq_wp.go (k := 1) (x' := (x.1, x.2.1, I7)) (pc' := 92) (L' := [.ref a, .ref b]) (st' := [.ref b]) (fun F => rfl) ?_
  refine xq_wp.gfR (sz := 8) (r := (b + 6)) rfl nb0 kb0 (by decide) rfl rb7 ?_
  refine xq_wp.go (k := 2) (x' := (x.1, x.2.1, I7)) (pc' := 97) (L' := [.ref a, .ref b]) (st' := [.ref a, .int (nI 0), .ref (b + 6)]) (fun F => rfl) ?_
  refine xq_wp.gfR (sz := 8) (r := (a + 6)) rfl na0 ka0 (by decide) rfl ra7 ?_
  refine xq_wp.go (k := 2) (x' := (x.1, x.2.1, I7)) (pc' := 103) (L' := [.ref a, .ref b]) (st' := [.int (nI 8), .int (nI 0), .ref (a + 6), .int (nI 0), .ref (b + 6)]) (fun F => rfl) ?_
  refine xq_wp.cpy (zd := 8) (zs := 8) rfl na6 nb6 ka6 kb6 (by decide) (by decide) (by decide) rfl (by omega) (fun I8 p8 v8 => ?_)
  (try dsimp only at p8); (try dsimp only at v8)
  refine xq_wp.ret (k := 1) (v := none) (x1 := (x.1, x.2.1, I8)) (fun F => rfl) (hp _ ?_ ?_ ?_ ?_ ?_ ?_ ?_ ?_ ?_)
  · intro t ht; rw [p8 _ (by omega), p7 _ (by omega), p6 _ (by omega), p5 _ (by omega), p4 _ (by omega), p3 _ (by omega), p2 _ (by omega), p1 _ (by omega)]
  · rw [p8 _ (by omega), p7 _ (by omega), q6 _ (by omega), p5 _ (by omega), p4 _ (by omega), p3 _ (by omega), p2 _ (by omega), v1]
  · rw [p8 _ (by omega), p7 _ (by omega), v6, p5 _ (by omega), p4 _ (by omega), p3 _ (by omega), p2 _ (by omega), p1 _ (by omega)]
  · intro j hj; rw [p8 _ (by omega), p7 _ (by omega), p6 _ (by omega), p5 _ (by omega), p4 _ (by omega), p3 _ (by omega), v2 j hj, p1 _ (by omega)]
  · intro j hj; rw [p8 _ (by omega), p7 _ (by omega), p6 _ (by omega), p5 _ (by omega), p4 _ (by omega), v3 j hj, p2 _ (by omega), p1 _ (by omega)]
  · intro j hj; rw [p8 _ (by omega), p7 _ (by omega), p6 _ (by omega), p5 _ (by omega), v4 j hj, p3 _ (by omega), p2 _ (by omega), p1 _ (by omega)]
  · intro j hj; rw [p8 _ (by omega), p7 _ (by omega), p6 _ (by omega), v5 j hj, p4 _ (by omega), p3 _ (by omega), p2 _ (by omega), p1 _ (by omega)]
  · intro j hj; rw [p8 _ (by omega), v7 j hj, p6 _ (by omega), p5 _ (by omega), p4 _ (by omega), p3 _ (by omega), p2 _ (by omega), p1 _ (by omega)]
  · intro j hj; rw [v8 j hj, p7 _ (by omega), p6 _ (by omega), p5 _ (by omega), p4 _ (by omega), p3 _ (by omega), p2 _ (by omega), p1 _ (by omega)]
theorem cp_58 (ha : shL x a) (hb : shL x b) (hab : a + 4 < b ∨ b + 4 < a) (hp : ∀ I' : Nat → xw, (∀ t, t < a ∨ a + 4 < t → I' t = x.2.2 t) → I' (a + 3) = x.2.2 (a + 3) → I' (a + 4) = x.2.2 (a + 4) → I' a 0 = x.2.2 b 0 → I' a 1 = x.2.2 b 1 → (∀ j, j < 400 → I' (a + 1) j = x.2.2 (b + 1) j) → (∀ j, j < 16 → I' (a + 2) j = x.2.2 (b + 2) j) → Q none (x.1, x.2.1, I')) : xq_wp d 58 x 0 [.ref a, .ref b] [] Q := by
  have na0 : a < xq_N x := (ha.1 0 (by omega)).1
  have ka0 : xq_K x a = (2, 6) := (ha.1 0 (by omega)).2
  have na1 : (a + 1) < xq_N x := (ha.1 1 (by omega)).1
  have ka1 : xq_K x (a + 1) = (100, 400) := (ha.1 1 (by omega)).2
  have na2 : (a + 2) < xq_N x := (ha.1 2 (by omega)).1
  have ka2 : xq_K x (a + 2) = (100, 16) := (ha.1 2 (by omega)).2
  have na3 : (a + 3) < xq_N x := (ha.1 3 (by omega)).1
  have ka3 : xq_K x (a + 3) = (100, 40) := (ha.1 3 (by omega)).2
  have na4 : (a + 4) < xq_N x := (ha.1 4 (by omega)).1
  have ka4 : xq_K x (a + 4) = (100, 8) := (ha.1 4 (by omega)).2
  have ra2 : xq_R x a 2 = some (a + 1) := ha.2.1
  have ra3 : xq_R x a 3 = some (a + 2) := ha.2.2
  have nb0 : b < xq_N x := (hb.1 0 (by omega)).1
  have kb0 : xq_K x b = (2, 6) := (hb.1 0 (by omega)).2
  have nb1 : (b + 1) < xq_N x := (hb.1 1 (by omega)).1
  have kb1 : xq_K x (b + 1) = (100, 400) := (hb.1 1 (by omega)).2
  have nb2 : (b + 2) < xq_N x := (hb.1 2 (by omega)).1
  have kb2 : xq_K x (b + 2) = (100, 16) := (hb.1 2 (by omega)).2
  have nb3 : (b + 3) < xq_N x := (hb.1 3 (by omega)).1
  have kb3 : xq_K x (b + 3) = (100, 40) := (hb.1 3 (by omega)).2
  have nb4 : (b + 4) < xq_N x := (hb.1 4 (by omega)).1
  have kb4 : xq_K x (b + 4) = (100, 8) := (hb.1 4 (by omega)).2
  have rb2 : xq_R x b 2 = some (b + 1) := hb.2.1
  have rb3 : xq_R x b 3 = some (b + 2) := hb.2.2
  refine xq_wp.go (k := 2) (x' := x) (pc' := 2) (L' := [.ref a, .ref b]) (st' := [.ref b, .ref a]) (fun F => rfl) ?_
  refine xq_wp.gfI (sz := 6) rfl nb0 kb0 (by decide) rfl ?_
  refine xq_wp.pfI (sz := 6) rfl na0 ka0 (by decide) rfl (fun I1 p1 q1 v1 => ?_)
  (try dsimp only at p1); (try dsimp only at q1); (try dsimp only at v1)
  refine xq_wp.go (k := 2) (x' := (x.1, x.2.1, I1)) (pc' := 10) (L' := [.ref a, .ref b]) (st' := [.ref b, .ref a]) (fun F => rfl) ?_
  refine xq_wp.gfI (sz := 6) rfl nb0 kb0 (by decide) rfl ?_
  refine xq_wp.pfI (sz := 6) rfl na0 ka0 (by decide) rfl (fun I2 p2 q2 v2 => ?_)
  (try dsimp only at p2); (try dsimp only at q2); (try dsimp only at v2)
  refine xq_wp.go (k := 1) (x' := (x.1, x.2.1, I2)) (pc' := 17) (L' := [.ref a, .ref b]) (st' := [.ref b]) (fun F => rfl) ?_
  refine xq_wp.gfR (sz := 6) (r := (b + 1)) rfl nb0 kb0 (by decide) rfl rb2 ?_
  refine xq_wp.go (k := 2) (x' := (x.1, x.2.1, I2)) (pc' := 22) (L' := [.ref a, .ref b]) (st' := [.ref a, .int (nI 0), .ref (b + 1)]) (fun F => rfl) ?_
  refine xq_wp.gfR (sz := 6) (r := (a + 1)) rfl na0 ka0 (by decide) rfl ra2 ?_
  refine xq_wp.go (k := 2) (x' := (x.1, x.2.1, I2)) (pc' := 29) (L' := [.ref a, .ref b]) (st' := [.int (nI 400), .int (nI 0), .ref (a + 1), .int (nI 0), .ref (b + 1)]) (fun F => rfl) ?_
  refine xq_wp.cpy (zd := 400) (zs := 400) rfl na1 nb1 ka1 kb1 (by decide) (by decide) (by decide) rfl (by omega) (fun I3 p3 v3 => ?_)
  (try dsimp only at p3); (try dsimp only at v3)
  refine xq_wp.go (k := 1) (x' := (x.1, x.2.1, I3)) (pc' := 33) (L' := [.ref a, .ref b]) (st' := [.ref b]) (fun F => rfl) ?_
  refine xq_wp.gfR (sz := 6) (r := (b + 2)) rfl nb0 kb0 (by decide) rfl rb3 ?_
  refine xq_wp.go (k := 2) (x' := (x.1, x.2.1, I3)) (pc' := 38) (L' := [.ref a, .ref b]) (st' := [.ref a, .int (nI 0), .ref (b + 2)]) (fun F => rfl) ?_
  refine xq_wp.gfR (sz := 6) (r := (a + 2)) rfl na0 ka0 (by decide) rfl ra3 ?_
  refine xq_wp.go (k := 2) (x' := (x.1, x.2.1, I3)) (pc' := 44) (L' := [.ref a, .ref b]) (st' := [.int (nI 16), .int (nI 0), .ref (a + 2), .int (nI 0), .ref (b + 2)]) (fun F => rfl) ?_
  refine xq_wp.cpy (zd := 16) (zs := 16) rfl na2 nb2 ka2 kb2 (by decide) (by decide) (by decide) rfl (by omega) (fun I4 p4 v4 => ?_)
  (try dsimp only at p4); (try dsimp only at v4)
  refine xq_wp.ret (k := 1) (v := none) (x1 := (x.1, x.2.1, I4)) (fun F => rfl) (hp _ ?_ ?_ ?_ ?_ ?_ ?_ ?_)
  · intro t ht; rw [p4 _ (by omega), p3 _ (by omega), p2 _ (by omega), p1 _ (by omega)]
  · rw [p4 _ (by omega), p3 _ (by omega), p2 _ (by omega), p1 _ (by omega)]
  · rw [p4 _ (by omega), p3 _ (by omega), p2 _ (by omega), p1 _ (by omega)]
  · rw [p4 _ (by omega), p3 _ (by omega), q2 _ (by omega), v1]
  · rw [p4 _ (by omega), p3 _ (by omega), v2, p1 _ (by omega)]
  · intro j hj; rw [p4 _ (by omega), v3 j hj, p2 _ (by omega), p1 _ (by omega)]
  · intro j hj; rw [v4 j hj, p3 _ (by omega), p2 _ (by omega), p1 _ (by omega)]
theorem cp_66 (ha : shP x a) (hb : shP x b) (hab : a + 3 < b ∨ b + 3 < a) (hp : ∀ I' : Nat → xw, (∀ t, t < a ∨ a + 3 < t → I' t = x.2.2 t) → I' a 0 = x.2.2 b 0 → (∀ j, j < 100 → I' (a + 1) j = x.2.2 (b + 1) j) → (∀ j, j < 100 → I' (a + 2) j = x.2.2 (b + 2) j) → (∀ j, j < 100 → I' (a + 3) j = x.2.2 (b + 3) j) → Q none (x.1, x.2.1, I')) : xq_wp d 66 x 0 [.ref a, .ref b] [] Q := by
  have na0 : a < xq_N x := (ha.1 0 (by omega)).1
  have ka0 : xq_K x a = (4, 4) := (ha.1 0 (by omega)).2
  have na1 : (a + 1) < xq_N x := (ha.1 1 (by omega)).1
  have ka1 : xq_K x (a + 1) = (100, 100) := (ha.1 1 (by omega)).2
  have na2 : (a + 2) < xq_N x := (ha.1 2 (by omega)).1
  have ka2 : xq_K x (a + 2) = (100, 100) := (ha.1 2 (by omega)).2
  have na3 : (a + 3) < xq_N x := (ha.1 3 (by omega)).1
  have ka3 : xq_K x (a + 3) = (100, 100) := (ha.1 3 (by omega)).2
  have ra1 : xq_R x a 1 = some (a + 1) := ha.2.1
  have ra2 : xq_R x a 2 = some (a + 2) := ha.2.2.1
  have ra3 : xq_R x a 3 = some (a + 3) := ha.2.2.2
  have nb0 : b < xq_N x := (hb.1 0 (by omega)).1
  have kb0 : xq_K x b = (4, 4) := (hb.1 0 (by omega)).2
  have nb1 : (b + 1) < xq_N x := (hb.1 1 (by omega)).1
  have kb1 : xq_K x (b + 1) = (100, 100) := (hb.1 1 (by omega)).2
  have nb2 : (b + 2) < xq_N x := (hb.1 2 (by omega)).1
  have kb2 : xq_K x (b + 2) = (100, 100) := (hb.1 2 (by omega)).2
  have nb3 : (b + 3) < xq_N x := (hb.1 3 (by omega)).1
  have kb3 : xq_K x (b + 3) = (100, 100) := (hb.1 3 (by omega)).2
  have rb1 : xq_R x b 1 = some (b + 1) := hb.2.1
  have rb2 : xq_R x b 2 = some (b + 2) := hb.2.2.1
  have rb3 : xq_R x b 3 = some (b + 3) := hb.2.2.2
  refine xq_wp.go (k := 2) (x' := x) (pc' := 2) (L' := [.ref a, .ref b]) (st' := [.ref b, .ref a]) (fun F => rfl) ?_
  refine xq_wp.gfI (sz := 4) rfl nb0 kb0 (by decide) rfl ?_
  refine xq_wp.pfI (sz := 4) rfl na0 ka0 (by decide) rfl (fun I1 p1 q1 v1 => ?_)
  (try dsimp only at p1); (try dsimp only at q1); (try dsimp only at v1)
  refine xq_wp.go (k := 1) (x' := (x.1, x.2.1, I1)) (pc' := 9) (L' := [.ref a, .ref b]) (st' := [.ref b]) (fun F => rfl) ?_
  refine xq_wp.gfR (sz := 4) (r := (b + 1)) rfl nb0 kb0 (by decide) rfl rb1 ?_
  refine xq_wp.go (k := 2) (x' := (x.1, x.2.1, I1)) (pc' := 14) (L' := [.ref a, .ref b]) (st' := [.ref a, .int (nI 0), .ref (b + 1)]) (fun F => rfl) ?_
  refine xq_wp.gfR (sz := 4) (r := (a + 1)) rfl na0 ka0 (by decide) rfl ra1 ?_
  refine xq_wp.go (k := 2) (x' := (x.1, x.2.1, I1)) (pc' := 20) (L' := [.ref a, .ref b]) (st' := [.int (nI 100), .int (nI 0), .ref (a + 1), .int (nI 0), .ref (b + 1)]) (fun F => rfl) ?_
  refine xq_wp.cpy (zd := 100) (zs := 100) rfl na1 nb1 ka1 kb1 (by decide) (by decide) (by decide) rfl (by omega) (fun I2 p2 v2 => ?_)
  (try dsimp only at p2); (try dsimp only at v2)
  refine xq_wp.go (k := 1) (x' := (x.1, x.2.1, I2)) (pc' := 24) (L' := [.ref a, .ref b]) (st' := [.ref b]) (fun F => rfl) ?_
  refine xq_wp.gfR (sz := 4) (r := (b + 2)) rfl nb0 kb0 (by decide) rfl rb2 ?_
  refine xq_wp.go (k := 2) (x' := (x.1, x.2.1, I2)) (pc' := 29) (L' := [.ref a, .ref b]) (st' := [.ref a, .int (nI 0), .ref (b + 2)]) (fun F => rfl) ?_
  refine xq_wp.gfR (sz := 4) (r := (a + 2)) rfl na0 ka0 (by decide) rfl ra2 ?_
  refine xq_wp.go (k := 2) (x' := (x.1, x.2.1, I2)) (pc' := 35) (L' := [.ref a, .ref b]) (st' := [.int (nI 100), .int (nI 0), .ref (a + 2), .int (nI 0), .ref (b + 2)]) (fun F => rfl) ?_
  refine xq_wp.cpy (zd := 100) (zs := 100) rfl na2 nb2 ka2 kb2 (by decide) (by decide) (by decide) rfl (by omega) (fun I3 p3 v3 => ?_)
  (try dsimp only at p3); (try dsimp only at v3)
  refine xq_wp.go (k := 1) (x' := (x.1, x.2.1, I3)) (pc' := 39) (L' := [.ref a, .ref b]) (st' := [.ref b]) (fun F => rfl) ?_
  refine xq_wp.gfR (sz := 4) (r := (b + 3)) rfl nb0 kb0 (by decide) rfl rb3 ?_
  refine xq_wp.go (k := 2) (x' := (x.1, x.2.1, I3)) (pc' := 44) (L' := [.ref a, .ref b]) (st' := [.ref a, .int (nI 0), .ref (b + 3)]) (fun F => rfl) ?_
  refine xq_wp.gfR (sz := 4) (r := (a + 3)) rfl na0 ka0 (by decide) rfl ra3 ?_
  refine xq_wp.go (k := 2) (x' := (x.1, x.2.1, I3)) (pc' := 50) (L' := [.ref a, .ref b]) (st' := [.int (nI 100), .int (nI 0), .ref (a + 3), .int (nI 0), .ref (b + 3)]) (fun F => rfl) ?_
  refine xq_wp.cpy (zd := 100) (zs := 100) rfl na3 nb3 ka3 kb3 (by decide) (by decide) (by decide) rfl (by omega) (fun I4 p4 v4 => ?_)
  (try dsimp only at p4); (try dsimp only at v4)
  refine xq_wp.ret (k := 1) (v := none) (x1 := (x.1, x.2.1, I4)) (fun F => rfl) (hp _ ?_ ?_ ?_ ?_ ?_)
  · intro t ht; rw [p4 _ (by omega), p3 _ (by omega), p2 _ (by omega), p1 _ (by omega)]
  · rw [p4 _ (by omega), p3 _ (by omega), p2 _ (by omega), v1]
  · intro j hj; rw [p4 _ (by omega), p3 _ (by omega), v2 j hj, p1 _ (by omega)]
  · intro j hj; rw [p4 _ (by omega), v3 j hj, p2 _ (by omega), p1 _ (by omega)]
  · intro j hj; rw [v4 j hj, p3 _ (by omega), p2 _ (by omega), p1 _ (by omega)]
theorem cp_155c (ha : shB x a) (hb : shB x b) (hab : a + 4 < b ∨ b + 4 < a) {cnt : Nat} (hcnt : cnt ≤ 200) (hp : ∀ I' : Nat → xw, (∀ t, t < a ∨ a + 4 < t → I' t = x.2.2 t) → I' a 1 = nI cnt → I' a 0 = x.2.2 a 0 → (∀ j, j < cnt → I' (a + 1) j = x.2.2 (b + 1) j) → (∀ j, j < cnt → I' (a + 2) j = x.2.2 (b + 2) j) → (∀ j, j < cnt → I' (a + 3) j = x.2.2 (b + 3) j) → (∀ j, j < cnt → I' (a + 4) j = x.2.2 (b + 4) j) → Q none (x.1, x.2.1, I')) : xq_wp d 155 x 12 [.ref a, .ref b, .int (nI cnt)] [] Q := by
  have na0 : a < xq_N x := (ha.1 0 (by omega)).1
  have ka0 : xq_K x a = (0, 6) := (ha.1 0 (by omega)).2
  have na1 : (a + 1) < xq_N x := (ha.1 1 (by omega)).1
  have ka1 : xq_K x (a + 1) = (100, 200) := (ha.1 1 (by omega)).2
  have na2 : (a + 2) < xq_N x := (ha.1 2 (by omega)).1
  have ka2 : xq_K x (a + 2) = (100, 200) := (ha.1 2 (by omega)).2
  have na3 : (a + 3) < xq_N x := (ha.1 3 (by omega)).1
  have ka3 : xq_K x (a + 3) = (100, 200) := (ha.1 3 (by omega)).2
  have na4 : (a + 4) < xq_N x := (ha.1 4 (by omega)).1
  have ka4 : xq_K x (a + 4) = (100, 200) := (ha.1 4 (by omega)).2
  have ra2 : xq_R x a 2 = some (a + 1) := ha.2.1
  have ra3 : xq_R x a 3 = some (a + 2) := ha.2.2.1
  have ra4 : xq_R x a 4 = some (a + 3) := ha.2.2.2.1
  have ra5 : xq_R x a 5 = some (a + 4) := ha.2.2.2.2
  have nb0 : b < xq_N x := (hb.1 0 (by omega)).1
  have kb0 : xq_K x b = (0, 6) := (hb.1 0 (by omega)).2
  have nb1 : (b + 1) < xq_N x := (hb.1 1 (by omega)).1
  have kb1 : xq_K x (b + 1) = (100, 200) := (hb.1 1 (by omega)).2
  have nb2 : (b + 2) < xq_N x := (hb.1 2 (by omega)).1
  have kb2 : xq_K x (b + 2) = (100, 200) := (hb.1 2 (by omega)).2
  have nb3 : (b + 3) < xq_N x := (hb.1 3 (by omega)).1
  have kb3 : xq_K x (b + 3) = (100, 200) := (hb.1 3 (by omega)).2
  have nb4 : (b + 4) < xq_N x := (hb.1 4 (by omega)).1
  have kb4 : xq_K x (b + 4) = (100, 200) := (hb.1 4 (by omega)).2
  have rb2 : xq_R x b 2 = some (b + 1) := hb.2.1
  have rb3 : xq_R x b 3 = some (b + 2) := hb.2.2.1
  have rb4 : xq_R x b 4 = some (b + 3) := hb.2.2.2.1
  have rb5 : xq_R x b 5 = some (b + 4) := hb.2.2.2.2
  refine xq_wp.go (k := 1) (x' := x) (pc' := 13) (L' := [.ref a, .ref b, .int (nI cnt)]) (st' := [.ref b]) (fun F => rfl) ?_
  refine xq_wp.gfR (sz := 6) (r := (b + 1)) rfl nb0 kb0 (by decide) rfl rb2 ?_
  refine xq_wp.go (k := 2) (x' := x) (pc' := 18) (L' := [.ref a, .ref b, .int (nI cnt)]) (st' := [.ref a, .int (nI 0), .ref (b + 1)]) (fun F => rfl) ?_
  refine xq_wp.gfR (sz := 6) (r := (a + 1)) rfl na0 ka0 (by decide) rfl ra2 ?_
  refine xq_wp.go (k := 2) (x' := x) (pc' := 23) (L' := [.ref a, .ref b, .int (nI cnt)]) (st' := [.int (nI cnt), .int (nI 0), .ref (a + 1), .int (nI 0), .ref (b + 1)]) (fun F => rfl) ?_
  refine xq_wp.cpy (zd := 200) (zs := 200) rfl na1 nb1 ka1 kb1 hcnt hcnt (by decide) rfl (by omega) (fun I1 p1 v1 => ?_)
  (try dsimp only at p1); (try dsimp only at v1)
  refine xq_wp.go (k := 1) (x' := (x.1, x.2.1, I1)) (pc' := 27) (L' := [.ref a, .ref b, .int (nI cnt)]) (st' := [.ref b]) (fun F => rfl) ?_
  refine xq_wp.gfR (sz := 6) (r := (b + 2)) rfl nb0 kb0 (by decide) rfl rb3 ?_
  refine xq_wp.go (k := 2) (x' := (x.1, x.2.1, I1)) (pc' := 32) (L' := [.ref a, .ref b, .int (nI cnt)]) (st' := [.ref a, .int (nI 0), .ref (b + 2)]) (fun F => rfl) ?_
  refine xq_wp.gfR (sz := 6) (r := (a + 2)) rfl na0 ka0 (by decide) rfl ra3 ?_
  refine xq_wp.go (k := 2) (x' := (x.1, x.2.1, I1)) (pc' := 37) (L' := [.ref a, .ref b, .int (nI cnt)]) (st' := [.int (nI cnt), .int (nI 0), .ref (a + 2), .int (nI 0), .ref (b + 2)]) (fun F => rfl) ?_
  refine xq_wp.cpy (zd := 200) (zs := 200) rfl na2 nb2 ka2 kb2 hcnt hcnt (by decide) rfl (by omega) (fun I2 p2 v2 => ?_)
  (try dsimp only at p2); (try dsimp only at v2)
  refine xq_wp.go (k := 1) (x' := (x.1, x.2.1, I2)) (pc' := 41) (L' := [.ref a, .ref b, .int (nI cnt)]) (st' := [.ref b]) (fun F => rfl) ?_
  refine xq_wp.gfR (sz := 6) (r := (b + 3)) rfl nb0 kb0 (by decide) rfl rb4 ?_
  refine xq_wp.go (k := 2) (x' := (x.1, x.2.1, I2)) (pc' := 46) (L' := [.ref a, .ref b, .int (nI cnt)]) (st' := [.ref a, .int (nI 0), .ref (b + 3)]) (fun F => rfl) ?_
  refine xq_wp.gfR (sz := 6) (r := (a + 3)) rfl na0 ka0 (by decide) rfl ra4 ?_
  refine xq_wp.go (k := 2) (x' := (x.1, x.2.1, I2)) (pc' := 51) (L' := [.ref a, .ref b, .int (nI cnt)]) (st' := [.int (nI cnt), .int (nI 0), .ref (a + 3), .int (nI 0), .ref (b + 3)]) (fun F => rfl) ?_
  refine xq_wp.cpy (zd := 200) (zs := 200) rfl na3 nb3 ka3 kb3 hcnt hcnt (by decide) rfl (by omega) (fun I3 p3 v3 => ?_)
  (try dsimp only at p3); (try dsimp only at v3)
  refine xq_wp.go (k := 1) (x' := (x.1, x.2.1, I3)) (pc' := 55) (L' := [.ref a, .ref b, .int (nI cnt)]) (st' := [.ref b]) (fun F => rfl) ?_
  refine xq_wp.gfR (sz := 6) (r := (b + 4)) rfl nb0 kb0 (by decide) rfl rb5 ?_
  refine xq_wp.go (k := 2) (x' := (x.1, x.2.1, I3)) (pc' := 60) (L' := [.ref a, .ref b, .int (nI cnt)]) (st' := [.ref a, .int (nI 0), .ref (b + 4)]) (fun F => rfl) ?_
  refine xq_wp.gfR (sz := 6) (r := (a + 4)) rfl na0 ka0 (by decide) rfl ra5 ?_
  refine xq_wp.go (k := 2) (x' := (x.1, x.2.1, I3)) (pc' := 65) (L' := [.ref a, .ref b, .int (nI cnt)]) (st' := [.int (nI cnt), .int (nI 0), .ref (a + 4), .int (nI 0), .ref (b + 4)]) (fun F => rfl) ?_
  refine xq_wp.cpy (zd := 200) (zs := 200) rfl na4 nb4 ka4 kb4 hcnt hcnt (by decide) rfl (by omega) (fun I4 p4 v4 => ?_)
  (try dsimp only at p4); (try dsimp only at v4)
  refine xq_wp.go (k := 2) (x' := (x.1, x.2.1, I4)) (pc' := 70) (L' := [.ref a, .ref b, .int (nI cnt)]) (st' := [.int (nI cnt), .ref a]) (fun F => rfl) ?_
  refine xq_wp.pfI (sz := 6) rfl na0 ka0 (by decide) rfl (fun I5 p5 q5 v5 => ?_)
  (try dsimp only at p5); (try dsimp only at q5); (try dsimp only at v5)
  refine xq_wp.ret (k := 1) (v := none) (x1 := (x.1, x.2.1, I5)) (fun F => rfl) (hp _ ?_ ?_ ?_ ?_ ?_ ?_ ?_)
  · intro t ht; rw [p5 _ (by omega), p4 _ (by omega), p3 _ (by omega), p2 _ (by omega), p1 _ (by omega)]
  · rw [v5]
  · rw [q5 _ (by omega), p4 _ (by omega), p3 _ (by omega), p2 _ (by omega), p1 _ (by omega)]
  · intro j hj; rw [p5 _ (by omega), p4 _ (by omega), p3 _ (by omega), p2 _ (by omega), v1 j hj]
  · intro j hj; rw [p5 _ (by omega), p4 _ (by omega), p3 _ (by omega), v2 j hj, p1 _ (by omega)]
  · intro j hj; rw [p5 _ (by omega), p4 _ (by omega), v3 j hj, p2 _ (by omega), p1 _ (by omega)]
  · intro j hj; rw [p5 _ (by omega), v4 j hj, p3 _ (by omega), p2 _ (by omega), p1 _ (by omega)]
end yk_cp
