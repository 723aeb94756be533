/-! THE IMAGE: the constructor of a yard (written by program) -/
def YR : List (Nat × Nat × Nat) := [(0, 4, 26), (26, 5, 30), (26, 4, 29), (26, 3, 28), (26, 2, 27), (0, 3, 17), (17, 7, 25), (17, 6, 24), (17, 5, 23), (17, 4, 22), (17, 3, 21), (17, 2, 20), (17, 1, 19), (17, 0, 18), (0, 2, 13), (13, 3, 16), (13, 2, 15), (13, 1, 14), (0, 1, 8), (8, 5, 12), (8, 4, 11), (8, 3, 10), (8, 2, 9), (0, 0, 1), (1, 7, 7), (1, 6, 6), (1, 4, 5), (1, 3, 4), (1, 2, 3), (1, 1, 2)]
theorem cn_1 {d N : Nat} {x0 x : xq_S} {Q : Option Value → xq_S → Prop} (h : ys x0 x N 1 5 []) (hN : N < 900) (hp : ∀ x', ys x0 x' N 31 1836 YR → xq_I x' (N + 26) 0 = nI 200 → Q none x') : xq_wp (d + 2) 1 x 0 [.ref N] [] Q := by
  refine xq_wp.go (k := 3) (x' := x) (pc' := 5) (L' := [.ref N]) (st' := [.ref N]) (fun F => rfl) ?_
  refine xq_wp.mkO (c := 1) (n := 8) rfl (by decide) rfl (by have := h.1; omega) (fun x1 n1 z1 f1 k1 _ => ?_)
  have y1 : ys x0 x1 N 2 13 [] := ys_new h rfl n1 z1 f1 k1
  rw [show xq_N x = N + 1 from h.1]
  refine xq_wp.go (k := 1) (x' := x1) (pc' := 9) (L' := [.ref N]) (st' := [.ref (N + 1), .ref (N + 1), .ref N]) (fun F => rfl) ?_
  refine xq_wp.call (As := [.ref (N + 1)]) (r := [.ref (N + 1), .ref N]) rfl rfl rfl rfl (cn_2' (d := d) (M := N + 2) (o := N + 1) y1.1 (by omega) (by omega) (y1.2.2.2.1 1 (by omega)) (fun x2 m2 => ?_))
  have y2 : ys x0 x2 N 8 85 [(1, 7, 7), (1, 6, 6), (1, 4, 5), (1, 3, 4), (1, 2, 3), (1, 1, 2)] := ys_con (i := 1) y1 m2 (by omega) (by decide) (by decide) rfl
  refine ys_put (j := 0) (t := 1) y2 (by omega) rfl (by decide) rfl (by omega) (by decide) (fun x3 y3 i3 => ?_)
  refine xq_wp.go (k := 1) (x' := x3) (pc' := 16) (L' := [.ref N]) (st' := [.ref N]) (fun F => rfl) ?_
  refine xq_wp.mkO (c := 2) (n := 6) rfl (by decide) rfl (by have := y3.1; omega) (fun x4 n4 z4 f4 k4 _ => ?_)
  have y4 : ys x0 x4 N 9 91 [(0, 0, 1), (1, 7, 7), (1, 6, 6), (1, 4, 5), (1, 3, 4), (1, 2, 3), (1, 1, 2)] := ys_new y3 rfl n4 z4 f4 k4
  rw [show xq_N x3 = N + 8 from y3.1]
  refine xq_wp.go (k := 1) (x' := x4) (pc' := 20) (L' := [.ref N]) (st' := [.ref (N + 8), .ref (N + 8), .ref N]) (fun F => rfl) ?_
  refine xq_wp.call (As := [.ref (N + 8)]) (r := [.ref (N + 8), .ref N]) rfl rfl rfl rfl (cn_3' (d := d) (M := N + 9) (o := N + 8) y4.1 (by omega) (by omega) (y4.2.2.2.1 8 (by omega)) (fun x5 m5 => ?_))
  have y5 : ys x0 x5 N 13 555 [(8, 5, 12), (8, 4, 11), (8, 3, 10), (8, 2, 9), (0, 0, 1), (1, 7, 7), (1, 6, 6), (1, 4, 5), (1, 3, 4), (1, 2, 3), (1, 1, 2)] := ys_con (i := 8) y4 m5 (by omega) (by decide) (by decide) rfl
  refine ys_put (j := 1) (t := 8) y5 (by omega) rfl (by decide) rfl (by omega) (by decide) (fun x6 y6 i6 => ?_)
  refine xq_wp.go (k := 1) (x' := x6) (pc' := 27) (L' := [.ref N]) (st' := [.ref N]) (fun F => rfl) ?_
  refine xq_wp.mkO (c := 4) (n := 4) rfl (by decide) rfl (by have := y6.1; omega) (fun x7 n7 z7 f7 k7 _ => ?_)
  have y7 : ys x0 x7 N 14 559 [(0, 1, 8), (8, 5, 12), (8, 4, 11), (8, 3, 10), (8, 2, 9), (0, 0, 1), (1, 7, 7), (1, 6, 6), (1, 4, 5), (1, 3, 4), (1, 2, 3), (1, 1, 2)] := ys_new y6 rfl n7 z7 f7 k7
  rw [show xq_N x6 = N + 13 from y6.1]
  refine xq_wp.go (k := 1) (x' := x7) (pc' := 31) (L' := [.ref N]) (st' := [.ref (N + 13), .ref (N + 13), .ref N]) (fun F => rfl) ?_
  refine xq_wp.call (As := [.ref (N + 13)]) (r := [.ref (N + 13), .ref N]) rfl rfl rfl rfl (cn_4' (d := d) (M := N + 14) (o := N + 13) y7.1 (by omega) (by omega) (y7.2.2.2.1 13 (by omega)) (fun x8 m8 => ?_))
  have y8 : ys x0 x8 N 17 859 [(13, 3, 16), (13, 2, 15), (13, 1, 14), (0, 1, 8), (8, 5, 12), (8, 4, 11), (8, 3, 10), (8, 2, 9), (0, 0, 1), (1, 7, 7), (1, 6, 6), (1, 4, 5), (1, 3, 4), (1, 2, 3), (1, 1, 2)] := ys_con (i := 13) y7 m8 (by omega) (by decide) (by decide) rfl
  refine ys_put (j := 2) (t := 13) y8 (by omega) rfl (by decide) rfl (by omega) (by decide) (fun x9 y9 i9 => ?_)
  refine xq_wp.go (k := 1) (x' := x9) (pc' := 38) (L' := [.ref N]) (st' := [.ref N]) (fun F => rfl) ?_
  refine xq_wp.mkO (c := 6) (n := 15) rfl (by decide) rfl (by have := y9.1; omega) (fun x10 n10 z10 f10 k10 _ => ?_)
  have y10 : ys x0 x10 N 18 874 [(0, 2, 13), (13, 3, 16), (13, 2, 15), (13, 1, 14), (0, 1, 8), (8, 5, 12), (8, 4, 11), (8, 3, 10), (8, 2, 9), (0, 0, 1), (1, 7, 7), (1, 6, 6), (1, 4, 5), (1, 3, 4), (1, 2, 3), (1, 1, 2)] := ys_new y9 rfl n10 z10 f10 k10
  rw [show xq_N x9 = N + 17 from y9.1]
  refine xq_wp.go (k := 1) (x' := x10) (pc' := 42) (L' := [.ref N]) (st' := [.ref (N + 17), .ref (N + 17), .ref N]) (fun F => rfl) ?_
  refine xq_wp.call (As := [.ref (N + 17)]) (r := [.ref (N + 17), .ref N]) rfl rfl rfl rfl (cn_5' (d := d) (M := N + 18) (o := N + 17) y10.1 (by omega) (by omega) (y10.2.2.2.1 17 (by omega)) (fun x11 m11 => ?_))
  have y11 : ys x0 x11 N 26 1030 [(17, 7, 25), (17, 6, 24), (17, 5, 23), (17, 4, 22), (17, 3, 21), (17, 2, 20), (17, 1, 19), (17, 0, 18), (0, 2, 13), (13, 3, 16), (13, 2, 15), (13, 1, 14), (0, 1, 8), (8, 5, 12), (8, 4, 11), (8, 3, 10), (8, 2, 9), (0, 0, 1), (1, 7, 7), (1, 6, 6), (1, 4, 5), (1, 3, 4), (1, 2, 3), (1, 1, 2)] := ys_con (i := 17) y10 m11 (by omega) (by decide) (by decide) rfl
  refine ys_put (j := 3) (t := 17) y11 (by omega) rfl (by decide) rfl (by omega) (by decide) (fun x12 y12 i12 => ?_)
  refine xq_wp.go (k := 1) (x' := x12) (pc' := 49) (L' := [.ref N]) (st' := [.ref N]) (fun F => rfl) ?_
  refine xq_wp.mkO (c := 0) (n := 6) rfl (by decide) rfl (by have := y12.1; omega) (fun x13 n13 z13 f13 k13 _ => ?_)
  have y13 : ys x0 x13 N 27 1036 [(0, 3, 17), (17, 7, 25), (17, 6, 24), (17, 5, 23), (17, 4, 22), (17, 3, 21), (17, 2, 20), (17, 1, 19), (17, 0, 18), (0, 2, 13), (13, 3, 16), (13, 2, 15), (13, 1, 14), (0, 1, 8), (8, 5, 12), (8, 4, 11), (8, 3, 10), (8, 2, 9), (0, 0, 1), (1, 7, 7), (1, 6, 6), (1, 4, 5), (1, 3, 4), (1, 2, 3), (1, 1, 2)] := ys_new y12 rfl n13 z13 f13 k13
  rw [show xq_N x12 = N + 26 from y12.1]
  refine xq_wp.go (k := 2) (x' := x13) (pc' := 56) (L' := [.ref N]) (st' := [.int (nI 200), .ref (N + 26), .ref (N + 26), .ref N]) (fun F => rfl) ?_
  refine xq_wp.call (As := [.ref (N + 26), .int (nI 200)]) (r := [.ref (N + 26), .ref N]) rfl rfl rfl rfl (cn_6' (d := d) (M := N + 27) (o := N + 26) y13.1 (by omega) (by omega) (y13.2.2.2.1 26 (by omega)) (fun x14 m14 => ?_))
  have y14 : ys x0 x14 N 31 1836 [(26, 5, 30), (26, 4, 29), (26, 3, 28), (26, 2, 27), (0, 3, 17), (17, 7, 25), (17, 6, 24), (17, 5, 23), (17, 4, 22), (17, 3, 21), (17, 2, 20), (17, 1, 19), (17, 0, 18), (0, 2, 13), (13, 3, 16), (13, 2, 15), (13, 1, 14), (0, 1, 8), (8, 5, 12), (8, 4, 11), (8, 3, 10), (8, 2, 9), (0, 0, 1), (1, 7, 7), (1, 6, 6), (1, 4, 5), (1, 3, 4), (1, 2, 3), (1, 1, 2)] := ys_con (i := 26) y13 m14 (by omega) (by decide) (by decide) rfl
  have r200 : xq_I x14 (N + 26) 0 = nI 200 := m14.2.2.2.2.2.2.2 (0, nI 200) (by decide)
  refine ys_put (j := 4) (t := 26) y14 (by omega) rfl (by decide) rfl (by omega) (by decide) (fun x15 y15 i15 => ?_)
  exact xq_wp.ret (k := 1) (fun F => rfl) (hp x15 y15 ((congrFun (i15 (N + 26) (by omega)) 0).trans r200))
