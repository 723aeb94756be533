/-! THE IMAGE: the constructors at any cell (written by program) -/
section xk_cn
variable {d m pc : Nat} {x0 x : xq_S} {L st : List Value} {Q : Option Value → xq_S → Prop} {M o c sz : Nat} {Ks Rs : List (Nat × Nat)} {Is : List (Nat × Int32)}
theorem mk_C {i0 len b z : Nat} (h : mk x0 x M o c sz Ks Rs Is) (hc : xq_code m pc = some (.invokevirtual i0, len, 1002, b, z)) (hM : M + Ks.length < 100000) (hr : xq_room st = true) (g : ∀ x' : xq_S, mk x0 x' M o c sz (Ks ++ [(100, 12)]) Rs Is → xq_wp d m x' (pc + 3) L (.ref (M + Ks.length) :: st) Q) : xq_wp d m x pc L (.ref 2000000 :: st) Q := by
  have hN : xq_N x < 100000 := by rw [h.1]; exact hM
  have := g ((xq_new x 100 12).1, (xq_new x 100 12).2.1, va_up x.2.2 (xq_N x) (fun j => (xq_sv.getD 0 []).getD j 0)) (mk_new (x := x) h rfl rfl (fun a ha => ⟨xv_ne ha, xv_ne ha, xv_ne ha, xv_ne ha⟩) xv_eq)
  rw [← h.1] at this
  refine xq_wp.step hc rfl (by simp only [xq_ret]) ?_ this
  have ht : decide (2000000 = xq_tB) = true := rfl
  simp only [xq_step, xq_self, hr, ht, hN, decide_true, Bool.and_self, if_true]
theorem mk_T {i0 len a b z t n : Nat} (h : mk x0 x M o c sz Ks Rs Is) (hc : xq_code m pc = some (.checkcast i0, len, a, b, z)) (ht : t < Ks.length) (hk : Ks.getD t (0, 0) = (100, n)) (g : xq_wp d m x (pc + 3) L (.ref (M + t) :: st) Q) : xq_wp d m x pc L (.ref (M + t) :: st) Q := by
  have hN : M + t < xq_N x := by rw [h.1]; omega
  have hK : xq_K x (M + t) = (100, n) := (h.2.2.2.2.2.1 t ht).trans hk
  refine xq_wp.step hc rfl (by simp only [xq_ret]) ?_ g
  simp only [xq_step, hN, hK, decide_true, Bool.and_self, if_true]
theorem mk_S {len a b z t n i : Nat} {v : Int32} (h : mk x0 x M o c sz Ks Rs Is) (hc : xq_code m pc = some (.iastore, len, a, b, z)) (ht : t < Ks.length) (hk : Ks.getD t (0, 0) = (100, n)) (hi : i < n) (hn : n < 1000) (g : ∀ x' : xq_S, mk x0 x' M o c sz Ks Rs Is → xq_wp d m x' (pc + 1) L st Q) : xq_wp d m x pc L (.int v :: .int (nI i) :: .ref (M + t) :: st) Q := by
  have hN : M + t < xq_N x := by rw [h.1]; omega
  have hK : xq_K x (M + t) = (100, n) := (h.2.2.2.2.2.1 t ht).trans hk
  obtain ⟨a1, a2, a3, a4, a5, a6, a7, a8⟩ := h
  have hin : xq_in (nI i) n = true := by
    unfold xq_in
    rw [nI_nn (by omega), nI_clamp (by omega), decide_eq_false (by omega)]; rfl
  refine xq_wp.step (x' := xq_setI x (M + t) (nI i).toNatClampNeg v) hc rfl (by simp only [xq_ret]) ?_ (g _ ⟨a1, a2, fun a c1 c2 => ?_, a4, a5, a6, a7, fun q hq => ?_⟩)
  · simp only [xq_step, xq_astore, hN, hK, hin, decide_true, Bool.and_self, if_true]
  · obtain ⟨e1, e2, e3, e4⟩ := a3 a c1 c2
    exact ⟨e1, e2, e3, (xv_ne (show ¬ a = M + t by omega)).trans e4⟩
  · exact (congrFun (xv_ne (show ¬ o = M + t by omega)) q.1).trans (a8 q hq)
theorem cn_2' (hN : xq_N x = M) (hM : M < 1000) (ho : o < M) (hK : xq_K x o = (1, 8)) (hp : ∀ x', mk x x' M o 1 8 [(100, 14), (100, 14), (100, 14), (100, 14), (100, 8), (100, 8)] [(7, 5), (6, 4), (4, 3), (3, 2), (2, 1), (1, 0)] [(5, nI 0), (0, nI 0)] → Q none x') : xq_wp (d + 1) 2 x 0 [.ref o] [] Q := by
  refine xq_wp.go (k := 4) (x' := x) (pc' := 6) (L' := [.ref o]) (st' := [.int (nI 0), .ref o]) (fun F => rfl) ?_
  refine mk_F (k := 0) (v := nI 0) (mk_0 hN ho hK) rfl (by decide) rfl (by decide) (fun x1 h1 => ?_)
  refine xq_wp.go (k := 2) (x' := x1) (pc' := 12) (L' := [.ref o]) (st' := [.int (nI 14), .ref o]) (fun F => rfl) ?_
  refine mk_I (n := 14) h1 rfl (by decide) (by show M + 0 < 100000; omega) (fun x2 h2 => ?_)
  refine mk_R (k := 1) (t := 0) h2 rfl (by decide) rfl (by omega) (by decide) (fun x3 h3 => ?_)
  refine xq_wp.go (k := 2) (x' := x3) (pc' := 20) (L' := [.ref o]) (st' := [.int (nI 14), .ref o]) (fun F => rfl) ?_
  refine mk_I (n := 14) h3 rfl (by decide) (by show M + 1 < 100000; omega) (fun x4 h4 => ?_)
  refine mk_R (k := 2) (t := 1) h4 rfl (by decide) rfl (by omega) (by decide) (fun x5 h5 => ?_)
  refine xq_wp.go (k := 2) (x' := x5) (pc' := 28) (L' := [.ref o]) (st' := [.int (nI 14), .ref o]) (fun F => rfl) ?_
  refine mk_I (n := 14) h5 rfl (by decide) (by show M + 2 < 100000; omega) (fun x6 h6 => ?_)
  refine mk_R (k := 3) (t := 2) h6 rfl (by decide) rfl (by omega) (by decide) (fun x7 h7 => ?_)
  refine xq_wp.go (k := 2) (x' := x7) (pc' := 36) (L' := [.ref o]) (st' := [.int (nI 14), .ref o]) (fun F => rfl) ?_
  refine mk_I (n := 14) h7 rfl (by decide) (by show M + 3 < 100000; omega) (fun x8 h8 => ?_)
  refine mk_R (k := 4) (t := 3) h8 rfl (by decide) rfl (by omega) (by decide) (fun x9 h9 => ?_)
  refine xq_wp.go (k := 2) (x' := x9) (pc' := 43) (L' := [.ref o]) (st' := [.int (nI 0), .ref o]) (fun F => rfl) ?_
  refine mk_F (k := 5) (v := nI 0) h9 rfl (by decide) rfl (by decide) (fun x10 h10 => ?_)
  refine xq_wp.go (k := 2) (x' := x10) (pc' := 49) (L' := [.ref o]) (st' := [.int (nI 8), .ref o]) (fun F => rfl) ?_
  refine mk_I (n := 8) h10 rfl (by decide) (by show M + 4 < 100000; omega) (fun x11 h11 => ?_)
  refine mk_R (k := 6) (t := 4) h11 rfl (by decide) rfl (by omega) (by decide) (fun x12 h12 => ?_)
  refine xq_wp.go (k := 2) (x' := x12) (pc' := 57) (L' := [.ref o]) (st' := [.int (nI 8), .ref o]) (fun F => rfl) ?_
  refine mk_I (n := 8) h12 rfl (by decide) (by show M + 5 < 100000; omega) (fun x13 h13 => ?_)
  refine mk_R (k := 7) (t := 5) h13 rfl (by decide) rfl (by omega) (by decide) (fun x14 h14 => ?_)
  exact xq_wp.ret (k := 1) (fun F => rfl) (hp x14 h14)
theorem cn_3' (hN : xq_N x = M) (hM : M < 1000) (ho : o < M) (hK : xq_K x o = (2, 6)) (hp : ∀ x', mk x x' M o 2 6 [(100, 400), (100, 16), (100, 40), (100, 8)] [(5, 3), (4, 2), (3, 1), (2, 0)] [(1, nI 0), (0, nI 0)] → Q none x') : xq_wp (d + 1) 3 x 0 [.ref o] [] Q := by
  refine xq_wp.go (k := 4) (x' := x) (pc' := 6) (L' := [.ref o]) (st' := [.int (nI 0), .ref o]) (fun F => rfl) ?_
  refine mk_F (k := 0) (v := nI 0) (mk_0 hN ho hK) rfl (by decide) rfl (by decide) (fun x1 h1 => ?_)
  refine xq_wp.go (k := 2) (x' := x1) (pc' := 11) (L' := [.ref o]) (st' := [.int (nI 0), .ref o]) (fun F => rfl) ?_
  refine mk_F (k := 1) (v := nI 0) h1 rfl (by decide) rfl (by decide) (fun x2 h2 => ?_)
  refine xq_wp.go (k := 2) (x' := x2) (pc' := 18) (L' := [.ref o]) (st' := [.int (nI 400), .ref o]) (fun F => rfl) ?_
  refine mk_I (n := 400) h2 rfl (by decide) (by show M + 0 < 100000; omega) (fun x3 h3 => ?_)
  refine mk_R (k := 2) (t := 0) h3 rfl (by decide) rfl (by omega) (by decide) (fun x4 h4 => ?_)
  refine xq_wp.go (k := 2) (x' := x4) (pc' := 26) (L' := [.ref o]) (st' := [.int (nI 16), .ref o]) (fun F => rfl) ?_
  refine mk_I (n := 16) h4 rfl (by decide) (by show M + 1 < 100000; omega) (fun x5 h5 => ?_)
  refine mk_R (k := 3) (t := 1) h5 rfl (by decide) rfl (by omega) (by decide) (fun x6 h6 => ?_)
  refine xq_wp.go (k := 2) (x' := x6) (pc' := 34) (L' := [.ref o]) (st' := [.int (nI 40), .ref o]) (fun F => rfl) ?_
  refine mk_I (n := 40) h6 rfl (by decide) (by show M + 2 < 100000; omega) (fun x7 h7 => ?_)
  refine mk_R (k := 4) (t := 2) h7 rfl (by decide) rfl (by omega) (by decide) (fun x8 h8 => ?_)
  refine xq_wp.go (k := 2) (x' := x8) (pc' := 42) (L' := [.ref o]) (st' := [.int (nI 8), .ref o]) (fun F => rfl) ?_
  refine mk_I (n := 8) h8 rfl (by decide) (by show M + 3 < 100000; omega) (fun x9 h9 => ?_)
  refine mk_R (k := 5) (t := 3) h9 rfl (by decide) rfl (by omega) (by decide) (fun x10 h10 => ?_)
  exact xq_wp.ret (k := 1) (fun F => rfl) (hp x10 h10)
theorem cn_4' (hN : xq_N x = M) (hM : M < 1000) (ho : o < M) (hK : xq_K x o = (4, 4)) (hp : ∀ x', mk x x' M o 4 4 [(100, 100), (100, 100), (100, 100)] [(3, 2), (2, 1), (1, 0)] [(0, nI 0)] → Q none x') : xq_wp (d + 1) 4 x 0 [.ref o] [] Q := by
  refine xq_wp.go (k := 4) (x' := x) (pc' := 6) (L' := [.ref o]) (st' := [.int (nI 0), .ref o]) (fun F => rfl) ?_
  refine mk_F (k := 0) (v := nI 0) (mk_0 hN ho hK) rfl (by decide) rfl (by decide) (fun x1 h1 => ?_)
  refine xq_wp.go (k := 2) (x' := x1) (pc' := 12) (L' := [.ref o]) (st' := [.int (nI 100), .ref o]) (fun F => rfl) ?_
  refine mk_I (n := 100) h1 rfl (by decide) (by show M + 0 < 100000; omega) (fun x2 h2 => ?_)
  refine mk_R (k := 1) (t := 0) h2 rfl (by decide) rfl (by omega) (by decide) (fun x3 h3 => ?_)
  refine xq_wp.go (k := 2) (x' := x3) (pc' := 20) (L' := [.ref o]) (st' := [.int (nI 100), .ref o]) (fun F => rfl) ?_
  refine mk_I (n := 100) h3 rfl (by decide) (by show M + 1 < 100000; omega) (fun x4 h4 => ?_)
  refine mk_R (k := 2) (t := 1) h4 rfl (by decide) rfl (by omega) (by decide) (fun x5 h5 => ?_)
  refine xq_wp.go (k := 2) (x' := x5) (pc' := 28) (L' := [.ref o]) (st' := [.int (nI 100), .ref o]) (fun F => rfl) ?_
  refine mk_I (n := 100) h5 rfl (by decide) (by show M + 2 < 100000; omega) (fun x6 h6 => ?_)
  refine mk_R (k := 3) (t := 2) h6 rfl (by decide) rfl (by omega) (by decide) (fun x7 h7 => ?_)
  exact xq_wp.ret (k := 1) (fun F => rfl) (hp x7 h7)
theorem cn_5' (hN : xq_N x = M) (hM : M < 1000) (ho : o < M) (hK : xq_K x o = (6, 15)) (hp : ∀ x', mk x x' M o 6 15 [(100, 12), (100, 4), (100, 14), (100, 14), (100, 14), (100, 14), (100, 14), (100, 70)] [(7, 7), (6, 6), (5, 5), (4, 4), (3, 3), (2, 2), (1, 1), (0, 0)] [(14, nI 0), (13, nI 0), (12, Int32.ofInt (-1)), (11, nI 0), (10, nI 0), (9, nI 0), (8, nI 0)] → Q none x') : xq_wp (d + 1) 5 x 0 [.ref o] [] Q := by
  refine xq_wp.go (k := 4) (x' := x) (pc' := 8) (L' := [.ref o]) (st' := [.ref 2000000, .ref o]) (fun F => rfl) ?_
  refine mk_C (mk_0 hN ho hK) rfl (by show M + 0 < 100000; omega) rfl (fun x1 h1 => ?_)
  refine mk_T (t := 0) (n := 12) h1 rfl (by decide) rfl ?_
  refine mk_R (k := 0) (t := 0) h1 rfl (by decide) rfl (by omega) (by decide) (fun x2 h2 => ?_)
  refine xq_wp.go (k := 2) (x' := x2) (pc' := 19) (L' := [.ref o]) (st' := [.int (nI 4), .ref o]) (fun F => rfl) ?_
  refine mk_I (n := 4) h2 rfl (by decide) (by show M + 1 < 100000; omega) (fun x3 h3 => ?_)
  refine xq_wp.go (k := 3) (x' := x3) (pc' := 24) (L' := [.ref o]) (st' := [.int (nI 1), .int (nI 0), .ref (M + 1), .ref (M + 1), .ref o]) (fun F => rfl) ?_
  refine mk_S (t := 1) (n := 4) (i := 0) h3 rfl (by decide) rfl (by decide) (by decide) (fun x4 h4 => ?_)
  refine xq_wp.go (k := 3) (x' := x4) (pc' := 28) (L' := [.ref o]) (st' := [.int (nI 1), .int (nI 1), .ref (M + 1), .ref (M + 1), .ref o]) (fun F => rfl) ?_
  refine mk_S (t := 1) (n := 4) (i := 1) h4 rfl (by decide) rfl (by decide) (by decide) (fun x5 h5 => ?_)
  refine xq_wp.go (k := 3) (x' := x5) (pc' := 32) (L' := [.ref o]) (st' := [.int (nI 1), .int (nI 2), .ref (M + 1), .ref (M + 1), .ref o]) (fun F => rfl) ?_
  refine mk_S (t := 1) (n := 4) (i := 2) h5 rfl (by decide) rfl (by decide) (by decide) (fun x6 h6 => ?_)
  refine xq_wp.go (k := 3) (x' := x6) (pc' := 36) (L' := [.ref o]) (st' := [.int (nI 1), .int (nI 3), .ref (M + 1), .ref (M + 1), .ref o]) (fun F => rfl) ?_
  refine mk_S (t := 1) (n := 4) (i := 3) h6 rfl (by decide) rfl (by decide) (by decide) (fun x7 h7 => ?_)
  refine mk_R (k := 1) (t := 1) h7 rfl (by decide) rfl (by omega) (by decide) (fun x8 h8 => ?_)
  refine xq_wp.go (k := 2) (x' := x8) (pc' := 43) (L' := [.ref o]) (st' := [.int (nI 14), .ref o]) (fun F => rfl) ?_
  refine mk_I (n := 14) h8 rfl (by decide) (by show M + 2 < 100000; omega) (fun x9 h9 => ?_)
  refine mk_R (k := 2) (t := 2) h9 rfl (by decide) rfl (by omega) (by decide) (fun x10 h10 => ?_)
  refine xq_wp.go (k := 2) (x' := x10) (pc' := 51) (L' := [.ref o]) (st' := [.int (nI 14), .ref o]) (fun F => rfl) ?_
  refine mk_I (n := 14) h10 rfl (by decide) (by show M + 3 < 100000; omega) (fun x11 h11 => ?_)
  refine mk_R (k := 3) (t := 3) h11 rfl (by decide) rfl (by omega) (by decide) (fun x12 h12 => ?_)
  refine xq_wp.go (k := 2) (x' := x12) (pc' := 59) (L' := [.ref o]) (st' := [.int (nI 14), .ref o]) (fun F => rfl) ?_
  refine mk_I (n := 14) h12 rfl (by decide) (by show M + 4 < 100000; omega) (fun x13 h13 => ?_)
  refine mk_R (k := 4) (t := 4) h13 rfl (by decide) rfl (by omega) (by decide) (fun x14 h14 => ?_)
  refine xq_wp.go (k := 2) (x' := x14) (pc' := 67) (L' := [.ref o]) (st' := [.int (nI 14), .ref o]) (fun F => rfl) ?_
  refine mk_I (n := 14) h14 rfl (by decide) (by show M + 5 < 100000; omega) (fun x15 h15 => ?_)
  refine mk_R (k := 5) (t := 5) h15 rfl (by decide) rfl (by omega) (by decide) (fun x16 h16 => ?_)
  refine xq_wp.go (k := 2) (x' := x16) (pc' := 75) (L' := [.ref o]) (st' := [.int (nI 14), .ref o]) (fun F => rfl) ?_
  refine mk_I (n := 14) h16 rfl (by decide) (by show M + 6 < 100000; omega) (fun x17 h17 => ?_)
  refine mk_R (k := 6) (t := 6) h17 rfl (by decide) rfl (by omega) (by decide) (fun x18 h18 => ?_)
  refine xq_wp.go (k := 2) (x' := x18) (pc' := 83) (L' := [.ref o]) (st' := [.int (nI 70), .ref o]) (fun F => rfl) ?_
  refine mk_I (n := 70) h18 rfl (by decide) (by show M + 7 < 100000; omega) (fun x19 h19 => ?_)
  refine mk_R (k := 7) (t := 7) h19 rfl (by decide) rfl (by omega) (by decide) (fun x20 h20 => ?_)
  refine xq_wp.go (k := 2) (x' := x20) (pc' := 90) (L' := [.ref o]) (st' := [.int (nI 0), .ref o]) (fun F => rfl) ?_
  refine mk_F (k := 8) (v := nI 0) h20 rfl (by decide) rfl (by decide) (fun x21 h21 => ?_)
  refine xq_wp.go (k := 2) (x' := x21) (pc' := 95) (L' := [.ref o]) (st' := [.int (nI 0), .ref o]) (fun F => rfl) ?_
  refine mk_F (k := 9) (v := nI 0) h21 rfl (by decide) rfl (by decide) (fun x22 h22 => ?_)
  refine xq_wp.go (k := 2) (x' := x22) (pc' := 100) (L' := [.ref o]) (st' := [.int (nI 0), .ref o]) (fun F => rfl) ?_
  refine mk_F (k := 10) (v := nI 0) h22 rfl (by decide) rfl (by decide) (fun x23 h23 => ?_)
  refine xq_wp.go (k := 2) (x' := x23) (pc' := 105) (L' := [.ref o]) (st' := [.int (nI 0), .ref o]) (fun F => rfl) ?_
  refine mk_F (k := 11) (v := nI 0) h23 rfl (by decide) rfl (by decide) (fun x24 h24 => ?_)
  refine xq_wp.go (k := 2) (x' := x24) (pc' := 110) (L' := [.ref o]) (st' := [.int (Int32.ofInt (-1)), .ref o]) (fun F => rfl) ?_
  refine mk_F (k := 12) (v := Int32.ofInt (-1)) h24 rfl (by decide) rfl (by decide) (fun x25 h25 => ?_)
  refine xq_wp.go (k := 2) (x' := x25) (pc' := 115) (L' := [.ref o]) (st' := [.int (nI 0), .ref o]) (fun F => rfl) ?_
  refine mk_F (k := 13) (v := nI 0) h25 rfl (by decide) rfl (by decide) (fun x26 h26 => ?_)
  refine xq_wp.go (k := 2) (x' := x26) (pc' := 120) (L' := [.ref o]) (st' := [.int (nI 0), .ref o]) (fun F => rfl) ?_
  refine mk_F (k := 14) (v := nI 0) h26 rfl (by decide) rfl (by decide) (fun x27 h27 => ?_)
  exact xq_wp.ret (k := 1) (fun F => rfl) (hp x27 h27)
theorem cn_6' (hN : xq_N x = M) (hM : M < 1000) (ho : o < M) (hK : xq_K x o = (0, 6)) (hp : ∀ x', mk x x' M o 0 6 [(100, 200), (100, 200), (100, 200), (100, 200)] [(5, 3), (4, 2), (3, 1), (2, 0)] [(0, nI 200), (1, nI 0)] → Q none x') : xq_wp (d + 1) 6 x 0 [.ref o, .int (nI 200)] [] Q := by
  refine xq_wp.go (k := 4) (x' := x) (pc' := 6) (L' := [.ref o, .int (nI 200)]) (st' := [.int (nI 0), .ref o]) (fun F => rfl) ?_
  refine mk_F (k := 1) (v := nI 0) (mk_0 hN ho hK) rfl (by decide) rfl (by decide) (fun x1 h1 => ?_)
  refine xq_wp.go (k := 3) (x' := x1) (pc' := 12) (L' := [.ref o, .int (nI 200)]) (st' := [.int (nI 200), .int (nI 0), .ref o]) (fun F => rfl) ?_
  refine xq_wp.call (As := [.int (nI 0), .int (nI 200)]) (r := [.ref o]) rfl rfl rfl rfl (xf_7 ?_)
  rw [show xq_max (nI 0) (nI 200) = nI 200 from by decide]
  refine mk_F (k := 0) (v := nI 200) h1 rfl (by decide) rfl (by decide) (fun x2 h2 => ?_)
  refine xq_wp.go (k := 2) (x' := x2) (pc' := 20) (L' := [.ref o, .int (nI 200)]) (st' := [.ref o, .ref o]) (fun F => rfl) ?_
  refine xq_wp.gfI (o := o) rfl (by have := h2.1; have := h2.2.2.2.1; omega) h2.2.2.2.2.1 (by decide) rfl ?_
  rw [show x2.2.2 o 0 = nI 200 from h2.2.2.2.2.2.2.2 (0, nI 200) (by decide)]
  refine mk_I (n := 200) h2 rfl (by decide) (by show M + 0 < 100000; omega) (fun x3 h3 => ?_)
  refine mk_R (k := 2) (t := 0) h3 rfl (by decide) rfl (by omega) (by decide) (fun x4 h4 => ?_)
  refine xq_wp.go (k := 2) (x' := x4) (pc' := 30) (L' := [.ref o, .int (nI 200)]) (st' := [.ref o, .ref o]) (fun F => rfl) ?_
  refine xq_wp.gfI (o := o) rfl (by have := h4.1; have := h4.2.2.2.1; omega) h4.2.2.2.2.1 (by decide) rfl ?_
  rw [show x4.2.2 o 0 = nI 200 from h4.2.2.2.2.2.2.2 (0, nI 200) (by decide)]
  refine mk_I (n := 200) h4 rfl (by decide) (by show M + 1 < 100000; omega) (fun x5 h5 => ?_)
  refine mk_R (k := 3) (t := 1) h5 rfl (by decide) rfl (by omega) (by decide) (fun x6 h6 => ?_)
  refine xq_wp.go (k := 2) (x' := x6) (pc' := 40) (L' := [.ref o, .int (nI 200)]) (st' := [.ref o, .ref o]) (fun F => rfl) ?_
  refine xq_wp.gfI (o := o) rfl (by have := h6.1; have := h6.2.2.2.1; omega) h6.2.2.2.2.1 (by decide) rfl ?_
  rw [show x6.2.2 o 0 = nI 200 from h6.2.2.2.2.2.2.2 (0, nI 200) (by decide)]
  refine mk_I (n := 200) h6 rfl (by decide) (by show M + 2 < 100000; omega) (fun x7 h7 => ?_)
  refine mk_R (k := 4) (t := 2) h7 rfl (by decide) rfl (by omega) (by decide) (fun x8 h8 => ?_)
  refine xq_wp.go (k := 2) (x' := x8) (pc' := 50) (L' := [.ref o, .int (nI 200)]) (st' := [.ref o, .ref o]) (fun F => rfl) ?_
  refine xq_wp.gfI (o := o) rfl (by have := h8.1; have := h8.2.2.2.1; omega) h8.2.2.2.2.1 (by decide) rfl ?_
  rw [show x8.2.2 o 0 = nI 200 from h8.2.2.2.2.2.2.2 (0, nI 200) (by decide)]
  refine mk_I (n := 200) h8 rfl (by decide) (by show M + 3 < 100000; omega) (fun x9 h9 => ?_)
  refine mk_R (k := 5) (t := 3) h9 rfl (by decide) rfl (by omega) (by decide) (fun x10 h10 => ?_)
  exact xq_wp.ret (k := 1) (fun F => rfl) (hp x10 h10)
end xk_cn
