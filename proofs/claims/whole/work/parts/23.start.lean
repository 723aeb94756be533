/-! what the law begins with -/
def xq_FN : List Cond := flatC (Jvm.Cond.and given_1 narrow_1)
def xq_rep : List (Nat × Nat) := [(1, 49), (1, 74), (1, 79), (1, 80), (1, 82), (1, 91), (1, 97), (1, 99), (1, 101), (1, 103), (2, 56), (2, 116), (2, 118), (2, 120), (2, 122), (2, 124), (2, 126), (2, 128), (2, 130), (2, 73), (2, 94), (2, 92), (4, 49), (4, 99), (4, 101), (4, 103), (4, 105), (4, 107), (4, 109), (4, 111), (4, 113), (4, 94)]
def xq_tm (j : Nat) : Term := Term.string (xq_cn (xq_rep.getD j (0, 0)).1) (xq_rep.getD j (0, 0)).2
def xq_sn (j : Nat) : Term := Term.static (xq_snl.getD j ("", "")).1 (xq_snl.getD j ("", "")).2 "[I"
def xq_slp : List (Nat × Nat) := [(144, 1), (507, 1), (509, 1), (1186, 1), (805, 5), (807, 5)]
def xq_sfp : List (Nat × Nat × List Nat) := [(5, 6, [7, 8, 9, 10, 11, 12, 13, 14, 15, 16, 17, 18]), (20, 21, [22, 23, 24, 25, 26, 27, 28, 29, 30, 31, 32, 33]), (35, 36, [37, 38, 39, 40, 41, 42, 43, 44, 45, 46, 47, 48]), (77, 78, [79, 80, 81, 82, 83]), (55, 56, [57, 58, 59, 60, 61, 62, 63, 64]), (66, 67, [68, 69, 70, 71, 72, 73, 74, 75])]
def xq_tfp : List (Nat × Nat × Nat × Nat × List Nat) := [(84, 85, 86, 87, [88, 89, 90, 91, 92]), (93, 94, 95, 96, [97, 98]), (99, 100, 101, 102, [103, 104, 105, 106]), (107, 108, 109, 110, [111, 112, 113, 114]), (115, 116, 117, 118, [119, 120, 121, 122, 123]), (124, 125, 126, 127, [128, 129, 130]), (131, 132, 133, 134, [135, 136, 137, 138]), (139, 140, 141, 142, [143, 144, 145, 146]), (147, 148, 149, 150, [151, 152, 153, 154, 155]), (156, 157, 158, 159, [160, 161, 162, 163, 164, 165]), (166, 167, 168, 169, [170, 171, 172, 173]), (174, 175, 176, 177, [178, 179, 180, 181]), (182, 183, 184, 185, [186, 187, 188, 189]), (190, 191, 192, 193, [194, 195, 196]), (197, 198, 199, 200, [201, 202, 203]), (204, 205, 206, 207, [208, 209, 210, 211]), (212, 213, 214, 215, [216, 217, 218, 219]), (220, 221, 222, 223, [224, 225, 226, 227, 228, 229]), (230, 231, 232, 233, [234, 235, 236, 237]), (238, 239, 240, 241, [242, 243, 244, 245]), (246, 247, 248, 249, [250, 251, 252]), (261, 262, 263, 264, [265, 266]), (267, 268, 269, 270, [271, 272, 273, 274, 275]), (276, 277, 278, 279, [280, 281, 282, 283]), (284, 285, 286, 287, [288, 289, 290, 291]), (292, 293, 294, 295, [296, 297, 298, 299]), (300, 301, 302, 303, [304, 305, 306, 307]), (308, 309, 310, 311, [312, 313, 314, 315]), (316, 317, 318, 319, [320, 321, 322, 323]), (324, 325, 326, 327, [328, 329, 330, 331, 332, 333, 334]), (335, 336, 337, 338, [339, 340, 341, 342, 343, 344]), (345, 346, 347, 348, [349, 350])]
abbrev xq_sfq (j : Nat) : Nat × Nat × List Nat := xq_sfp.getD j (0, 0, [])
abbrev xq_tfq (j : Nat) : Nat × Nat × Nat × Nat × List Nat := xq_tfp.getD j (0, 0, 0, 0, [])
theorem xq_sf1 : (List.range 6).all (fun j => decide (xq_FN[(xq_sfq j).1]? = some (Cond.arrayOf (xq_sn j) .int)) && decide (xq_FN[(xq_sfq j).2.1]? = some (Cond.eq (.length (xq_sn j)) (.int (Int32.ofNat (xq_sv.getD j []).length)))) && (List.range (xq_sv.getD j []).length).all (fun k => decide (xq_FN[(xq_sfq j).2.2.getD k 0]? = some (Cond.eq (.elem (xq_sn j) (.int (Int32.ofNat k))) (.int ((xq_sv.getD j []).getD k 0)))))) = true := by decide +kernel
theorem xq_sf2 : (List.range 6).all (fun j => decide (tables_1[(xq_slp.getD j (0, 0)).1]? = some (Cond.laysStatic (xq_snl.getD j ("", "")).1 (xq_snl.getD j ("", "")).2 "[I")) && decide (tables_1[(xq_slp.getD j (0, 0)).2]? = some (Cond.initialized (xq_snl.getD j ("", "")).1))) = true := by decide +kernel
theorem xq_sf3 : (List.range 32).all (fun j => decide (xq_FN[(xq_tfq j).1]? = some (Cond.exactly (xq_tm j) "java/lang/String")) && decide (xq_FN[(xq_tfq j).2.1]? = some (Cond.eq (.field (xq_tm j) "java/lang/String" "coder" "B") (.int 0))) && decide (xq_FN[(xq_tfq j).2.2.1]? = some (Cond.arrayOf (.field (xq_tm j) "java/lang/String" "value" "[B") .byte)) && decide (xq_FN[(xq_tfq j).2.2.2.1]? = some (Cond.eq (.length (.field (xq_tm j) "java/lang/String" "value" "[B")) (.int (Int32.ofNat (xq_tx.getD j []).length))))) = true := by decide +kernel
theorem xq_sf40 : (List.range 8).all (fun i => (List.range (xq_tx.getD (0 + i) []).length).all (fun k => decide (xq_FN[(xq_tfq (0 + i)).2.2.2.2.getD k 0]? = some (Cond.eq (.elem (.field (xq_tm (0 + i)) "java/lang/String" "value" "[B") (.int (Int32.ofNat k))) (.int ((xq_tx.getD (0 + i) []).getD k 0)))))) = true := by decide +kernel
theorem xq_sf41 : (List.range 8).all (fun i => (List.range (xq_tx.getD (8 + i) []).length).all (fun k => decide (xq_FN[(xq_tfq (8 + i)).2.2.2.2.getD k 0]? = some (Cond.eq (.elem (.field (xq_tm (8 + i)) "java/lang/String" "value" "[B") (.int (Int32.ofNat k))) (.int ((xq_tx.getD (8 + i) []).getD k 0)))))) = true := by decide +kernel
theorem xq_sf42 : (List.range 8).all (fun i => (List.range (xq_tx.getD (16 + i) []).length).all (fun k => decide (xq_FN[(xq_tfq (16 + i)).2.2.2.2.getD k 0]? = some (Cond.eq (.elem (.field (xq_tm (16 + i)) "java/lang/String" "value" "[B") (.int (Int32.ofNat k))) (.int ((xq_tx.getD (16 + i) []).getD k 0)))))) = true := by decide +kernel
theorem xq_sf43 : (List.range 8).all (fun i => (List.range (xq_tx.getD (24 + i) []).length).all (fun k => decide (xq_FN[(xq_tfq (24 + i)).2.2.2.2.getD k 0]? = some (Cond.eq (.elem (.field (xq_tm (24 + i)) "java/lang/String" "value" "[B") (.int (Int32.ofNat k))) (.int ((xq_tx.getD (24 + i) []).getD k 0)))))) = true := by decide +kernel
def xq_sep : List Nat := [0, 0, 0, 0, 0, 0, 0, 0, 0, 0, 0, 0, 0, 0, 0, 0, 0, 0, 0, 0, 0, 260, 0, 0, 0, 0, 0, 0, 0, 0, 0, 0, 0, 360, 367, 376, 385, 395, 403, 413, 422, 432, 443, 452, 459, 467, 476, 485, 494, 502, 510, 519, 528, 539, 548, 557, 566, 575, 584, 593, 602, 614, 625, 635, 642]
theorem xq_sf5 : (xq_SRq.zip xq_sep).all (fun z => decide (tables_1[z.1.2]? = some (Cond.stringRef (xq_cn z.1.1.1) z.1.1.2.1 (xq_txl.getD z.1.1.2.2 ""))) && (decide (xq_rep.getD z.1.1.2.2 (0, 0) = (z.1.1.1, z.1.1.2.1)) || decide (xq_FN[z.2]? = some (Cond.eq (xq_tm z.1.1.2.2) (Term.string (xq_cn z.1.1.1) z.1.1.2.1))))) = true := by decide +kernel
theorem xq_sz : xq_SRq.length = xq_sep.length := by decide +kernel
theorem xq_zip_mem {α β : Type} : ∀ {l : List α} {m : List β}, l.length = m.length → ∀ a ∈ l, ∃ b, (a, b) ∈ l.zip m
  | [], _, _, a, h => by cases h
  | x :: l, [], h, _, _ => by simp at h
  | x :: l, y :: m, h, a, ha => by
    rcases List.mem_cons.mp ha with rfl | ha
    · exact ⟨y, List.mem_cons_self⟩
    · obtain ⟨b, hb⟩ := xq_zip_mem (l := l) (m := m) (by simpa using h) a ha
      exact ⟨b, List.mem_cons_of_mem _ hb⟩
theorem xq_sf4 {j : Nat} (hj : j < 32) : ∀ k ∈ List.range (xq_tx.getD j []).length, xq_FN[(xq_tfq j).2.2.2.2.getD k 0]? = some (Cond.eq (.elem (.field (xq_tm j) "java/lang/String" "value" "[B") (.int (Int32.ofNat k))) (.int ((xq_tx.getD j []).getD k 0))) := by
  have key : ∀ b, (List.range 8).all (fun i => (List.range (xq_tx.getD (b + i) []).length).all (fun k => decide (xq_FN[(xq_tfq (b + i)).2.2.2.2.getD k 0]? = some (Cond.eq (.elem (.field (xq_tm (b + i)) "java/lang/String" "value" "[B") (.int (Int32.ofNat k))) (.int ((xq_tx.getD (b + i) []).getD k 0)))))) = true → b ≤ j → j < b + 8 → ∀ k ∈ List.range (xq_tx.getD j []).length, xq_FN[(xq_tfq j).2.2.2.2.getD k 0]? = some (Cond.eq (.elem (.field (xq_tm j) "java/lang/String" "value" "[B") (.int (Int32.ofNat k))) (.int ((xq_tx.getD j []).getD k 0))) := by
    intro b hb h1 h2 k hk
    have h3 := List.all_eq_true.mp hb (j - b) (List.mem_range.mpr (by omega))
    rw [show b + (j - b) = j by omega] at h3
    exact of_decide_eq_true (List.all_eq_true.mp h3 k hk)
  rcases Nat.lt_or_ge j 8 with q | q
  · exact key 0 xq_sf40 (by omega) (by omega)
  rcases Nat.lt_or_ge j 16 with q | q
  · exact key 8 xq_sf41 (by omega) (by omega)
  rcases Nat.lt_or_ge j 24 with q | q
  · exact key 16 xq_sf42 (by omega) (by omega)
  · exact key 24 xq_sf43 (by omega) (by omega)
theorem xq_sg1 : Cond.laysStatic "java/lang/String" "COMPACT_STRINGS" "Z" ∈ lw_tbl := List.mem_append_right _ (List.mem_of_getElem? (i := 599) (by decide +kernel))
theorem xq_sg2 : Cond.initialized "java/lang/String" ∈ lw_tbl := List.mem_append_right _ (List.mem_of_getElem? (i := 16) (by decide +kernel))
theorem xq_sg3 : Cond.laysStatic "jdk/internal/util/Preconditions" "SIOOBE_FORMATTER" "Ljava/util/function/BiFunction;" ∈ lw_tbl := List.mem_append_right _ (List.mem_of_getElem? (i := 615) (by decide +kernel))
theorem xq_sg4 : Cond.initialized "jdk/internal/util/Preconditions" ∈ lw_tbl := List.mem_append_right _ (List.mem_of_getElem? (i := 18) (by decide +kernel))
theorem xq_sg5 : Cond.castable "[I" "java/lang/Cloneable" ∈ lw_tbl := List.mem_append_right _ (List.mem_of_getElem? (i := 150) (by decide +kernel))
theorem xq_sg6 : Cond.arrayOver (.object "DomeCalendar$Site") ∈ lw_tbl := List.mem_append_right _ (List.mem_of_getElem? (i := 398) (by decide +kernel))
theorem xq_sg7 : Cond.arrayClass .int ∈ lw_tbl := List.mem_append_right _ (List.mem_of_getElem? (i := 85) (by decide +kernel))
theorem xq_sg8 : Cond.arrayClass .long ∈ lw_tbl := List.mem_append_right _ (List.mem_of_getElem? (i := 390) (by decide +kernel))
theorem xq_sg9 : Cond.eq (.static "java/lang/String" "COMPACT_STRINGS" "Z") (.int 1) ∈ xq_FN ∧ Cond.isRef (.static "jdk/internal/util/Preconditions" "SIOOBE_FORMATTER" "Ljava/util/function/BiFunction;") ∈ xq_FN ∧ Cond.exactly (xq_sn 0) "[I" ∈ xq_FN := by decide +kernel
def xq_nwp : List Nat := [143, 862, 970, 1104, 1185]
def xq_kwp : List Nat := [32, 38, 88, 115, 139, 346, 399, 416, 454, 456, 458]
theorem xq_nwc : xq_nw.map some = xq_nwp.map (fun k => tables_1[k]?) := by decide +kernel
theorem xq_kwc : xq_kw.map some = xq_kwp.map (fun k => tables_1[k]?) := by decide +kernel
theorem xq_inT {l : List Cond} {ps : List Nat} (h : l.map some = ps.map (fun k => tables_1[k]?)) : ∀ w ∈ l, w ∈ lw_tbl := by
  intro w hw
  have h1 : some w ∈ l.map some := List.mem_map.mpr ⟨w, hw, rfl⟩
  rw [h] at h1
  obtain ⟨k, -, hk⟩ := List.mem_map.mp h1
  exact List.mem_append_right _ (List.mem_of_getElem? hk)
theorem xq_gw_tbl : ∀ w ∈ xq_gw, w ∈ lw_tbl := fun w hw => (List.mem_filter.mp hw).1
theorem xq_nwT : ∀ w ∈ xq_nw, w.onTables = true := by
  intro w hw
  obtain ⟨q, -, rfl⟩ := List.mem_map.mp hw
  rfl
theorem xq_kwT : ∀ w ∈ xq_kw, w.onTables = true := by
  intro w hw
  obtain ⟨q, -, rfl⟩ := List.mem_map.mp hw
  rfl
theorem xq_start {p : Program} {s : State} {m : MethodId} {meth : Method} {c : Code} {b L : Nat} {xs : Nat → Int32} (C0 : lw_At p s m meth c b L xs) : ∃ t : xq_Th, t.1 = s.heap.size ∧ t.2.2.2.2.2 6 = b ∧ xq_EE t s ∧ va_K t.2.1 xq_cl (xq_tys t) s := by
  obtain ⟨hx, hb, hr, hml, hown, hts, hX, hbl, hlocks, hgv⟩ := C0
  have hfn : ∀ w ∈ xq_FN, w.before #[Value.ref b] s = true := flat_of_before _ hgv
  have hfq : ∀ {k : Nat} {w : Cond}, xq_FN[k]? = some w → w.before #[Value.ref b] s = true := fun h => hfn _ (List.mem_of_getElem? h)
  have hA : ∀ a : Nat, a < s.heap.size → ¬ (fun q : Nat => s.heap.size ≤ q) a := fun a h => Nat.not_le.mpr h
  -- classes
  have hcls : ∀ k : Nat, ∃ q : ClassId × (Nat → Nat), k < 13 → u_Kn s (xq_cn k) (xq_cd k).2.1 (xq_cd k).2.2 q.1 q.2 := by
    intro k
    by_cases hk : k < 13
    · obtain ⟨c0, iS0, h0⟩ := u_known (C := xq_cn k) (T := (xq_cd k).2.1) (N := (xq_cd k).2.2) hts (fun w hw => xq_gw_tbl _ (xq_cls2 hk w hw)) (hts _ (xq_gw_tbl _ (xq_cls1 hk).2.2.1))
      exact ⟨(c0, iS0), fun _ => h0⟩
    · exact ⟨(0, fun _ => 0), fun h => absurd h hk⟩
  obtain ⟨dd, hdd⟩ := Classical.axiomOfChoice hcls
  -- classes of arrays
  obtain ⟨cI, kI, cmI, i1, i2, i3⟩ := Cond.arrayClass_spec (args := #[Value.ref b]) (first := s) (o := none) (s := s) (idx := []) (hts _ xq_sg7)
  obtain ⟨cL, kL, cmL, l1, l2, l3⟩ := Cond.arrayClass_spec (args := #[Value.ref b]) (first := s) (o := none) (s := s) (idx := []) (hts _ xq_sg8)
  obtain ⟨comp, cS, kS, s1, s2, s3, s4, s5⟩ := Cond.arrayOver_spec (args := #[Value.ref b]) (first := s) (o := none) (s := s) (idx := []) (hts _ xq_sg6)
  -- static arrays
  have hst : ∀ j : Nat, ∃ a : Nat, (j = 6 → a = b) ∧ (j < 6 → va_Z (xq_snl.getD j ("", "")).1 (xq_snl.getD j ("", "")).2 "[I" (.ref a) (fun q : Nat => s.heap.size ≤ q) s s.heap ∧ va_T .int a (xq_sv.getD j []).length (fun i => .int ((xq_sv.getD j []).getD i 0)) (fun q : Nat => s.heap.size ≤ q) s s.heap ∧ (xq_sn j).eval #[Value.ref b] s none [] s = some (.ref a) ∧ (Term.length (xq_sn j)).eval #[Value.ref b] s none [] s = some (.int (Int32.ofNat (xq_sv.getD j []).length))) := by
    intro j
    by_cases hj : j < 6
    · have h1 := List.all_eq_true.mp xq_sf1 j (List.mem_range.mpr hj)
      simp only [Bool.and_eq_true, decide_eq_true_eq, List.all_eq_true] at h1
      have h2 := List.all_eq_true.mp xq_sf2 j (List.mem_range.mpr hj)
      simp only [Bool.and_eq_true, decide_eq_true_eq] at h2
      have hN : (xq_sv.getD j []).length < 2 ^ 31 := by
        have : ∀ j < 6, (xq_sv.getD j []).length < 2 ^ 31 := by decide +kernel
        exact this j hj
      obtain ⟨a, ha, hT⟩ := va_Tof (f := fun i => .int ((xq_sv.getD j []).getD i 0)) (A := fun q : Nat => s.heap.size ≤ q) hN (hfq h1.1.1) (va_eqt (hfq h1.1.2)) (fun k hk => va_eqt (hfq (h1.2 k (List.mem_range.mpr hk)))) hA
      exact ⟨a, fun h6 => by omega, fun _ => ⟨va_Zref (hts _ (List.mem_append_right _ (List.mem_of_getElem? h2.1))) (hts _ (List.mem_append_right _ (List.mem_of_getElem? h2.2))) ha hA, hT, ha, va_eqt (hfq h1.1.2)⟩⟩
    · exact ⟨b, fun _ => rfl, fun h => absurd h hj⟩
  obtain ⟨aT, haT⟩ := Classical.axiomOfChoice hst
  -- literals
  have hlt : ∀ j : Nat, ∃ q : Nat × Nat, j < 32 → (xq_tm j).eval #[Value.ref b] s none [] s = some (.ref q.1) ∧ va_O "java/lang/String" q.1 (fun q : Nat => s.heap.size ≤ q) s s.heap ∧ va_OF "java/lang/String" "coder" "B" (.int 0) q.1 (fun q : Nat => s.heap.size ≤ q) s s.heap ∧ va_OF "java/lang/String" "value" "[B" (.ref q.2) q.1 (fun q : Nat => s.heap.size ≤ q) s s.heap ∧ va_T .byte q.2 (xq_tx.getD j []).length (fun i => .int ((xq_tx.getD j []).getD i 0)) (fun q : Nat => s.heap.size ≤ q) s s.heap := by
    intro j
    by_cases hj : j < 32
    · have h1 := List.all_eq_true.mp xq_sf3 j (List.mem_range.mpr hj)
      simp only [Bool.and_eq_true, decide_eq_true_eq] at h1
      have h2 := xq_sf4 hj
      obtain ⟨⟨⟨g1, g2⟩, g3⟩, g4⟩ := h1
      obtain ⟨a, c9, cA, kA, q1, q2, q3, q4, q5, q6, -⟩ := Cond.exactly_spec (args := #[Value.ref b]) (first := s) (o := none) (s := s) (idx := []) (t := xq_tm j) (cls := "java/lang/String") (hfq g1)
      obtain ⟨u, hu, hT⟩ := va_Tof (f := fun i => .int ((xq_tx.getD j []).getD i 0)) (A := fun q : Nat => s.heap.size ≤ q) (by have := (xq_tx_ok j hj).2; omega) (hfq g3) (va_eqt (hfq g4)) (fun k hk => va_eqt (hfq (h2 k (List.mem_range.mpr hk)))) hA
      exact ⟨(a, u), fun _ => ⟨q1, ⟨cA, q3, q5, by rw [q6]; exact q2, hA a (Array.getElem?_eq_some_iff.mp q3).1⟩, vk_OFof q1 (va_eqt (hfq g2)) hA, vk_OFof q1 hu hA, hT⟩⟩
    · exact ⟨(0, 0), fun h => absurd h hj⟩
  obtain ⟨aS, haS⟩ := Classical.axiomOfChoice hlt
  refine ⟨(s.heap.size, (fun k => (dd k).1, fun k => (dd k).2), (cI, cL, cS), fun j => (aS j).1, fun j => (aS j).2, aT), rfl, (haT 6).1 rfl, ⟨⟨fun j hj => ⟨((haT j).2 hj).1, ((haT j).2 hj).2.1⟩, fun q hq => ?_, fun j hj => (haS j hj).2, fun w hw => va_Nw.of (xq_nwT w hw) (hts _ (xq_inT xq_nwc w hw)), fun w hw => va_Nw.of (xq_kwT w hw) (hts _ (xq_inT xq_kwc w hw)), va_Nw.of rfl (hts _ xq_sg5), va_AO.of (hts _ xq_sg6), va_Zof (hts _ xq_sg1) (hts _ xq_sg2) (va_eqi (hfn _ xq_sg9.1)) hA, va_Zqof (hts _ xq_sg3) (hts _ xq_sg4) (hfn _ xq_sg9.2.1) hA⟩, ?_⟩, ⟨fun k q hq => ?_, fun k q hq => ?_⟩⟩
  · rw [xq_SRe] at hq
    obtain ⟨⟨⟨o, cp, j⟩, k⟩, hq2, e⟩ := List.mem_map.mp hq
    subst e
    obtain ⟨z, hz⟩ := xq_zip_mem xq_sz _ hq2
    have h1 := List.all_eq_true.mp xq_sf5 _ hz
    simp only [Bool.and_eq_true, Bool.or_eq_true, decide_eq_true_eq] at h1
    have hj : j < 32 := by
      have := List.all_eq_true.mp xq_SRc _ hq2
      simpa using this
    have hw : (Cond.stringRef (xq_cn o) cp (xq_txl.getD j "")).before #[Value.ref b] s = true := hts _ (List.mem_append_right _ (List.mem_of_getElem? h1.1))
    have he : (Term.string (xq_cn o) cp).eval #[Value.ref b] s none [] s = some (.ref (aS j).1) := by
      rcases h1.2 with h2 | h2
      · have h3 := (haS j hj).1
        unfold xq_tm at h3
        rw [h2] at h3
        exact h3
      · exact va_eqR (hfq h2) (haS j hj).1
    exact vk_R.of (A := #[Value.ref b]) hw he
  · obtain ⟨a, c9, cA, kA, q1, q2, q3, q4, q5, q6, -⟩ := Cond.exactly_spec (args := #[Value.ref b]) (first := s) (o := none) (s := s) (idx := []) (t := xq_sn 0) (cls := "[I") (hfn _ xq_sg9.2.2)
    have h0 := ((haT 0).2 (by decide)).2.2.1
    cases h0.symm.trans q1
    have hlen := ((haT 0).2 (by decide)).2.2.2
    obtain ⟨cell, g1, g2, g3, g4, g5, g6, g7⟩ := ((haT 0).2 (by decide)).2.1
    cases q3.symm.trans g1
    have hsz : cA.slots.size = 12 := by
      obtain ⟨a2, cell2, r1, r2, r3⟩ := Term.length_spec hlen
      cases q1.symm.trans r1
      obtain ⟨r4, -, -, -⟩ := State.arrayAt?_spec r2
      cases q3.symm.trans r4
      have hlt : cA.slots.size < 2 ^ 31 := by
        simp only [Term.eval, q1, r2, Option.bind_eq_bind, Option.bind_some] at hlen
        by_cases h : cA.slots.size < 2147483648
        · exact h
        · simp [h] at hlen
      have e12 : cA.slots.size.toInt32 = Int32.ofNat 12 := g5
      have := (nI_eq (a := cA.slots.size) (b := 12) hlt (by decide)).mp e12
      exact this
    refine ⟨cA, g1, g3, g2.1, ?_, ?_, hA _ (Array.getElem?_eq_some_iff.mp g1).1⟩
    · rw [q6]
      exact Option.some.inj (q2.symm.trans i1)
    · show cA.slots = (arrV cI 12 (fun j => .int ((xq_sv.getD 0 []).getD j 0))).slots
      apply Array.ext
      · rw [hsz, arrV_size]
      · intro i hi1 hi2
        have h12 : i < 12 := by rw [hsz] at hi1; exact hi1
        have e1 := g6 i h12
        have e2 := arrV_read cI (fun j => Value.int ((xq_sv.getD 0 []).getD j 0)) h12
        rw [Array.getElem?_eq_getElem hi1] at e1
        rw [Array.getElem?_eq_getElem hi2] at e2
        exact (Option.some.inj e1).trans (Option.some.inj e2).symm
  · have hk : k < 13 := (List.getElem?_eq_some_iff.mp hq).1
    rw [xq_cls0 hk] at hq
    cases hq
    exact hdd k hk
  · match k, hq with
    | 0, hq => cases hq; exact ⟨fun n z => ⟨fun k h => (by cases h), kI, i2, cmI, i3⟩, i1⟩
    | 1, hq => cases hq; exact ⟨fun n z => ⟨fun k h => (by cases h), kL, l2, cmL, l3⟩, l1⟩
    | 2, hq => cases hq; exact ⟨fun n z => ⟨fun k h => (by cases h), kS, s3, comp, s4⟩, kS, comp, s3, s4, s1, s5⟩
    | k + 3, hq => simp [xq_tys] at hq
