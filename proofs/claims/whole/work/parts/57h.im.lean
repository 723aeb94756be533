/-! THE IMAGE: what a constructor has made so far -/
def mk (x0 x : xq_S) (M o c sz : Nat) (Ks Rs : List (Nat × Nat)) (Is : List (Nat × Int32)) : Prop := xq_N x = M + Ks.length ∧ xq_Z x = xq_Z x0 + (Ks.map (fun q => q.2)).sum ∧ (∀ a, a < M → ¬ a = o → xq_K x a = xq_K x0 a ∧ xq_R x a = xq_R x0 a ∧ xq_J x a = xq_J x0 a ∧ xq_I x a = xq_I x0 a) ∧ o < M ∧ xq_K x o = (c, sz) ∧ (∀ i, i < Ks.length → xq_K x (M + i) = Ks.getD i (0, 0)) ∧ (∀ q ∈ Rs, xq_R x o q.1 = some (M + q.2)) ∧ ∀ q ∈ Is, xq_I x o q.1 = q.2
section xk_mk2
variable {d m pc : Nat} {x0 x x' : xq_S} {L st : List Value} {Q : Option Value → xq_S → Prop} {M o c sz : Nat} {Ks Rs : List (Nat × Nat)} {Is : List (Nat × Int32)}
theorem mk_0 (hN : xq_N x = M) (ho : o < M) (hK : xq_K x o = (c, sz)) : mk x x M o c sz [] [] [] := ⟨hN, rfl, fun _ _ _ => ⟨rfl, rfl, rfl, rfl⟩, ho, hK, fun i hi => absurd hi (by simp), fun q hq => absurd hq (by simp), fun q hq => absurd hq (by simp)⟩
theorem mk_new {c' n : Nat} (h : mk x0 x M o c sz Ks Rs Is) (h1 : xq_N x' = xq_N x + 1) (h2 : xq_Z x' = xq_Z x + n) (h3 : frC x x' (xq_N x)) (h4 : xq_K x' (xq_N x) = (c', n)) : mk x0 x' M o c sz (Ks ++ [(c', n)]) Rs Is := by
  obtain ⟨a1, a2, a3, a4, a5, a6, a7, a8⟩ := h
  have fo := h3 o (by omega)
  refine ⟨by rw [h1, a1, List.length_append]; rfl, by rw [h2, a2, List.map_append, List.sum_append]; simp [Nat.add_assoc], fun a b1 b2 => ?_, a4, fo.1.trans a5, fun i hi => ?_, fun q hq => by rw [fo.2.1]; exact a7 q hq, fun q hq => by rw [fo.2.2.2]; exact a8 q hq⟩
  · obtain ⟨f1, f2, f3, f4⟩ := h3 a (by omega)
    obtain ⟨e1, e2, e3, e4⟩ := a3 a b1 b2
    exact ⟨f1.trans e1, f2.trans e2, f3.trans e3, f4.trans e4⟩
  · rw [List.length_append] at hi
    have hi : i < Ks.length + 1 := hi
    by_cases e : i = Ks.length
    · subst e
      rw [← a1, h4, List.getD_eq_getElem?_getD, List.getElem?_append_right (Nat.le_refl _), Nat.sub_self]; rfl
    · rw [(h3 (M + i) (by omega)).1, a6 i (by omega), List.getD_eq_getElem?_getD, List.getD_eq_getElem?_getD, List.getElem?_append_left (by omega)]
theorem mk_I {len a b z n : Nat} (h : mk x0 x M o c sz Ks Rs Is) (hc : xq_code m pc = some (.newarray .int, len, a, b, z)) (hn : n ≤ 1000000) (hM : M + Ks.length < 100000) (g : ∀ x' : xq_S, mk x0 x' M o c sz (Ks ++ [(100, n)]) Rs Is → xq_wp d m x' (pc + 2) L (.ref (M + Ks.length) :: st) Q) : xq_wp d m x pc L (.int (nI n) :: st) Q := by
  refine xq_wp.mkI hc hn (by rw [h.1]; exact hM) (fun x' h1 h2 h3 h4 _ => ?_)
  have := g x' (mk_new h h1 h2 h3 h4)
  rw [← h.1] at this
  exact this
theorem mk_R {i0 len k z t : Nat} (h : mk x0 x M o c sz Ks Rs Is) (hc : xq_code m pc = some (.putfield i0, len, c, k, z)) (hs : k < sz) (hf : xq_ft c k = 2) (hM : M + t < 1000000) (hk : ∀ q ∈ Rs, ¬ q.1 = k) (g : ∀ x' : xq_S, mk x0 x' M o c sz Ks ((k, t) :: Rs) Is → xq_wp d m x' (pc + 3) L st Q) : xq_wp d m x pc L (.ref (M + t) :: .ref o :: st) Q := by
  obtain ⟨a1, a2, a3, a4, a5, a6, a7, a8⟩ := h
  refine xq_wp.pfR hc (by omega) hM a5 hs hf (fun x' h1 h2 h3 h4 h5 h6 h7 h8 => g x' ⟨h1.trans a1, h2.trans a2, fun a b1 b2 => ?_, a4, h4.trans a5, fun i hi => ?_, fun q hq => ?_, fun q hq => by rw [h6]; exact a8 q hq⟩)
  · obtain ⟨f1, f2, f3, f4⟩ := h3 a b2
    obtain ⟨e1, e2, e3, e4⟩ := a3 a b1 b2
    exact ⟨f1.trans e1, f2.trans e2, f3.trans e3, f4.trans e4⟩
  · rw [(h3 (M + i) (by omega)).1]; exact a6 i hi
  · rcases List.mem_cons.mp hq with e | e
    · subst e; exact h8
    · rw [h7 q.1 (hk q e)]; exact a7 q e
theorem mk_F {i0 len k z : Nat} {v : Int32} (h : mk x0 x M o c sz Ks Rs Is) (hc : xq_code m pc = some (.putfield i0, len, c, k, z)) (hs : k < sz) (hf : xq_ft c k = 0) (hk : ∀ q ∈ Is, ¬ q.1 = k) (g : ∀ x' : xq_S, mk x0 x' M o c sz Ks Rs ((k, v) :: Is) → xq_wp d m x' (pc + 3) L st Q) : xq_wp d m x pc L (.int v :: .ref o :: st) Q := by
  obtain ⟨a1, a2, a3, a4, a5, a6, a7, a8⟩ := h
  refine xq_wp.pfI hc (by omega) a5 hs hf (fun I' b1 b2 b3 => g (x.1, x.2.1, I') ⟨a1, a2, fun a c1 c2 => ?_, a4, a5, a6, a7, fun q hq => ?_⟩)
  · obtain ⟨e1, e2, e3, e4⟩ := a3 a c1 c2
    exact ⟨e1, e2, e3, (b1 a c2).trans e4⟩
  · rcases List.mem_cons.mp hq with e | e
    · subst e; exact b3
    · exact (b2 q.1 (hk q e)).trans (a8 q e)
/-- the plan's constructor -/
theorem cn_4 (hN : xq_N x = M) (hM : M < 1000) (ho : o < M) (hK : xq_K x o = (4, 4)) (hp : ∀ x', mk x x' M o 4 4 [(100, 100), (100, 100), (100, 100)] [(3, 2), (2, 1), (1, 0)] [(0, nI 0)] → Q none x') : xq_wp d 4 x 0 [.ref o] [] Q := by
  refine xq_wp.go (k := 4) (x' := x) (pc' := 6) (L' := [.ref o]) (st' := [.int (nI 0), .ref o]) (fun F => rfl) ?_
  refine mk_F (mk_0 hN ho hK) rfl (by decide) rfl (fun q hq => absurd hq (by simp)) (fun x1 h1 => ?_)
  refine xq_wp.go (k := 2) (x' := x1) (pc' := 12) (L' := [.ref o]) (st' := [.int (nI 100), .ref o]) (fun F => rfl) ?_
  refine mk_I h1 rfl (by decide) (by simp; omega) (fun x2 h2 => ?_)
  refine mk_R h2 rfl (by decide) rfl (by simp; omega) (by simp) (fun x3 h3 => ?_)
  refine xq_wp.go (k := 2) (x' := x3) (pc' := 20) (L' := [.ref o]) (st' := [.int (nI 100), .ref o]) (fun F => rfl) ?_
  refine mk_I h3 rfl (by decide) (by simp; omega) (fun x4 h4 => ?_)
  refine mk_R h4 rfl (by decide) rfl (by simp; omega) (by simp) (fun x5 h5 => ?_)
  refine xq_wp.go (k := 2) (x' := x5) (pc' := 28) (L' := [.ref o]) (st' := [.int (nI 100), .ref o]) (fun F => rfl) ?_
  refine mk_I h5 rfl (by decide) (by simp; omega) (fun x6 h6 => ?_)
  refine mk_R h6 rfl (by decide) rfl (by simp; omega) (by simp) (fun x7 h7 => ?_)
  exact xq_wp.ret (k := 1) (fun F => rfl) (hp x7 h7)
end xk_mk2
