/-! THE IMAGE: a yard is made -/
def YK : List (Nat × Nat) := [(10, 5), (1, 8), (100, 14), (100, 14), (100, 14), (100, 14), (100, 8), (100, 8), (2, 6), (100, 400), (100, 16), (100, 40), (100, 8), (4, 4), (100, 100), (100, 100), (100, 100), (6, 15), (100, 12), (100, 4), (100, 14), (100, 14), (100, 14), (100, 14), (100, 14), (100, 70), (0, 6), (100, 200), (100, 200), (100, 200), (100, 200)]
def ys (x0 x : xq_S) (N k z : Nat) (Rl : List (Nat × Nat × Nat)) : Prop := xq_N x = N + k ∧ xq_Z x = xq_Z x0 + z ∧ (∀ a, a < N → xq_K x a = xq_K x0 a ∧ xq_R x a = xq_R x0 a ∧ xq_J x a = xq_J x0 a ∧ xq_I x a = xq_I x0 a) ∧ (∀ i, i < k → xq_K x (N + i) = YK.getD i (0, 0)) ∧ ∀ r ∈ Rl, r.1 < k ∧ xq_R x (N + r.1) r.2.1 = some (N + r.2.2)
section xk_ys
variable {d m pc : Nat} {x0 x x' : xq_S} {L st : List Value} {Q : Option Value → xq_S → Prop} {N k z : Nat} {Rl : List (Nat × Nat × Nat)}
theorem ys_new {c n : Nat} (h : ys x0 x N k z Rl) (hk : YK.getD k (0, 0) = (c, n)) (h1 : xq_N x' = xq_N x + 1) (h2 : xq_Z x' = xq_Z x + n) (h3 : frC x x' (xq_N x)) (h4 : xq_K x' (xq_N x) = (c, n)) : ys x0 x' N (k + 1) (z + n) Rl := by
  obtain ⟨a1, a2, a3, a4, a5⟩ := h
  refine ⟨by omega, by omega, fun a ha => ?_, fun i hi => ?_, fun r hr => ?_⟩
  · obtain ⟨f1, f2, f3, f4⟩ := h3 a (by omega)
    obtain ⟨e1, e2, e3, e4⟩ := a3 a ha
    exact ⟨f1.trans e1, f2.trans e2, f3.trans e3, f4.trans e4⟩
  · by_cases e : i = k
    · subst e; rw [← a1, h4, hk]
    · rw [(h3 (N + i) (by omega)).1]; exact a4 i (by omega)
  · obtain ⟨b1, b2⟩ := a5 r hr
    exact ⟨by omega, by rw [(h3 (N + r.1) (by omega)).2.1]; exact b2⟩
theorem ys_con {i c sz : Nat} {Ks Rs : List (Nat × Nat)} {Is : List (Nat × Int32)} (h : ys x0 x N k z Rl) (hm : mk x x' (N + k) (N + i) c sz Ks Rs Is) (hi : i < k) (hno : ∀ r ∈ Rl, ¬ r.1 = i) (hKs : ∀ t, t < Ks.length → Ks.getD t (0, 0) = YK.getD (k + t) (0, 0)) (hc : YK.getD i (0, 0) = (c, sz)) : ys x0 x' N (k + Ks.length) (z + (Ks.map (fun q => q.2)).sum) (Rs.map (fun q => (i, q.1, k + q.2)) ++ Rl) := by
  obtain ⟨a1, a2, a3, a4, a5⟩ := h
  obtain ⟨m1, m2, m3, m4, m5, m6, m7, m8⟩ := hm
  refine ⟨by omega, by omega, fun a ha => ?_, fun j hj => ?_, fun r hr => ?_⟩
  · obtain ⟨f1, f2, f3, f4⟩ := m3 a (by omega) (by omega)
    obtain ⟨e1, e2, e3, e4⟩ := a3 a ha
    exact ⟨f1.trans e1, f2.trans e2, f3.trans e3, f4.trans e4⟩
  · by_cases e : j = i
    · subst e; rw [m5, hc]
    · by_cases e2 : j < k
      · rw [(m3 (N + j) (by omega) (by omega)).1]; exact a4 j e2
      · have := m6 (j - k) (by omega)
        rw [show N + k + (j - k) = N + j by omega, hKs _ (by omega), show k + (j - k) = j by omega] at this
        exact this
  · rcases List.mem_append.mp hr with q | q
    · obtain ⟨p, hp, ep⟩ := List.mem_map.mp q
      subst ep
      refine ⟨by show i < k + Ks.length; omega, ?_⟩
      show xq_R x' (N + i) p.1 = some (N + (k + p.2))
      rw [m7 p hp, Nat.add_assoc]
    · obtain ⟨b1, b2⟩ := a5 r q
      have := hno r q
      exact ⟨by omega, by rw [(m3 (N + r.1) (by omega) (by omega)).2.1]; exact b2⟩
theorem ys_put {i0 len w j t : Nat} (h : ys x0 x N k z Rl) (hk : 0 < k) (hc : xq_code m pc = some (.putfield i0, len, 10, j, w)) (hs : j < 5) (hf : xq_ft 10 j = 2) (hM : N + t < 1000000) (hj : ∀ r ∈ Rl, r.1 = 0 → ¬ r.2.1 = j) (g : ∀ x' : xq_S, ys x0 x' N k z ((0, j, t) :: Rl) → (∀ a, ¬ a = N → xq_I x' a = xq_I x a) → xq_wp d m x' (pc + 3) L st Q) : xq_wp d m x pc L (.ref (N + t) :: .ref N :: st) Q := by
  obtain ⟨a1, a2, a3, a4, a5⟩ := h
  refine xq_wp.pfR hc (by omega) hM (a4 0 hk) hs hf (fun x' h1 h2 h3 h4 h5 h6 h7 h8 => g x' ⟨h1.trans a1, h2.trans a2, fun a ha => ?_, fun i hi => ?_, fun r hr => ?_⟩ (fun a ha => (h3 a ha).2.2.2))
  · obtain ⟨f1, f2, f3, f4⟩ := h3 a (by omega)
    obtain ⟨e1, e2, e3, e4⟩ := a3 a ha
    exact ⟨f1.trans e1, f2.trans e2, f3.trans e3, f4.trans e4⟩
  · by_cases e : i = 0
    · subst e; exact h4.trans (a4 0 hi)
    · rw [(h3 (N + i) (by omega)).1]; exact a4 i hi
  · rcases List.mem_cons.mp hr with e | e
    · subst e; exact ⟨hk, h8⟩
    · obtain ⟨b1, b2⟩ := a5 r e
      refine ⟨b1, ?_⟩
      by_cases e0 : r.1 = 0
      · rw [e0] at b2 ⊢
        exact (h7 r.2.1 (hj r e e0)).trans b2
      · rw [(h3 (N + r.1) (by omega)).2.1]; exact b2
end xk_ys
