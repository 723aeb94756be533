/-! text: what holds behind it -/
section xk_nw
variable {g : xq_V} {J : Nat → Nat → Int64} {I X Y F : Nat → xw} {n ns n0 ns0 : Nat} {W V U : xw}
/-- the parts of iv that a text leaves alone -/
theorem iv_tx (hi : iv g I) (hA : ivA n ns F) (hP : ivP F) (hH : ivH n ns F) (e : ∀ a, a = 32 ∨ a = 46 ∨ a = 47 ∨ a = 128 ∨ 143 ≤ a → F a = I a) (e5 : F 126 5 = I 126 5) (e34 : F 34 4 = nI 0) (e1 : F 104 1 = nI 0) (e18 : F 126 18 = nI 0) (e8 : F 104 8 = F 126 25) (e9 : F 104 9 = F 126 27) : iv g F := by
  obtain ⟨m, ms, _, hT, _, _, _, _, hK, hJ⟩ := hi
  refine ⟨n, ns, hA, ivT_fr hT (fun j _ => by rw [e 46 (by omega)]) (fun j _ => by rw [e 47 (by omega)]), hP, ⟨⟨0, by omega, e1, e18, fun i hi => by omega⟩, e8, e9⟩, Or.inl e34, hH, ivK_fr2 hK (e 128 (by omega)) (fun a ha => e a (by omega)) e5 (by rw [e 32 (by omega)]), hJ⟩
theorem lset_n (h : ∀ b, b < n → V (50 + 14 * b + 4) = nI 0) : ∀ c b, b + c = n → sp_lset V c b (nI 0) = nI 0 ∧ sp_lmany V c b (nI 0) = nI 0 ∧ sp_lean V c b (nI 0) = nI 0 := by
  intro c
  induction c with
  | zero => intro b _; exact ⟨rfl, rfl, rfl⟩
  | succ c ih =>
    intro b hb
    have z : ¬ V (50 + 14 * b + 4) = nI 4 := by rw [h b (by omega)]; decide
    have := ih (b + 1) (by omega)
    simp only [sp_lset, sp_lmany, sp_lean]
    rw [if_neg z, if_neg z, if_neg z, show nI 0 ||| nI 0 = nI 0 by decide, show nI 0 + nI 0 = nI 0 by decide]
    exact this
/-- a block of a new start -/
def blN (V : xw) (b : Nat) : Prop := V (30 + b) = nI b ∧ (∃ k, 1 ≤ k ∧ k ≤ 20 ∧ V (50 + 14 * b + 0) = nI k) ∧ (V (50 + 14 * b + 2) = nI 0 ∨ V (50 + 14 * b + 2) = nI 1) ∧ (∃ m, m < 2 ^ b ∧ V (50 + 14 * b + 3) = nI m) ∧ (∃ v, v < 4 ∧ V (50 + 14 * b + 12) = nI v ∧ V (50 + 14 * b + 1) = nI v) ∧ ∀ k, 4 ≤ k → k < 12 → V (50 + 14 * b + k) = nI 0
theorem new_ok (ho : ok n0 ns0 W) (hn : n ≤ 14) (hs : ns ≤ 8) (v0 : V 0 = nI n) (v1 : V 1 = nI ns) (v2 : V 2 = nI 0) (v6 : V 6 = nI 0) (bl : ∀ b, b < n → blN V b) (st : ok9 ns V) (e : ∀ p, (7 ≤ p ∧ p < 30) ∨ 1075 ≤ p → V p = W p) : ok n ns V ∧ w9 V ∧ bkw V := by
  obtain ⟨_, _, _, _, _, _, h6, h7, _, _, hl⟩ := ho
  refine ⟨⟨⟨v0, hn, v1, hs⟩, ⟨0, by omega, v6⟩, ⟨0, by omega, v2⟩, ⟨fun i hi => ⟨i, hi, (bl i hi).1⟩, fun i j hi hj z => ?_⟩, fun b hb => ?_, fun b hb => ⟨0, by omega, (bl b hb).2.2.2.2.2 4 (by omega) (by omega), fun z => by omega⟩, fun i hi => ?_, fun i hi => ?_, fun b hb => ⟨(bl b hb).2.1, (bl b hb).2.2.1, (bl b hb).2.2.2.1, ?_⟩, st, sp_law_fr hl (fun p p1 p2 => e p (by omega))⟩, ⟨0, by omega, v2⟩, fun i hi => ?_⟩
  · rw [(bl i hi).1, (bl j hj).1] at z
    exact (xn_eq (by omega) (by omega)).1 z
  · obtain ⟨v, h1, h2, h3⟩ := (bl b hb).2.2.2.2.1
    exact ⟨v, h1, h3⟩
  · rw [e _ (by omega)]; exact h6 i hi
  · rw [e _ (by omega)]; exact h7 i hi
  · obtain ⟨v, h1, h2, h3⟩ := (bl b hb).2.2.2.2.1
    exact ⟨v, h1, h2⟩
  · have : sp_ix V 6 = 0 := xk_ix v6 (by omega)
    omega
theorem new_CR (ho : ok n0 ns0 W) (hC : CR true n0 ns0 I (xcR true I) W) (hn : n ≤ 14) (v2 : V 2 = nI 0 ∧ V 3 = nI 0 ∧ V 4 = nI 0 ∧ V 5 = Int32.ofInt (-1) ∧ V 6 = nI 0) (bl : ∀ b, b < n → blN V b) (e : ∀ p, (7 ≤ p ∧ p < 30) ∨ 1075 ≤ p → V p = W p) (hG : cG n ns X V) (hX : gPost I Y X) (hv : ∀ b, b < n → Y 112 b = V (50 + 14 * b + 1)) : CR true n ns X (xcR true X) V := by
  obtain ⟨x1, _, ⟨x3, x9, x10, x11, x12, x13, x14⟩, x4, x5, x6, _⟩ := hX
  obtain ⟨w2, w3, w4, w5, w6⟩ := v2
  have o : ∀ a, a = 9 ∨ a = 10 ∨ a = 11 ∨ a = 19 ∨ a = 20 ∨ a = 32 → X a = I a := fun a ha => x1 a (by omega) (by omega) (by omega) (by omega) (by omega) (by omega) (by omega) (by omega)
  have z4 : ∀ b, b < n → V (50 + 14 * b + 4) = nI 0 := fun b hb => (bl b hb).2.2.2.2.2 4 (by omega) (by omega)
  have l0 := lset_n z4 n 0 (by omega)
  have c0 := CR_0 hC
  refine CR_mk hG ?_ ?_ ⟨⟨?_, ?_, ?_, ?_, ?_⟩, fun i hi => ?_, fun i hi => ?_, fun i hi => ?_, fun b hb => ?_, fun b hb z => ?_, fun b hb => ?_, fun _ b k hb hk => ?_, ⟨?_, ?_⟩, ?_⟩ ⟨fun _ => ⟨?_, ?_, fun i hi => ?_⟩, fun z => absurd z (by decide)⟩
  · rw [o 9 (by omega), o 10 (by omega), o 11 (by omega)]
    exact cLaw_fr ho.2.2.2.2.2.2.2.2.2.2 (CR_law hC) (fun p p1 p2 => e p (by omega))
  · show X 32 4 = nI 1
    rw [o 32 (by omega)]; exact CR_real hC
  · show X 18 10 = V 2
    rw [x10, w2]
  · show X 18 9 = V 3
    rw [x9, w3]
  · show X 18 11 = V 4
    rw [x11, w4]
  · show X 18 12 = V 5
    rw [x12, w5]
  · show X 18 8 = V 7
    rw [x3 8 (by omega), e 7 (by omega)]; exact c0.2.2.2.2
  · show X 19 i = V (10 + i)
    rw [o 19 (by omega), e _ (by omega)]; exact CR_1 hC i hi
  · show X 20 i = V (24 + i)
    rw [o 20 (by omega), e _ (by omega)]; exact CR_2 hC i hi
  · show X 21 i = V (30 + i)
    rw [(x4 i (by omega)).1, (bl i hi).1]
  · show X 22 b = V (50 + 14 * b + 4)
    rw [(x4 b (by omega)).2.1, z4 b hb]
  · rw [z4 b hb] at z; exact absurd z (by decide)
  · show X 25 b = V (50 + 14 * b + 1)
    rw [(x4 b (by omega)).2.2]; exact hv b hb
  · show X 26 (b * 5 + k) = V (50 + 14 * b + (7 + k))
    rw [x5 _ (by omega)]; exact ((bl b hb).2.2.2.2.2 (7 + k) (by omega) (by omega)).symm
  · show X 18 13 = _
    rw [x13]; exact l0.1.symm
  · show X 18 14 = _
    rw [x14]; exact l0.2.2.symm
  · exact ⟨fun _ => l0.2.1, fun _ => w5⟩
  · show X 27 0 = nI 200
    rw [x6.2]; exact ((CR_B hC).1 rfl).1
  · show X 27 1 = V 6
    rw [x6.1, w6]
  · have : sp_ix V 6 = 0 := xk_ix w6 (by omega)
    omega
end xk_nw
