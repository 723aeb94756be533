/-! what can be undone: snapshots -/
def snp (n ns : Nat) (I R : Nat → xw) (V : xw) : Prop := okS n ns V ∧ w9 V ∧ cGb n I V ∧ cSt n R V
/-- the ring of the past: c of its places count, r is next; K: the model's row -/
def ring (n ns : Nat) (I : Nat → xw) (K W : xw) (c : Nat) : Prop := ∃ r, r < 5 ∧ I 56 3 = nI c ∧ I 56 2 = nI r ∧ ∀ j, j < c → snp n ns I (fun i => I (59 + 9 * ((r + 5 - c + j) % 5) + i)) (fun p => K (250 * j + p)) ∧ K (250 * j + 6) = I 58 ((r + 5 - c + j) % 5) ∧ sp_ix K (250 * j + 6) ≤ sp_ix W 6 ∧ ∀ i, i < j → sp_ix K (250 * i + 6) ≤ sp_ix K (250 * j + 6)
section xk_sn
variable {n ns c : Nat} {I I' R R' : Nat → xw} {V V' W W' K K' : xw}
theorem okS_ext (h : okS n ns V) (e : ∀ p, p < 250 → V' p = V p) : okS n ns V' := by
  obtain ⟨a1, ab, a2, a3, a4, a5, a6, a7, a8⟩ := h
  have n14 := a1.2.1
  exact ⟨ok1_fr a1 (e _ (by omega)) (e _ (by omega)), okb_fr ab (e _ (by omega)), ok2_fr a2 (e _ (by omega)), ok3_fr a3 (fun i hi => e _ (by omega)), ok4_fr a4 (fun b hb => e _ (by omega)), ok5_fr a5 (fun b hb => ⟨e _ (by omega), e _ (by omega)⟩), ok6_fr a6 (fun i hi => e _ (by omega)), ok7_fr a7 (fun i hi => e _ (by omega)), ok8_fr a8 (fun b k hb hk => e _ (by omega))⟩
theorem cSt_V (hn : n ≤ 14) (h : cSt n R V) (e : ∀ p, p < 250 → V' p = V p) : cSt n R V' := by
  obtain ⟨g4, g5, g6, g7, g8, g9, g10, g11, g13, g14⟩ := h
  have e4 : ∀ x, 0 ≤ x → x < 0 + n → (V' (50 + 14 * x + 4) = nI 4 ↔ V (50 + 14 * x + 4) = nI 4) := fun x _ hx => by rw [e _ (by omega)]
  have ew : ∀ x, x < 0 + n → sp_wei V' x = sp_wei V x := fun x hx => by unfold sp_wei; rw [e _ (by omega), e _ (by omega)]
  refine ⟨⟨?_, ?_, ?_, ?_, ?_⟩, fun i hi => ?_, fun i hi => ?_, fun i hi => ?_, fun b hb => ?_, fun b hb z => ?_, fun b hb => ?_, fun hq b k hb hk => ?_, ⟨?_, ?_⟩, ?_⟩
  · rw [e _ (by omega)]; exact g4.1
  · rw [e _ (by omega)]; exact g4.2.1
  · rw [e _ (by omega)]; exact g4.2.2.1
  · rw [e _ (by omega)]; exact g4.2.2.2.1
  · rw [e _ (by omega)]; exact g4.2.2.2.2
  · rw [e _ (by omega)]; exact g5 i hi
  · rw [e _ (by omega)]; exact g6 i hi
  · rw [e _ (by omega)]; exact g7 i hi
  · rw [e _ (by omega)]; exact g8 b hb
  · rw [e _ (by omega)] at z
    rw [e _ (by omega), e _ (by omega)]; exact g9 b hb z
  · rw [e _ (by omega)]; exact g10 b hb
  · rw [e _ (by omega)]; exact g11 hq b k hb hk
  · rw [sp_lset_cg n 0 _ e4]; exact g13.1
  · rw [sp_lean_cg n 0 _ (fun x h1 h2 => ⟨e4 x h1 h2, ew x h2⟩)]; exact g13.2
  · unfold cS at g14 ⊢
    rw [e _ (by omega), sp_lmany_cg n 0 _ e4]; exact g14
theorem cGb_V (hn : n ≤ 14) (h : cGb n I V) (e : ∀ p, p < 250 → V' p = V p) : cGb n I V' := by
  obtain ⟨h1, h2, h3⟩ := h
  refine ⟨h1.trans (e _ (by omega)).symm, h2.trans (e _ (by omega)).symm, fun b hb => ?_⟩
  rw [e _ (by omega), e _ (by omega), e _ (by omega), e _ (by omega)]
  exact h3 b hb
theorem snp_V (h : snp n ns I R V) (e : ∀ p, p < 250 → V' p = V p) : snp n ns I R V' := by
  obtain ⟨h1, h2, h3, h4⟩ := h
  exact ⟨okS_ext h1 e, w9_fr h2 (e _ (by omega)), cGb_V h1.1.2.1 h3 e, cSt_V h1.1.2.1 h4 e⟩
theorem snp_fr (h : snp n ns I R V) (eG : ∀ a, 2 ≤ a ∧ a < 7 → I' a = I a) (eR : ∀ i, i < 9 → R' i = R i) : snp n ns I' R' V := by
  obtain ⟨h1, h2, h3, h4⟩ := h
  refine ⟨h1, h2, ?_, cSt_ext h4 h1.1.2.1 (fun j _ _ => congrFun (eR 0 (by omega)) j) (fun j _ => congrFun (eR 1 (by omega)) j) (fun j _ => congrFun (eR 2 (by omega)) j) (fun i j i1 i2 _ => congrFun (eR i (by omega)) j) (fun j _ => congrFun (eR 8 (by omega)) j)⟩
  unfold cGb at h3 ⊢
  rw [eG 2 (by omega), eG 3 (by omega), eG 4 (by omega), eG 5 (by omega), eG 6 (by omega)]
  exact h3
theorem ring_iv (hn : c ≤ 5) (h : ring n ns I (I 129) (I 127) c) (e : I 126 4 = nI c) : ivH n ns I := by
  obtain ⟨r, h1, h2, h3, h4⟩ := h
  exact ⟨c, r, hn, h1, e, h2, h3, fun j hj => ⟨(h4 j hj).1.1, (h4 j hj).1.2.1, (h4 j hj).1.2.2.1, (h4 j hj).1.2.2.2, (h4 j hj).2.1, (h4 j hj).2.2⟩⟩
theorem iv_ring (h : ivH n ns I) : ∃ c, c ≤ 5 ∧ I 126 4 = nI c ∧ ring n ns I (I 129) (I 127) c := by
  obtain ⟨c, r, h1, h2, h3, h4, h5, h6⟩ := h
  exact ⟨c, h1, h3, r, h2, h4, h5, fun j hj => ⟨⟨(h6 j hj).1, (h6 j hj).2.1, (h6 j hj).2.2.1, (h6 j hj).2.2.2.1⟩, (h6 j hj).2.2.2.2.1, (h6 j hj).2.2.2.2.2⟩⟩
theorem ring_fr (h : ring n ns I K W c) (e : ∀ a, (2 ≤ a ∧ a < 7) ∨ a = 56 ∨ (58 ≤ a ∧ a < 104) → I' a = I a) (e6 : sp_ix W 6 ≤ sp_ix W' 6) : ring n ns I' K W' c := by
  obtain ⟨r, h1, h2, h3, h4⟩ := h
  refine ⟨r, h1, by rw [e 56 (by omega)]; exact h2, by rw [e 56 (by omega)]; exact h3, fun j hj => ?_⟩
  obtain ⟨q1, q2, q3, q4⟩ := h4 j hj
  have hm : (r + 5 - c + j) % 5 < 5 := Nat.mod_lt _ (by omega)
  refine ⟨snp_fr q1 (fun a ha => e a (by omega)) (fun i hi => e _ (by omega)), by rw [e 58 (by omega)]; exact q2, by omega, q4⟩
/-- the model's row of the past once a week is kept -/
def kpK (c : Nat) (K W : xw) : xw := fun p => if 250 * (min 4 c) ≤ p ∧ p < 250 * (min 4 c) + 250 then W (p - 250 * (min 4 c)) else if c = 5 ∧ p < 1000 then K (p + 250) else K p
theorem ok_S (h : ok n ns W) : okS n ns W := ⟨h.1, h.2.1, h.2.2.1, h.2.2.2.1, h.2.2.2.2.1, h.2.2.2.2.2.1, h.2.2.2.2.2.2.1, h.2.2.2.2.2.2.2.1, h.2.2.2.2.2.2.2.2.1⟩
theorem cG_b (h : cG n ns I W) : cGb n I W := ⟨h.1, h.2.1, h.2.2.1⟩
theorem ring_keep (hc : c ≤ 5) (h : ring n ns I K W c) (ho : ok n ns W) (hw : w9 W) (hC : CR true n ns I (xcR true I) W) {r : Nat} (hr : r < 5) (er : I 56 2 = nI r) (e3 : I' 56 3 = nI (min 5 (c + 1))) (e2 : I' 56 2 = nI ((r + 1) % 5)) (eG : ∀ a, 2 ≤ a ∧ a < 7 → I' a = I a) (el : I' 58 r = W 6) (eo : ∀ j, j < 5 → ¬ j = r → I' 58 j = I 58 j ∧ ∀ i, i < 9 → I' (59 + 9 * j + i) = I (59 + 9 * j + i)) (eS : cSt n (fun i => I' (59 + 9 * r + i)) W) : ring n ns I' (kpK c K W) W (min 5 (c + 1)) := by
  obtain ⟨r', h1, h2, h3, h4⟩ := h
  have : r' = r := (xn_eq (by omega) (by omega)).mp (h3.symm.trans er)
  subst this
  have hs : ∃ sh, (c < 5 → sh = 0) ∧ (c = 5 → sh = 1) ∧ ∀ i p, i < min 4 c → p < 250 → kpK c K W (250 * i + p) = K (250 * (i + sh) + p) := by
    by_cases e5 : c = 5
    · refine ⟨1, by omega, fun _ => rfl, fun i p hi hp => ?_⟩
      unfold kpK
      rw [if_neg (by omega), if_pos (by omega)]
      congr 1; omega
    · refine ⟨0, fun _ => rfl, by omega, fun i p hi hp => ?_⟩
      unfold kpK
      rw [if_neg (by omega), if_neg (by omega)]
      congr 1
  obtain ⟨sh, s0, s1, hk⟩ := hs
  have hk6 : ∀ i, i < min 4 c → sp_ix (kpK c K W) (250 * i + 6) = sp_ix K (250 * (i + sh) + 6) := fun i hi => by unfold sp_ix; rw [hk i 6 hi (by omega)]
  refine ⟨(r' + 1) % 5, Nat.mod_lt _ (by omega), e3, e2, fun j hj => ?_⟩
  by_cases ej : j = min 4 c
  · have ix : ((r' + 1) % 5 + 5 - min 5 (c + 1) + j) % 5 = r' := by omega
    rw [ix]
    have ek : ∀ p, p < 250 → kpK c K W (250 * j + p) = W p := fun p hp => by
      unfold kpK
      rw [if_pos (by omega)]
      congr 1; omega
    have ek6 : sp_ix (kpK c K W) (250 * j + 6) = sp_ix W 6 := by unfold sp_ix; rw [ek 6 (by omega)]
    refine ⟨snp_V (V := W) ⟨ok_S ho, hw, ?_, eS⟩ ek, (ek 6 (by omega)).trans el.symm, by rw [ek6]; exact Nat.le_refl _, fun i hi => ?_⟩
    · have := cG_b (CR_G hC)
      unfold cGb at this ⊢
      rw [eG 2 (by omega), eG 3 (by omega), eG 4 (by omega), eG 5 (by omega), eG 6 (by omega)]
      exact this
    · rw [ek6, hk6 i (by omega)]
      exact (h4 (i + sh) (by omega)).2.2.1
  · have hj4 : j < min 4 c := by omega
    have ht : j + sh < c := by omega
    have ix : ((r' + 1) % 5 + 5 - min 5 (c + 1) + j) % 5 = (r' + 5 - c + (j + sh)) % 5 := by omega
    have nr : ¬ (r' + 5 - c + (j + sh)) % 5 = r' := by omega
    rw [ix]
    have hm : (r' + 5 - c + (j + sh)) % 5 < 5 := Nat.mod_lt _ (by omega)
    obtain ⟨q1, q2, q3, q4⟩ := h4 (j + sh) ht
    generalize (r' + 5 - c + (j + sh)) % 5 = ρ at *
    obtain ⟨o1, o2⟩ := eo ρ hm nr
    refine ⟨snp_V (V := fun p => K (250 * (j + sh) + p)) (snp_fr q1 eG o2) (fun p hp => hk j p hj4 hp), by rw [hk j 6 hj4 (by omega), q2, o1], by rw [hk6 j hj4]; exact q3, fun i hi => ?_⟩
    rw [hk6 j hj4, hk6 i (by omega)]
    exact q4 (i + sh) (by omega)
end xk_sn
