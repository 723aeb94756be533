/-! text: what the model needs of a token -/
section xk_ml
variable {d : Nat} {g : xq_V} {J : Nat → Nat → Int64} {I : Nat → xw} {Q : Option Value → xq_S → Prop} {r t i K lo hi_ : Nat} {tc vl ss en : Nat → Nat} {v : Int32}
theorem mT_vl (h : mT r I t tc vl ss en) (k : Nat) : tc k = 2 → vl k ≤ 9999 := by
  intro q
  obtain ⟨l, tp, st, sz, hG, hP, -, rfl, rfl, -⟩ := h
  rw [tcF] at q
  by_cases e : k < t
  · rw [if_pos e] at q
    obtain ⟨a1, a2, a3, a4, a5, -⟩ := hP.1 k e
    have w := wc_r (tp := tp) (s := st k) (z := sz k) hG.1
    have hk : kd (tp (st k)) = 1 ∧ ¬ 4 < sz k := by
      repeat' split at q
      all_goals omega
    rw [hk.1] at a5
    have dl := dc_lt (tp := tp) (fun p hp => kd_1 hp) (s := st k) (sz k) a5
    have p4 : 10 ^ sz k ≤ 10 ^ 4 := Nat.pow_le_pow_right (by omega) (by omega)
    rw [vlF]
    omega
  · rw [if_neg e] at q; omega
theorem xl_191 (hM : mT r I t tc vl ss en) (hK : 0 < K ∧ K < 1000) (hi : i ≤ t) (hp : (tc i = K → ∀ v' : Int32, (tc (i + 1) = 2 → v' = nI (vl (i + 1))) → Q (some (.int (nI 1))) (xq_s g J (ms I (en (i + 1)) (tc (i + 1)) (ss (i + 1)) v'))) ∧ (¬ tc i = K → Q (some (.int (nI 0))) (xq_s g J (ms (xq_w (xq_w I 126 23 (nI 1)) 126 24 (nI (ss i))) (en i) (tc i) (ss i) v)))) : xq_wp (d + 4) 191 (xq_s g J (ms I (en i) (tc i) (ss i) v)) 0 [.ref 126, .int (nI K)] [] Q :=
  tn_191 (d := d) hM (fun k => by have := mT_b hM k; omega) ⟨by omega, fun q => ⟨by omega, hi, hp.1 q⟩, hp.2⟩
theorem xl_195 (hM : mT r I t tc vl ss en) (hlo : lo < 100000) (hi : i ≤ t) (hb : hi_ < 100000) (hv : tc i = 2 → v = nI (vl i)) (hp : (tc i = 2 → ((lo ≤ vl i ∧ vl i ≤ hi_) → ∀ v' : Int32, (tc (i + 1) = 2 → v' = nI (vl (i + 1))) → Q (some (.int (nI 1))) (xq_s g J (ms (xq_w I 126 28 (nI (vl i))) (en (i + 1)) (tc (i + 1)) (ss (i + 1)) v'))) ∧ (¬ (lo ≤ vl i ∧ vl i ≤ hi_) → Q (some (.int (nI 0))) (xq_s g J (ms (xq_w (xq_w I 126 23 (nI 2)) 126 24 (nI (ss i))) (en i) (tc i) (ss i) v)))) ∧ (¬ tc i = 2 → Q (some (.int (nI 0))) (xq_s g J (ms (xq_w (xq_w I 126 23 (nI 1)) 126 24 (nI (ss i))) (en i) (tc i) (ss i) v)))) : xq_wp (d + 4) 195 (xq_s g J (ms I (en i) (tc i) (ss i) v)) 0 [.ref 126, .int (nI lo), .int (nI hi_)] [] Q := by
  refine tn_195 (d := d) hM (fun k => by have := mT_b hM k; omega) ⟨fun q => ?_, hp.2⟩
  have e := hv q
  have l := mT_vl hM i q
  have hp := hp.1 q
  rw [e] at hp ⊢
  refine ⟨fun y => hp.2 (fun k => ?_), fun y => ⟨fun y2 => hp.2 (fun k => ?_), fun y2 => ⟨by omega, hi, hp.1 ⟨?_, ?_⟩⟩⟩⟩
  · rw [xn_lt (by omega) (by omega)] at y; omega
  · rw [xn_lt (by omega) (by omega)] at y2; omega
  · rw [xn_lt (by omega) (by omega)] at y; omega
  · rw [xn_lt (by omega) (by omega)] at y2; omega
theorem xl_195m (hM : mT r I t tc vl ss en) (hi : i ≤ t) (hv : tc i = 2 → v = nI (vl i)) (hp : (tc i = 2 → Q (some (.int (nI 0))) (xq_s g J (ms (xq_w (xq_w I 126 23 (nI 2)) 126 24 (nI (ss i))) (en i) (tc i) (ss i) v))) ∧ (¬ tc i = 2 → Q (some (.int (nI 0))) (xq_s g J (ms (xq_w (xq_w I 126 23 (nI 1)) 126 24 (nI (ss i))) (en i) (tc i) (ss i) v)))) : xq_wp (d + 4) 195 (xq_s g J (ms I (en i) (tc i) (ss i) v)) 0 [.ref 126, .int (nI 0), .int (Int32.ofInt (-1))] [] Q := by
  refine tn_195 (d := d) hM (fun k => by have := mT_b hM k; omega) ⟨fun q => ⟨fun y => hp.1 q, fun y => ⟨fun y2 => hp.1 q, fun y2 => absurd ?_ y2⟩⟩, hp.2⟩
  have l := mT_vl hM i q
  rw [hv q, Int32.lt_iff_toInt_lt, nI_toInt (by omega)]
  have : (Int32.ofInt (-1)).toInt = -1 := by decide
  omega
end xk_ml
