/-! text: the model at a token -/
def mT (r : Nat) (I : Nat → xw) (t : Nat) (tc vl ss en : Nat → Nat) : Prop := ∃ (l : Nat) (tp st sz : Nat → Nat), mG r l tp I ∧ tkP tp l t st sz ∧ t ≤ l ∧ tc = tcF r tp t st sz ∧ vl = vlF tp st sz ∧ ss = ssF l t st ∧ en = enF l t st sz
section xk_mt
variable {d : Nat} {g : xq_V} {J : Nat → Nat → Int64} {I : Nat → xw} {Q : Option Value → xq_S → Prop} {r t i a j e c s e' c' s' : Nat} {tc vl ss en : Nat → Nat} {v v' : Int32}
theorem ms_ms : ms (ms I e c s v) e' c' s' v' = ms I e' c' s' v' := by
  have h : mF I (ms (ms I e c s v) e' c' s' v') := mF_w (mF_w (mF_w (mF_w (mF_w (mF_w (mF_w (mF_w ⟨fun _ _ => rfl, fun _ _ => rfl⟩ (by omega)) (by omega)) (by omega)) (by omega)) (by omega)) (by omega)) (by omega)) (by omega)
  have := ms_ext (e := e') (c := c') (s := s') h (by unfold ms; rw [xw_x (by omega), xw_x (by omega), xw_x (by omega), xw_v]) (by unfold ms; rw [xw_x (by omega), xw_x (by omega), xw_v]) (by unfold ms; rw [xw_x (by omega), xw_v])
  rw [this]
  congr 1
theorem xq_w_comm {X : Nat → xw} {a j b k : Nat} {u v : Int32} (h : ¬ (a = b ∧ j = k)) : xq_w (xq_w X a j u) b k v = xq_w (xq_w X b k v) a j u := by
  funext p q
  by_cases e1 : p = b
  · subst e1
    by_cases e2 : q = k
    · subst e2
      rw [xw_v]
      by_cases e3 : p = a
      · subst e3; rw [xw_x (fun z => h ⟨rfl, z.symm⟩), xw_v]
      · rw [xw_i e3, xw_v]
    · rw [xw_x e2]
      by_cases e3 : p = a
      · subst e3
        by_cases e4 : q = j
        · subst e4; rw [xw_v, xw_v]
        · rw [xw_x e4, xw_x e4, xw_x e2]
      · rw [xw_i e3, xw_i e3, xw_x e2]
  · rw [xw_i e1]
    by_cases e3 : p = a
    · subst e3
      by_cases e4 : q = j
      · subst e4; rw [xw_v, xw_v]
      · rw [xw_x e4, xw_x e4, xw_i e1]
    · rw [xw_i e3, xw_i e3, xw_i e1]
theorem ms_w (h : ¬ (a = 126 ∧ 19 ≤ j ∧ j < 23)) : xq_w (ms I e c s v) a j v' = ms (xq_w I a j v') e c s v := by
  unfold ms
  rw [xq_w_comm (by omega), xq_w_comm (X := xq_w (xq_w I 126 19 (nI e)) 126 20 (nI c)) (by omega), xq_w_comm (X := xq_w I 126 19 (nI e)) (by omega), xq_w_comm (X := I) (by omega)]
theorem mT_fr {I' : Nat → xw} (h : mT r I t tc vl ss en) (e13 : I' 126 13 = I 126 13) (e18 : I' 126 18 = I 126 18) (e135 : I' 135 = I 135) : mT r I' t tc vl ss en := by
  obtain ⟨l, tp, st, sz, hG, h2⟩ := h
  refine ⟨l, tp, st, sz, ?_, h2⟩
  unfold mG at hG ⊢
  rw [e13, e18, e135]; exact hG
theorem mT_w (ha : ¬ a = 135 ∧ ¬ (a = 126 ∧ (j = 13 ∨ j = 18))) (h : mT r I t tc vl ss en) : mT r (xq_w I a j v) t tc vl ss en := by
  refine mT_fr h ?_ ?_ (xw_i (fun z => ha.1 z.symm))
  · by_cases e : a = 126
    · subst e; rw [xw_x (by omega)]
    · rw [xw_i (fun z => e z.symm)]
  · by_cases e : a = 126
    · subst e; rw [xw_x (by omega)]
    · rw [xw_i (fun z => e z.symm)]
theorem mT_b (h : mT r I t tc vl ss en) (k : Nat) : tc k < 1000 := by
  obtain ⟨l, tp, st, sz, hG, hP, -, rfl, -⟩ := h
  rw [tcF]
  by_cases e : k < t
  · obtain ⟨a1, a2, a3, -⟩ := hP.1 k e
    have w := wc_r (tp := tp) (s := st k) (z := sz k) hG.1
    have := (hG.2.2.2.2 (st k) (by omega)).2
    rw [if_pos e]
    repeat' split
    all_goals omega
  · rw [if_neg e]; omega
theorem mT_0 (h : mT r I t tc vl ss en) (hi : i ≤ t) : tc i = 0 ↔ i = t := by
  obtain ⟨l, tp, st, sz, hG, hP, -, rfl, -⟩ := h
  rw [tcF]
  by_cases e : i < t
  · have w := wc_r (tp := tp) (s := st i) (z := sz i) hG.1
    rw [if_pos e]
    refine ⟨fun q => ?_, fun q => by omega⟩
    repeat' split at q
    all_goals omega
  · rw [if_neg e]; exact ⟨fun _ => by omega, fun _ => rfl⟩
theorem xl_nx (hM : mT r I t tc vl ss en) (h0 : ¬ tc i = 0) (hi : i ≤ t) (hp : ∀ v' : Int32, (tc (i + 1) = 2 → v' = nI (vl (i + 1))) → Q none (xq_s g J (ms I (en (i + 1)) (tc (i + 1)) (ss (i + 1)) v'))) : xq_wp (d + 3) 170 (xq_s g J (ms I (en i) (tc i) (ss i) v)) 0 [.ref 126, xq_un, xq_un] [] Q := by
  have h0' := mT_0 hM hi
  have hlt : i < t := by
    rcases Nat.lt_or_ge i t with z | z
    · exact z
    · exact absurd (h0'.mpr (by omega)) h0
  obtain ⟨l, tp, st, sz, hG, hP, -, rfl, rfl, rfl, rfl⟩ := hM
  have hf : mF I (ms I (enF l t st sz i) (tcF r tp t st sz i) (ssF l t st i) v) := mF_w (mF_w (mF_w (mF_w ⟨fun _ _ => rfl, fun _ _ => rfl⟩ (by omega)) (by omega)) (by omega)) (by omega)
  refine xl_170 (d := d) (mG_fr hG hf) hP (j := i + 1) (by omega) ?_ (fun v' hv => ?_)
  · unfold ms
    rw [xw_x (by omega), xw_x (by omega), xw_x (by omega), xw_v, enF, if_pos hlt, pe]
  · rw [ms_ms]; exact hp v' hv
end xk_mt
