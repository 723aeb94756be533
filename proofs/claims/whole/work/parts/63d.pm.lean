/-! text: A PLAN in the model -/
def pM (p : PA) (F : xw) : Prop := ∀ q, q < p.1 → q < 100 → F (3 * q) = nI (24 + (p.2 q).1) ∧ F (3 * q + 1) = nI (p.2 q).2.1 ∧ F (3 * q + 2) = nI (p.2 q).2.2
section xk_pm
variable {d : Nat} {g : xq_V} {J : Nat → Nat → Int64} {I X : Nat → xw} {Q : Option Value → xq_S → Prop} {t i j k o : Nat} {tc vl ss en : Nat → Nat} {p : PA} {v : Int32}
theorem gt_v : ∀ w, w < 8 → xq_gtst (nI (24 + w)) = nI (plb w) := by decide +kernel
theorem pM_w {F : xw} {s : Nat × Nat × Nat} {F' : xw} (h : pM p F) (o_ : ∀ q, ¬ (3 * p.1 ≤ q ∧ q < 3 * p.1 + 3) → F' q = F q) (v0 : F' (3 * p.1) = nI (24 + s.1)) (v1 : F' (3 * p.1 + 1) = nI s.2.1) (v2 : F' (3 * p.1 + 2) = nI s.2.2) : pM (pw p s) F' := by
  intro q h1 h2
  show F' (3 * q) = nI (24 + (if q = p.1 then s else p.2 q).1) ∧ F' (3 * q + 1) = nI (if q = p.1 then s else p.2 q).2.1 ∧ F' (3 * q + 2) = nI (if q = p.1 then s else p.2 q).2.2
  by_cases e : q = p.1
  · subst e; rw [if_pos rfl]; exact ⟨v0, v1, v2⟩
  · rw [if_neg e, o_ _ (by omega), o_ _ (by omega), o_ _ (by omega)]; exact h q (by have h1 : q < p.1 + 1 := h1; omega) h2
theorem pM_w0 {F : xw} {s : Nat × Nat × Nat} (h : pM p F) (hn : ¬ p.1 < 100) : pM (pw p s) F := by
  intro q h1 h2
  show F (3 * q) = nI (24 + (if q = p.1 then s else p.2 q).1) ∧ F (3 * q + 1) = nI (if q = p.1 then s else p.2 q).2.1 ∧ F (3 * q + 2) = nI (if q = p.1 then s else p.2 q).2.2
  rw [if_neg (by omega)]; exact h q (by have h1 : q < p.1 + 1 := h1; omega) h2
/-- what a step leaves -/
theorem pM_out {Y : Nat → xw} {w a b : Nat} (h : pM p (X 134)) (e : Y 134 = X 134) : pM (pw p (w, a, b)) (xq_w (xq_w (xq_w (xq_w Y 134 (3 * p.1) (nI (24 + w))) 134 (3 * p.1 + 1) (nI a)) 134 (3 * p.1 + 2) (nI b)) 126 17 (nI (p.1 + 1)) 134) := by
  rw [xw_i (by omega)]
  refine pM_w h (fun q hq => ?_) ?_ ?_ ?_
  · rw [xw_x (by omega), xw_x (by omega), xw_x (by omega), e]
  · rw [xw_x (by omega), xw_x (by omega), xw_v]
  · rw [xw_x (by omega), xw_v]
  · rw [xw_v]
theorem xl_197 (hM : mT 3 I t tc vl ss en) (hi : i ≤ t) (hw : 24 ≤ tc i ∧ tc i ≤ 31) (hF : nF I X) (hp : p.1 < 100000000) (h0 : X 126 17 = nI p.1) (hR : pM p (X 134)) (bad : ∀ k j, stS tc vl i = .inl (k, j) → ∀ (Y : Nat → xw) (e c s : Nat) (v : Int32), nF I Y → Q (some (.int (nI 0))) (xq_s g J (ms (xq_w (xq_w Y 126 23 (nI k)) 126 24 (nI (ss j))) e c s v))) (good : ∀ j s, stS tc vl i = .inr (j, s) → j ≤ t → ∀ (Y : Nat → xw) (v : Int32), nF I Y → Y 126 17 = nI (pw p s).1 → pM (pw p s) (Y 134) → Q (some (.int (nI 1))) (xq_s g J (ms Y (en j) (tc j) (ss j) v))) : xq_wp (d + 5) 197 (xq_s g J (ms X (en i) (tc i) (ss i) v)) 0 [.ref 126, xq_un, xq_un, xq_un] [] Q := by
  have hbb : ∀ k, tc k < 2147483648 := fun k => by have := mT_b hM k; omega
  have hX := mT_nF hM hF
  have i1 := m_lt hX hi (show ¬ tc i = 0 by omega)
  have eg : xq_gtst (nI (tc i)) = nI (plb (tc i - 24)) := by
    have := gt_v (tc i - 24) (by omega)
    rw [show 24 + (tc i - 24) = tc i by omega] at this
    exact this
  have hl : plb (tc i - 24) < 100000 := by
    have := (by decide : ∀ w, w < 8 → plb w < 100000) (tc i - 24) (by omega)
    exact this
  unfold stS at bad good
  have b1 : ¬ tc (i + 1) = 2 → ∀ v1 : Int32, Q (some (.int (nI 0))) (xq_s g J (ms (xq_w (xq_w X 126 23 (nI 1)) 126 24 (nI (ss (i + 1)))) (en (i + 1)) (tc (i + 1)) (ss (i + 1)) v1)) := fun q v1 => bad 1 (i + 1) (by rw [if_pos q]) X _ _ _ _ hF
  have b2 : tc (i + 1) = 2 → ¬ (plo (tc i - 24) ≤ vl (i + 1) ∧ vl (i + 1) ≤ plb (tc i - 24)) → ∀ v1 : Int32, Q (some (.int (nI 0))) (xq_s g J (ms (xq_w (xq_w X 126 23 (nI 2)) 126 24 (nI (ss (i + 1)))) (en (i + 1)) (tc (i + 1)) (ss (i + 1)) v1)) := fun q q2 v1 => bad 2 (i + 1) (by rw [if_neg (fun z => z q), if_pos q2]) X _ _ _ _ hF
  have nx : tc (i + 1) = 2 → (plo (tc i - 24) ≤ vl (i + 1) ∧ vl (i + 1) ≤ plb (tc i - 24)) → ∀ v2 : Int32, xq_wp (d + 5) 197 (xq_s g J (ms (xq_w X 126 28 (nI (vl (i + 1)))) (en (i + 1 + 1)) (tc (i + 1 + 1)) (ss (i + 1 + 1)) v2)) 46 [.ref 126, .int (nI (tc i)), xq_un, xq_un] [] Q := fun q q2 v2 => by
    rw [if_neg (fun z => z q), if_neg (fun z => z q2)] at bad good
    have i2 := m_lt hX i1 (show ¬ tc (i + 1) = 0 by omega)
    have hF1 : nF I (xq_w X 126 28 (nI (vl (i + 1)))) := nF_w hF (by omega)
    have hF2 : nF I (xq_w (xq_w X 126 28 (nI (vl (i + 1)))) 126 28 (nI 0)) := nF_w hF1 (by omega)
    have o17 : xq_w X 126 28 (nI (vl (i + 1))) 126 17 = nI p.1 := by rw [xw_x (by omega)]; exact h0
    refine tr_197_46 (d := d) (kd_ := tc i) (a := vl (i + 1)) (n := p.1) (mT_nF hM hF1) hbb ⟨xw_v, by omega, fun q3 => ?_, fun q3 => ?_⟩
    · rw [if_pos q3] at bad good
      refine ⟨i2, fun q4 v3 hv3 => ?_, fun q4 => bad 1 _ (by rw [if_pos q4]) _ _ _ _ _ hF2⟩
      rw [if_neg (fun z => z q4)] at bad good
      have i3 := m_lt hX i2 (show ¬ tc (i + 1 + 1) = 0 by omega)
      refine ⟨i3, by omega, fun q5 => ⟨fun q6 v4 hv4 => ?_, fun q6 => bad 2 _ (by rw [if_neg (fun z => z q5), if_pos (by omega)]) _ _ _ _ _ hF2⟩, fun q5 => bad 1 _ (by rw [if_pos q5]) _ _ _ _ _ hF2⟩
      rw [if_neg (fun z => z q5), if_neg (fun z => z (show vl (i + 1 + 1 + 1) ≤ 13 by omega))] at bad good
      have i4 := m_lt hX i3 (show ¬ tc (i + 1 + 1 + 1) = 0 by omega)
      have hF3 : nF I (xq_w (xq_w (xq_w X 126 28 (nI (vl (i + 1)))) 126 28 (nI 0)) 126 28 (nI (vl (i + 1 + 1 + 1)))) := nF_w hF2 (by omega)
      refine ⟨i4, fun q7 v5 hv5 => ⟨o17, by omega, fun z => ⟨o17, by omega, o17, by omega, o17, by omega, o17, ?_⟩, fun z => ⟨o17, ?_⟩⟩, fun q7 => bad 1 _ (by rw [if_pos q7]) _ _ _ _ _ hF3⟩
      · have i5 := m_lt hX i4 (show ¬ tc (i + 1 + 1 + 1 + 1) = 0 by omega)
        refine good _ _ (by rw [if_neg (fun z => z q7)]) i5 _ _ (nF_w (nF_w (nF_w (nF_w hF3 (by omega)) (by omega)) (by omega)) (by omega)) xw_v ?_
        have := pM_out (Y := xq_w (xq_w (xq_w X 126 28 (nI (vl (i + 1)))) 126 28 (nI 0)) 126 28 (nI (vl (i + 1 + 1 + 1)))) (w := 1) (a := vl (i + 1)) (b := vl (i + 1 + 1 + 1)) hR (by rw [xw_i (by omega), xw_i (by omega), xw_i (by omega)])
        rw [q3]; exact this
      · have i5 := m_lt hX i4 (show ¬ tc (i + 1 + 1 + 1 + 1) = 0 by omega)
        refine good _ _ (by rw [if_neg (fun z => z q7)]) i5 _ _ (nF_w hF3 (by omega)) xw_v ?_
        rw [xw_i (by omega), xw_i (by omega), xw_i (by omega), xw_i (by omega)]
        exact pM_w0 hR z
    · rw [if_neg q3] at bad good
      refine ⟨i2, fun q7 v5 hv5 => ⟨o17, by omega, fun z => ⟨o17, by omega, o17, by omega, o17, by omega, o17, ?_⟩, fun z => ⟨o17, ?_⟩⟩, fun q7 => bad 1 _ (by rw [if_pos q7]) _ _ _ _ _ hF2⟩
      · have i5 := m_lt hX i2 (show ¬ tc (i + 1 + 1) = 0 by omega)
        refine good _ _ (by rw [if_neg (fun z => z q7)]) i5 _ _ (nF_w (nF_w (nF_w (nF_w hF2 (by omega)) (by omega)) (by omega)) (by omega)) xw_v ?_
        have := pM_out (Y := xq_w (xq_w X 126 28 (nI (vl (i + 1)))) 126 28 (nI 0)) (w := tc i - 24) (a := vl (i + 1)) (b := 0) hR (by rw [xw_i (by omega), xw_i (by omega)])
        rw [show 24 + (tc i - 24) = tc i by omega] at this
        exact this
      · have i5 := m_lt hX i2 (show ¬ tc (i + 1 + 1) = 0 by omega)
        refine good _ _ (by rw [if_neg (fun z => z q7)]) i5 _ _ (nF_w hF2 (by omega)) xw_v ?_
        rw [xw_i (by omega), xw_i (by omega), xw_i (by omega)]
        exact pM_w0 hR z
  have pl1 : (tc i = 24 ∨ tc i = 26 ∨ tc i = 27) → plo (tc i - 24) = 1 := fun q => by
    rcases q with q | q | q <;> rw [q] <;> rfl
  have pl0 : ¬ (tc i = 24 ∨ tc i = 26 ∨ tc i = 27) → plo (tc i - 24) = 0 := fun q => by
    have : tc i = 25 ∨ tc i = 28 ∨ tc i = 29 ∨ tc i = 30 ∨ tc i = 31 := by omega
    rcases this with q | q | q | q | q <;> rw [q] <;> rfl
  refine tr_197 (d := d) (h := plb (tc i - 24)) hX hbb ⟨by omega, hi, fun v1 hv1 => ⟨fun q => ?_, fun qa => ⟨fun q => ?_, fun qb => ⟨fun q => ?_, fun qc => ?_⟩⟩⟩⟩
  · have e := pl1 (by omega)
    rw [e] at b2 nx
    exact ⟨eg, i1, hl, fun q1 => ⟨fun q2 v2 _ => nx q1 q2 v2, fun q2 => b2 q1 q2 v1⟩, fun q1 => b1 q1 v1⟩
  · have e := pl1 (by omega)
    rw [e] at b2 nx
    exact ⟨eg, i1, hl, fun q1 => ⟨fun q2 v2 _ => nx q1 q2 v2, fun q2 => b2 q1 q2 v1⟩, fun q1 => b1 q1 v1⟩
  · have e := pl1 (by omega)
    rw [e] at b2 nx
    exact ⟨eg, i1, hl, fun q1 => ⟨fun q2 v2 _ => nx q1 q2 v2, fun q2 => b2 q1 q2 v1⟩, fun q1 => b1 q1 v1⟩
  · have e := pl0 (by omega)
    rw [e] at b2 nx
    exact ⟨eg, i1, hl, fun q1 => ⟨fun q2 v2 _ => nx q1 q2 v2, fun q2 => b2 q1 q2 v1⟩, fun q1 => b1 q1 v1⟩
theorem xl_194_86 {fr r : Nat} {u6 : Value} (hM : mT 3 I t tc vl ss en) (hf : fr ≤ p.1) (hb : (prp fr r p).1 < 100000000) (hp : p.1 < 100000000) (hr : 1 ≤ r) (good : ∀ (Y : Nat → xw), nF I Y → Y 126 17 = nI (prp fr r p).1 → pM (prp fr r p) (Y 134) → Q (some (.int (nI 1))) (xq_s g J (ms Y (en i) (tc i) (ss i) v))) : ∀ (c k : Nat) (Y : Nat → xw) (u6 : Value), k + c = (p.1 - fr) * (r - 1) → nF I Y → Y 126 17 = nI (p.1 + k) → (∀ q, q < p.1 + k → q < 100 → Y 134 (3 * q) = nI (24 + ((prp fr r p).2 q).1) ∧ Y 134 (3 * q + 1) = nI ((prp fr r p).2 q).2.1 ∧ Y 134 (3 * q + 2) = nI ((prp fr r p).2 q).2.2) → xq_wp (d + 1) 194 (xq_s g J (ms Y (en i) (tc i) (ss i) v)) 86 [.ref 126, .int (nI o), .int (nI r), .int (nI fr), .int (nI ((p.1 - fr) * (r - 1))), .int (nI k), u6] [] Q := by
  have hbb : ∀ k, tc k < 2147483648 := fun k => by have := mT_b hM k; omega
  have hn : (prp fr r p).1 = p.1 + (p.1 - fr) * (r - 1) := by
    show fr + (p.1 - fr) * r = p.1 + (p.1 - fr) * (r - 1)
    obtain ⟨r', rfl⟩ : ∃ r', r = r' + 1 := ⟨r - 1, by omega⟩
    rw [Nat.mul_add, Nat.mul_one, Nat.add_sub_cancel]
    omega
  intro c
  induction c with
  | zero =>
    intro k Y u6 hk hY h17 hq
    refine tr_194_86 (d := d) (p := 0) (mT_nF hM hY) hbb ⟨by omega, by omega, fun z => by omega, fun _ => good Y hY (by rw [h17, hn]; congr 1; omega) (fun q q1 q2 => hq q (by omega) q2)⟩
  | succ c ih =>
    intro k Y u6 hk hY h17 hq
    have fl : fr < p.1 := by
      rcases Nat.lt_or_ge fr p.1 with z | z
      · exact z
      · have : p.1 - fr = 0 := by omega
        rw [this, Nat.zero_mul] at hk
        omega
    refine tr_194_86 (d := d) (p := p.1 + k) (mT_nF hM hY) hbb ⟨by omega, by omega, fun z => ⟨h17, by omega, fun z2 => ⟨by omega, by omega, by omega, h17, h17, by omega, h17, by omega, h17, by omega, h17, ih (k + 1) _ _ (by omega) (nF_w (nF_w (nF_w (nF_w hY (by omega)) (by omega)) (by omega)) (by omega)) xw_v (fun q q1 q2 => ?_)⟩, fun z2 => ⟨h17, ih (k + 1) _ _ (by omega) (nF_w hY (by omega)) xw_v (fun q q1 q2 => ?_)⟩⟩, fun z => by omega⟩
    · rw [xw_i (by omega)]
      by_cases e : q = p.1 + k
      · have per := prp_per (r := r) fl (show p.1 ≤ q by omega)
        have src := hq (fr + k) (by omega) (by omega)
        rw [show q - (p.1 - fr) = fr + k by omega] at per
        subst e
        rw [per, xw_x (by omega), xw_x (by omega), xw_v, xw_x (by omega), xw_v, xw_v]
        exact src
      · have o_ : ∀ x, ¬ (3 * (p.1 + k) ≤ x ∧ x < 3 * (p.1 + k) + 3) → xq_w (xq_w (xq_w Y 134 (3 * (p.1 + k)) (Y 134 (3 * (fr + k)))) 134 (3 * (p.1 + k) + 1) (Y 134 (3 * (fr + k) + 1))) 134 (3 * (p.1 + k) + 2) (Y 134 (3 * (fr + k) + 2)) 134 x = Y 134 x := fun x hx => by rw [xw_x (by omega), xw_x (by omega), xw_x (by omega)]
        rw [o_ _ (by omega), o_ _ (by omega), o_ _ (by omega)]
        exact hq q (by omega) q2
    · rw [xw_i (by omega)]
      exact hq q (by omega) q2
/-- again in the model, and the steps within it -/
def mAg (tc vl ss en : Nat → Nat) (t : Nat) (I : Nat → xw) (k : Nat) : Prop := ∀ (d : Nat) (g : xq_V) (J : Nat → Nat → Int64) (Q : Option Value → xq_S → Prop) (i : Nat) (p : PA) (X : Nat → xw) (v : Int32), i ≤ t → tc i = 32 → pK p → p.1 ≤ i * 6561 → nF I X → X 126 17 = nI p.1 → pM p (X 134) → (∀ k' j, agS tc vl k i p = some (.inl (k', j)) → ∀ (Y : Nat → xw) (e c s : Nat) (v : Int32), nF I Y → Q (some (.int (nI 0))) (xq_s g J (ms (xq_w (xq_w Y 126 23 (nI k')) 126 24 (nI (ss j))) e c s v))) → (∀ j p', agS tc vl k i p = some (.inr (j, p')) → j ≤ t → ∀ (Y : Nat → xw) (v : Int32), nF I Y → Y 126 17 = nI p'.1 → pM p' (Y 134) → Q (some (.int (nI 1))) (xq_s g J (ms Y (en j) (tc j) (ss j) v))) → ¬ agS tc vl k i p = none → xq_wp (d + 2 * k + 6) 194 (xq_s g J (ms X (en i) (tc i) (ss i) v)) 0 [.ref 126, .int (nI (4 - k)), xq_un, xq_un, xq_un, xq_un, xq_un] [] Q
def mSs (tc vl ss en : Nat → Nat) (t : Nat) (I : Nat → xw) (k : Nat) : Prop := ∀ (d : Nat) (g : xq_V) (J : Nat → Nat → Int64) (Q : Option Value → xq_S → Prop) (f i : Nat) (p : PA) (X : Nat → xw) (v : Int32), i ≤ t → pK p → p.1 ≤ i * 6561 → nF I X → X 126 17 = nI p.1 → pM p (X 134) → (∀ k' j, psL tc vl (agS tc vl k) f i p = some (.inl (k', j)) → ∀ (Y : Nat → xw) (e c s : Nat) (v : Int32), nF I Y → Q (some (.int (nI 0))) (xq_s g J (ms (xq_w (xq_w Y 126 23 (nI k')) 126 24 (nI (ss j))) e c s v))) → (∀ j p', psL tc vl (agS tc vl k) f i p = some (.inr (j, p')) → j ≤ t → ∀ (Y : Nat → xw) (v : Int32), nF I Y → Y 126 17 = nI p'.1 → pM p' (Y 134) → Q (some (.int (nI 1))) (xq_s g J (ms Y (en j) (tc j) (ss j) v))) → ¬ psL tc vl (agS tc vl k) f i p = none → xq_wp (d + 2 * k + 7) 193 (xq_s g J (ms X (en i) (tc i) (ss i) v)) 2 [.ref 126, .int (nI (4 - k)), .int (nI 1)] [] Q
theorem mSs_of (hM : mT 3 I t tc vl ss en) (h4 : t ≤ 400) (hk : k ≤ 4) (hA : mAg tc vl ss en t I k) : mSs tc vl ss en t I k := by
  have hbb : ∀ k, tc k < 2147483648 := fun k => by have := mT_b hM k; omega
  intro d g J Q f
  induction f with
  | zero => intro i p X v _ _ _ _ _ _ _ _ no; exact absurd rfl no
  | succ f ih =>
    intro i p X v hi hK hl hF h0 hR bad good no
    have hX := mT_nF hM hF
    rw [psL] at bad good no
    have stop : ¬ (24 ≤ tc i ∧ tc i ≤ 31) → ¬ tc i = 32 → Q (some (.int (nI 1))) (xq_s g J (ms X (en i) (tc i) (ss i) v)) := fun q1 q2 => by
      rw [if_neg q1, if_neg q2] at good
      exact good i p rfl hi X v hF h0 hR
    refine tr_193_2 (d := d + 2 * k + 6) hX hbb ⟨fun z => stop (by omega) (by omega), fun z1 => ⟨fun z => stop (by omega) (by omega), fun z2 => ⟨fun q => ?_, fun q => ?_⟩⟩⟩
    · rw [if_neg (by omega), if_pos q] at bad good no
      refine hA d g J _ i p X v hi q hK hl hF h0 hR (fun k' j e Y e' c s v gY => xq_wp.ret (k := 7) (fun F => rfl) (bad k' j (by rw [e]) Y e' c s v gY)) (fun j p' e hj Y v1 g1 g2 g3 => ?_) (fun z => no (by rw [z]))
      rw [e] at bad good no
      dsimp only at bad good no
      obtain ⟨a1, a2, a3, a4⟩ := ag_b hk e hK hl
      exact tr_193_34_1 (d := d + 2 * k + 7) (mT_nF hM g1) hbb (ih j p' Y v1 hj a4 a3 g1 g2 g3 bad good no)
    · have w : 24 ≤ tc i ∧ tc i ≤ 31 := by omega
      rw [if_pos w] at bad good no
      refine xl_197 (d := d + 2 * k + 1) hM hi w hF (by omega) h0 hR (fun k' j e Y e' c s v gY => xq_wp.ret (k := 6) (fun F => rfl) (bad k' j (by rw [e]) Y e' c s v gY)) (fun j s e hj Y v1 g1 g2 g3 => ?_)
      rw [e] at bad good no
      dsimp only at bad good no
      obtain ⟨s1, s2⟩ := st_r w e
      have e1 : (pw p s).1 = p.1 + 1 := rfl
      exact tr_193_41_1 (d := d + 2 * k + 7) (mT_nF hM g1) hbb (ih j _ Y v1 hj (pK_w hK s2) (by omega) g1 g2 g3 bad good no)
theorem mAg_of (hM : mT 3 I t tc vl ss en) (h4 : t ≤ 400) : ∀ k, k ≤ 4 → mAg tc vl ss en t I k := by
  have hbb : ∀ k, tc k < 2147483648 := fun k => by have := mT_b hM k; omega
  intro k
  induction k with
  | zero =>
    intro _ d g J Q i p X v hi q hK hl hF h0 hR bad good no
    exact tr_194 (d := d + 1) (n := 0) (mT_nF hM hF) hbb ⟨by omega, fun _ => bad 3 i rfl X _ _ _ _ hF, fun z => by omega⟩
  | succ k ih =>
    intro hk d g J Q i p X v hi q hK hl hF h0 hR bad good no
    have hX := mT_nF hM hF
    have i1 := m_lt hX hi (show ¬ tc i = 0 by omega)
    unfold agS at bad good no
    have hF1 : nF I (xq_w X 126 28 (nI (vl (i + 1)))) := nF_w hF (by omega)
    refine tr_194 (d := d + 2 * k + 3) (n := p.1) hX hbb ⟨by omega, fun z => by omega, fun _ => ⟨by omega, hi, fun v1 _ => ⟨i1, by omega, fun q1 => ⟨fun q2 v2 _ => ?_, fun q2 => bad 2 _ (by rw [if_neg (fun z => z q1), if_pos q2]) X _ _ _ _ hF⟩, fun q1 => bad 1 _ (by rw [if_pos q1]) X _ _ _ _ hF⟩⟩⟩
    rw [if_neg (fun z => z q1), if_neg (fun z => z q2)] at bad good no
    have i2 := m_lt hX i1 (show ¬ tc (i + 1) = 0 by omega)
    refine ⟨i2, fun q3 v3 _ => ⟨h0, ?_⟩, fun q3 => bad 1 _ (by rw [if_pos q3]) _ _ _ _ _ hF1⟩
    rw [if_neg (fun z => z q3)] at bad good no
    have i3 := m_lt hX i2 (show ¬ tc (i + 1 + 1) = 0 by omega)
    rw [nI_add, show 4 - (k + 1) + 1 = 4 - k by omega]
    refine xq_wp.go (k := 2) (fun F => rfl) ?_
    have hS := mSs_of hM h4 (show k ≤ 4 by omega) (ih (by omega))
    have hl3 : p.1 ≤ (i + 1 + 1 + 1) * 6561 := Nat.le_trans hl (Nat.mul_le_mul_right 6561 (show i ≤ i + 1 + 1 + 1 by omega))
    refine hS d g J _ pF (i + 1 + 1 + 1) p _ v3 i3 hK hl3 hF1 (by rw [xw_x (by omega)]; exact h0) (by rw [xw_i (by omega)]; exact hR) (fun k' j e Y e' c s v gY => xq_wp.ret (k := 3) (fun F => rfl) (bad k' j (by rw [e]) Y e' c s v gY)) (fun j p' e hj Y v4 g1 g2 g3 => ?_) (fun z => no (by rw [z]))
    rw [e] at bad good no
    dsimp only at bad good no
    obtain ⟨a1, a2, a3, a4⟩ := ps_b (show k ≤ 4 by omega) e hK hl3
    refine tr_194_56_1 (d := d + 2 * k + 3) (m := p'.1) (mT_nF hM g1) hbb ⟨hj, fun ej v5 _ => ⟨g2, a2, q2.1, ?_⟩, fun ej => bad 1 j (by rw [if_neg ej]) Y _ _ _ _ g1⟩
    rw [if_pos ej] at bad good no
    have hj1 := m_lt (mT_nF hM g1) hj (show ¬ tc j = 0 by omega)
    have hb : (prp p.1 (vl (i + 1)) p').1 < 100000000 := by
      show p.1 + (p'.1 - p.1) * vl (i + 1) < 100000000
      have m1 : (p'.1 - p.1) * vl (i + 1) ≤ (p'.1 - p.1) * 9 := Nat.mul_le_mul_left _ q2.2
      omega
    exact xl_194_86 (d := d + 2 * k + 7) (u6 := xq_un) hM a2 hb (by omega) q2.1 (fun Z z1 z2 z3 => good _ _ rfl hj1 Z v5 z1 z2 z3) ((p'.1 - p.1) * (vl (i + 1) - 1)) 0 Y _ (by rw [Nat.zero_add]) g1 g2 (fun q h1 h2 => by rw [prp_lt (by omega)]; exact g3 q (by omega) h2)
/-- the model reads A PLAN -/
theorem xl_192 (hM : mT 3 I t tc vl ss en) (h4 : t ≤ 400) (hF : nF I X) (bad : ∀ k j, plX tc vl = some (.inl (k, j)) → ∀ (Y : Nat → xw) (e c s : Nat) (v : Int32), nF I Y → Q (some (.int (nI 0))) (xq_s g J (ms (xq_w (xq_w Y 126 23 (nI k)) 126 24 (nI (ss j))) e c s v))) (good : ∀ p, plX tc vl = some (.inr p) → p.1 ≤ 100 → pK p → ∀ (Y : Nat → xw) (e c s : Nat) (v : Int32), nF I Y → Y 126 17 = nI p.1 → pM p (Y 134) → Q (some (.int (nI 1))) (xq_s g J (ms Y e c s v))) (no : ¬ plX tc vl = none) : xq_wp (d + 16) 192 (xq_s g J (ms X (en 0) (tc 0) (ss 0) v)) 0 [.ref 126] [] Q := by
  have hbb : ∀ k, tc k < 2147483648 := fun k => by have := mT_b hM k; omega
  unfold plX at bad good no
  refine tr_192 (d := d + 15) (mT_nF hM hF) hbb (xq_wp.go (k := 2) (fun F => rfl) ?_)
  refine mSs_of hM h4 (Nat.le_refl 4) (mAg_of hM h4 4 (Nat.le_refl 4)) d g J _ pF 0 (0, fun _ => (0, 0, 0)) _ v (by omega) (fun q hq => absurd hq (by show ¬ q < 0; omega)) (by omega) (nF_w hF (by omega)) xw_v (fun q hq => absurd hq (by show ¬ q < 0; omega)) (fun k' j e Y e' c s v gY => xq_wp.ret (k := 3) (fun F => rfl) (bad k' j (by rw [e]) Y e' c s v gY)) (fun j p' e hj Y v1 g1 g2 g3 => ?_) (fun z => no (by rw [z]))
  rw [e] at bad good no
  dsimp only at bad good no
  obtain ⟨a1, a2, a3, a4⟩ := ps_b (Nat.le_refl 4) e (fun q hq => absurd hq (by show ¬ q < 0; omega)) (by show 0 ≤ 0 * 6561; omega)
  refine tr_192_10_1 (d := d + 15) (n := p'.1) (mT_nF hM g1) hbb ⟨fun q => ⟨g2, by omega, fun z => bad 4 j (by rw [if_neg (fun y => y q), if_pos z]) Y _ _ _ _ g1, fun z => good p' (by rw [if_neg (fun y => y q), if_neg z]) (by omega) a4 Y _ _ _ _ g1 g2 g3⟩, fun q => bad 1 j (by rw [if_pos q]) Y _ _ _ _ g1⟩
end xk_pm
