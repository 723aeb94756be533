/-! text: THE WAY -/
/-- what reading a text may have changed: the class's drafts; the model's -/
def gF (I X : Nat → xw) : Prop := ∀ a, ¬ (110 ≤ a ∧ a < 126) → X a = I a
def nF (I X : Nat → xw) : Prop := (∀ a, ¬ a = 126 → ¬ (131 ≤ a ∧ a < 135) → X a = I a) ∧ ∀ j, ¬ ((14 ≤ j ∧ j < 18) ∨ j = 23 ∨ j = 24 ∨ j = 26 ∨ j = 28) → X 126 j = I 126 j
def wyS (tc vl : Nat → Nat) : Nat → Nat → List (Nat × Nat) → Option ((Nat × Nat) ⊕ List (Nat × Nat))
  | 0, _, _ => none
  | f + 1, i, acc => if tc i = 0 then some (.inr acc) else if ¬ (20 ≤ tc i ∧ tc i ≤ 23) then some (.inl (1, i)) else if acc.length = 8 then some (.inl (3, i)) else if ¬ tc (i + 1) = 2 then some (.inl (1, i + 1)) else if ¬ (1 ≤ vl (i + 1) ∧ vl (i + 1) ≤ (if tc i = 23 then 9 else 99)) then some (.inl (2, i + 1)) else if ¬ tc (i + 1 + 1) = 159 then some (.inl (1, i + 1 + 1)) else wyS tc vl f (i + 1 + 1 + 1) (acc ++ [(tc i - 20, vl (i + 1))])
/-- the stretches as they were read -/
def wyR (a : List (Nat × Nat)) (S L : xw) : Prop := ∀ k, k < a.length → S k = nI (a.getD k (0, 0)).1 ∧ L k = nI (a.getD k (0, 0)).2
section yk_tw
variable {d : Nat} {g : xq_V} {J : Nat → Nat → Int64} {I X : Nat → xw} {Q : Option Value → xq_S → Prop} {r t i a j k : Nat} {tc vl ss en : Nat → Nat} {v : Int32}
theorem gF_0 : gF I I := fun _ _ => rfl
theorem gF_w (h : gF I X) (ha : 110 ≤ a ∧ a < 126) : gF I (xq_w X a j v) := by
  intro b b1
  rw [xw_i (by omega)]; exact h b b1
theorem nF_0 : nF I I := ⟨fun _ _ _ => rfl, fun _ _ => rfl⟩
theorem nF_w (h : nF I X) (ha : (131 ≤ a ∧ a < 135) ∨ (a = 126 ∧ ((14 ≤ j ∧ j < 18) ∨ j = 23 ∨ j = 24 ∨ j = 26 ∨ j = 28))) : nF I (xq_w X a j v) := by
  refine ⟨fun b b1 b2 => ?_, fun k k1 => ?_⟩
  · rw [xw_i (by omega)]; exact h.1 b b1 b2
  · by_cases e : a = 126
    · subst e; rw [xw_x (by omega)]; exact h.2 k k1
    · rw [xw_i (fun z => e z.symm)]; exact h.2 k k1
theorem cT_gF (h : cT r I t tc vl ss) (hf : gF I X) : cT r X t tc vl ss := cT_fr h (by rw [hf 104 (by omega)]) (fun a a1 a2 => hf a (by omega))
/-- a fault, told -/
theorem cT_ff {u w : Int32} (h : cT r I t tc vl ss) (hf : gF I X) : cT r (xq_w (xq_w X 104 8 u) 104 9 w) t tc vl ss := cT_w (by omega) (cT_w (by omega) (cT_gF h hf))
theorem mT_nF (h : mT r I t tc vl ss en) (hf : nF I X) : mT r X t tc vl ss en := mT_fr h (hf.2 13 (by omega)) (hf.2 18 (by omega)) (hf.1 135 (by omega) (by omega))
theorem c_lt (h : cT r I t tc vl ss) (hi : i ≤ t) (h0 : ¬ tc i = 0) : i + 1 ≤ t := (cT_n h h0 hi).1
theorem m_lt (h : mT r I t tc vl ss en) (hi : i ≤ t) (h0 : ¬ tc i = 0) : i + 1 ≤ t := by
  have := mT_0 h hi
  rcases Nat.lt_or_ge i t with z | z
  · exact z
  · exact absurd (this.mpr (by omega)) h0
theorem wyR_s {acc : List (Nat × Nat)} {S L : xw} {p : Nat × Nat} (h : wyR acc S L) (e1 : ∀ k, k < acc.length → (upd S acc.length (nI p.1)) k = S k) : wyR (acc ++ [p]) (upd S acc.length (nI p.1)) (upd L acc.length (nI p.2)) := by
  intro k hk
  rw [List.length_append] at hk
  simp only [List.length_cons, List.length_nil] at hk
  by_cases e : k = acc.length
  · subst e
    rw [upd_eq, upd_eq, List.getD_eq_getElem?_getD, List.getElem?_append_right (Nat.le_refl _), Nat.sub_self]
    exact ⟨rfl, rfl⟩
  · rw [upd_ne e, upd_ne e, List.getD_eq_getElem?_getD, List.getElem?_append_left (by omega), ← List.getD_eq_getElem?_getD]
    exact h k (by omega)
theorem xw_row {X : Nat → xw} {a j : Nat} {v : Int32} : xq_w X a j v a = upd (X a) j v := by rw [xq_w, xv_eq]
theorem yl_46_7 (hT : cT 1 I t tc vl ss) : ∀ (f i : Nat) (acc : List (Nat × Nat)) (X : Nat → xw) (u3 : Value), 8 < acc.length + f → acc.length ≤ 8 → i ≤ t → gF I X → X 110 5 = nI acc.length → wyR acc (X 115) (X 116) → (∀ k j, wyS tc vl f i acc = some (.inl (k, j)) → ∀ (Y : Nat → xw) (j' : Nat), gF I Y → Q (some (.int (nI 0))) (xq_s g J (rs (xq_w (xq_w Y 104 8 (nI k)) 104 9 (nI (ss j))) j'))) → (∀ a, wyS tc vl f i acc = some (.inr a) → a.length ≤ 8 → ∀ (Y : Nat → xw) (j' : Nat), gF I Y → Y 110 5 = nI a.length → (∀ b, 110 ≤ b → b < 115 → ∀ j, ¬ (b = 110 ∧ j = 5) → Y b j = X b j) → wyR a (Y 115) (Y 116) → Q (some (.int (nI 1))) (xq_s g J (rs Y j'))) → xq_wp (d + 2) 46 (xq_s g J (rs X i)) 7 [.ref 110, .ref 104, .int (nI acc.length), u3] [] Q := by
  intro f
  induction f with
  | zero => intro i acc X u3 h1 h2; omega
  | succ f ih =>
    intro i acc X u3 h1 h2 hi hF h5 hR bad good
    have hX := cT_gF hT hF
    have hs : ∀ x, wyS tc vl (f + 1) i acc = x ↔ (if tc i = 0 then some (.inr acc) else if ¬ (20 ≤ tc i ∧ tc i ≤ 23) then some (.inl (1, i)) else if acc.length = 8 then some (.inl (3, i)) else if ¬ tc (i + 1) = 2 then some (.inl (1, i + 1)) else if ¬ (1 ≤ vl (i + 1) ∧ vl (i + 1) ≤ (if tc i = 23 then 9 else 99)) then some (.inl (2, i + 1)) else if ¬ tc (i + 1 + 1) = 159 then some (.inl (1, i + 1 + 1)) else wyS tc vl f (i + 1 + 1 + 1) (acc ++ [(tc i - 20, vl (i + 1))])) = x := fun x => Iff.rfl
    simp only [hs] at bad good
    -- a stretch of sort so
    have b3 : 20 ≤ tc i ∧ tc i ≤ 23 → acc.length = 8 → Q (some (.int (nI 0))) (xq_s g J (rs (xq_w (xq_w X 104 8 (nI 3)) 104 9 (nI (ss i))) i)) := fun q q8 => bad 3 i (by rw [if_neg (by omega), if_neg (fun z => z q), if_pos q8]) X i hF
    have b1 : 20 ≤ tc i ∧ tc i ≤ 23 → ¬ acc.length = 8 → ¬ tc (i + 1) = 2 → Q (some (.int (nI 0))) (xq_s g J (rs (xq_w (xq_w X 104 8 (nI 1)) 104 9 (nI (ss (i + 1)))) (i + 1))) := fun q q8 q2 => bad 1 (i + 1) (by rw [if_neg (by omega), if_neg (fun z => z q), if_neg q8, if_pos q2]) X _ hF
    have b2 : 20 ≤ tc i ∧ tc i ≤ 23 → ¬ acc.length = 8 → tc (i + 1) = 2 → ¬ (1 ≤ vl (i + 1) ∧ vl (i + 1) ≤ (if tc i = 23 then 9 else 99)) → Q (some (.int (nI 0))) (xq_s g J (rs (xq_w (xq_w X 104 8 (nI 2)) 104 9 (nI (ss (i + 1)))) (i + 1))) := fun q q8 q2 q3 => bad 2 (i + 1) (by rw [if_neg (by omega), if_neg (fun z => z q), if_neg q8, if_neg (fun z => z q2), if_pos q3]) X _ hF
    have b4 : 20 ≤ tc i ∧ tc i ≤ 23 → ¬ acc.length = 8 → tc (i + 1) = 2 → (1 ≤ vl (i + 1) ∧ vl (i + 1) ≤ (if tc i = 23 then 9 else 99)) → ¬ tc (i + 1 + 1) = 159 → ∀ so, Q (some (.int (nI 0))) (xq_s g J (rs (xq_w (xq_w (xq_w (xq_w X 115 acc.length (nI so)) 116 acc.length (nI (vl (i + 1)))) 104 8 (nI 1)) 104 9 (nI (ss (i + 1 + 1)))) (i + 1 + 1))) := fun q q8 q2 q3 q4 so => bad 1 (i + 1 + 1) (by rw [if_neg (by omega), if_neg (fun z => z q), if_neg q8, if_neg (fun z => z q2), if_neg (fun z => z q3), if_pos q4]) _ _ (gF_w (gF_w hF (by omega)) (by omega))
    have nx : 20 ≤ tc i ∧ tc i ≤ 23 → ¬ acc.length = 8 → tc (i + 1) = 2 → (1 ≤ vl (i + 1) ∧ vl (i + 1) ≤ (if tc i = 23 then 9 else 99)) → tc (i + 1 + 1) = 159 → ∀ so, so = tc i - 20 → ∀ u3 : Value, xq_wp (d + 2) 46 (xq_s g J (rs (xq_w (xq_w (xq_w X 115 acc.length (nI so)) 116 acc.length (nI (vl (i + 1)))) 110 5 (nI (acc.length + 1))) (i + 1 + 1 + 1))) 7 [.ref 110, .ref 104, .int (nI (acc.length + 1)), u3] [] Q := fun q q8 q2 q3 q4 so eso u3 => by
      subst eso
      rw [if_neg (by omega), if_neg (fun z => z q), if_neg q8, if_neg (fun z => z q2), if_neg (fun z => z q3), if_neg (fun z => z q4)] at bad good
      have i1 := c_lt hX hi (by omega)
      have i2 := c_lt hX i1 (by omega)
      have i3 := c_lt hX i2 (by omega)
      have el : acc.length + 1 = (acc ++ [(tc i - 20, vl (i + 1))]).length := by rw [List.length_append]; rfl
      rw [el]
      refine ih (i + 1 + 1 + 1) _ _ _ (by omega) (by omega) i3 (gF_w (gF_w (gF_w hF (by omega)) (by omega)) (by omega)) xw_v ?_ bad (fun a ea la Y j' g1 g2 g3 g4 => good a ea la Y j' g1 g2 (fun b hb1 hb2 j hj => ?_) g4)
      · rw [xw_i (by omega), xw_i (by omega), xw_row, xw_i (by omega), xw_row, xw_i (by omega)]
        exact wyR_s hR (fun k hk => upd_ne (by omega))
      · rw [g3 b hb1 hb2 j hj]
        by_cases e : b = 110
        · subst e; rw [xw_x (by omega), xw_i (by omega), xw_i (by omega)]
        · rw [xw_i e, xw_i (by omega), xw_i (by omega)]
    have i1 : ¬ tc i = 0 → i + 1 ≤ t := fun z => c_lt hX hi z
    have i2 : ¬ tc i = 0 → tc (i + 1) = 2 → i + 1 + 1 ≤ t := fun z z2 => c_lt hX (i1 z) (by omega)
    have l8 : ¬ acc.length = 8 → acc.length < 8 := fun z => by omega
    refine tw_46_7 (d := d) hX ⟨by omega, fun z => by omega, fun _ => ⟨hi, fun z => good acc (by rw [if_pos z]) h2 X i hF h5 (fun _ _ _ _ _ => rfl) hR, fun z0 => ⟨fun z => ?_, fun z => ⟨fun z => ?_, fun z => ⟨fun z => ?_, fun z => ⟨fun z => ?_, fun z => ?_⟩⟩⟩⟩⟩⟩
    · have q : 20 ≤ tc i ∧ tc i ≤ 23 := by omega
      have e9 : (if tc i = 23 then 9 else 99) = 99 := by rw [if_neg (by omega)]
      rw [e9] at b2 b4 nx
      exact ⟨h5, b3 q, fun q8 => ⟨z0, i1 z0, by omega, fun q2 => ⟨fun qv => ⟨h5, l8 q8, h5, i2 z0 q2, fun qs => ⟨h5, nx q q8 q2 qv qs 0 (by omega) _⟩, fun qs => b4 q q8 q2 qv qs 0⟩, fun qv => b2 q q8 q2 qv⟩, fun q2 => b1 q q8 q2⟩⟩
    · have q : 20 ≤ tc i ∧ tc i ≤ 23 := by omega
      have e9 : (if tc i = 23 then 9 else 99) = 99 := by rw [if_neg (by omega)]
      rw [e9] at b2 b4 nx
      exact ⟨h5, b3 q, fun q8 => ⟨z0, i1 z0, by omega, fun q2 => ⟨fun qv => ⟨h5, l8 q8, h5, i2 z0 q2, fun qs => ⟨h5, nx q q8 q2 qv qs 1 (by omega) _⟩, fun qs => b4 q q8 q2 qv qs 1⟩, fun qv => b2 q q8 q2 qv⟩, fun q2 => b1 q q8 q2⟩⟩
    · have q : 20 ≤ tc i ∧ tc i ≤ 23 := by omega
      have e9 : (if tc i = 23 then 9 else 99) = 99 := by rw [if_neg (by omega)]
      rw [e9] at b2 b4 nx
      exact ⟨h5, b3 q, fun q8 => ⟨z0, i1 z0, by omega, fun q2 => ⟨fun qv => ⟨h5, l8 q8, h5, i2 z0 q2, fun qs => ⟨h5, nx q q8 q2 qv qs 2 (by omega) _⟩, fun qs => b4 q q8 q2 qv qs 2⟩, fun qv => b2 q q8 q2 qv⟩, fun q2 => b1 q q8 q2⟩⟩
    · have q : 20 ≤ tc i ∧ tc i ≤ 23 := by omega
      have e9 : (if tc i = 23 then 9 else 99) = 9 := by rw [if_pos z]
      rw [e9] at b2 b4 nx
      exact ⟨h5, b3 q, fun q8 => ⟨z0, i1 z0, by omega, fun q2 => ⟨fun qv => ⟨h5, l8 q8, h5, i2 z0 q2, fun qs => ⟨h5, nx q q8 q2 qv qs 3 (by omega) _⟩, fun qs => b4 q q8 q2 qv qs 3⟩, fun qv => b2 q q8 q2 qv⟩, fun q2 => b1 q q8 q2⟩⟩
    · exact bad 1 i (by rw [if_neg z0, if_pos (by omega)]) X i hF
/-- the model -/
def wyM (a : List (Nat × Nat)) (F : xw) : Prop := ∀ k, k < a.length → F (4 * k) = nI (a.getD k (0, 0)).1 ∧ F (4 * k + 1) = nI (a.getD k (0, 0)).2
theorem xl_199_1 (hM : mT 1 I t tc vl ss en) : ∀ (f i : Nat) (acc : List (Nat × Nat)) (X : Nat → xw) (v : Int32), acc.length ≤ 8 → i ≤ t → nF I X → X 126 16 = nI acc.length → wyM acc (X 133) → (∀ k j, wyS tc vl f i acc = some (.inl (k, j)) → ∀ (Y : Nat → xw) (e c s : Nat) (v : Int32), nF I Y → Q (some (.int (nI 0))) (xq_s g J (ms (xq_w (xq_w Y 126 23 (nI k)) 126 24 (nI (ss j))) e c s v))) → (∀ a, wyS tc vl f i acc = some (.inr a) → a.length ≤ 8 → ∀ (Y : Nat → xw) (e c s : Nat) (v : Int32), nF I Y → Y 126 16 = nI a.length → wyM a (Y 133) → Q (some (.int (nI 1))) (xq_s g J (ms Y e c s v))) → ¬ wyS tc vl f i acc = none → xq_wp (d + 6) 199 (xq_s g J (ms X (en i) (tc i) (ss i) v)) 7 [.ref 126, .int (nI 1)] [] Q := by
  intro f
  induction f with
  | zero => intro i acc X v h1 h2 h3 h4 h5 bad good no; exact absurd rfl no
  | succ f ih =>
    intro i acc X v h2 hi hF h16 hR bad good no
    have hX := mT_nF hM hF
    have hb : ∀ k, tc k < 2147483648 := fun k => by have := mT_b hM k; omega
    have hbi := mT_b hM i
    have hs : ∀ x, wyS tc vl (f + 1) i acc = x ↔ (if tc i = 0 then some (.inr acc) else if ¬ (20 ≤ tc i ∧ tc i ≤ 23) then some (.inl (1, i)) else if acc.length = 8 then some (.inl (3, i)) else if ¬ tc (i + 1) = 2 then some (.inl (1, i + 1)) else if ¬ (1 ≤ vl (i + 1) ∧ vl (i + 1) ≤ (if tc i = 23 then 9 else 99)) then some (.inl (2, i + 1)) else if ¬ tc (i + 1 + 1) = 159 then some (.inl (1, i + 1 + 1)) else wyS tc vl f (i + 1 + 1 + 1) (acc ++ [(tc i - 20, vl (i + 1))])) = x := fun x => Iff.rfl
    simp only [hs] at bad good no
    refine tw_199_7_1 (d := d + 5) hX hb ⟨fun z => good acc (by rw [if_pos z]) h2 X _ _ _ _ hF h16 hR, fun z0 => ⟨by rw [hF.2 13 (by omega)]; obtain ⟨l, tp, st, sz, hG, -⟩ := hM; exact hG.2.2.1, ?_⟩⟩
    have e36 : ∀ Y : Nat → xw, ∀ (e c s : Nat) (v : Int32), Q (some (.int (nI 0))) (xq_s g J (ms Y e c s v)) → xq_wp (d + 5 + 1) 199 (xq_s g J (ms Y e c s v)) 36 [.ref 126, .int (nI 1)] [.int (nI 0)] Q := fun Y e c s v q => xq_wp.ret (k := 6) (fun F => rfl) q
    have i1 := m_lt hX hi z0
    by_cases q : 20 ≤ tc i ∧ tc i ≤ 23
    · have es : nI (tc i) - nI 20 = nI (tc i - 20) := pk_sub q.1
      rw [if_neg z0, if_neg (fun z => z q)] at bad good no
      refine tw_202 (d := d + 4) hX hb ?_
      rw [es]
      refine ⟨fun y => by rw [xn_lt (by omega) (by omega)] at y; omega, fun _ => ⟨fun y => by rw [xn_lt (by omega) (by omega)] at y; omega, fun _ => ?_⟩⟩
      have q23 : tc i - 20 = 3 ↔ tc i = 23 := by omega
      refine tw_202_23 (d := d) hX hb (k := acc.length) ⟨h16, by omega, fun q8 => e36 _ _ _ _ _ (bad 3 i (by rw [if_pos q8]) X _ _ _ _ hF), fun q8 => ⟨z0, hi, fun v1 hv1 => ?_⟩⟩
      rw [if_neg q8] at bad good no
      have nx : tc (i + 1) = 2 → (1 ≤ vl (i + 1) ∧ vl (i + 1) ≤ (if tc i = 23 then 9 else 99)) → tc (i + 1 + 1) = 159 → ∀ v3 : Int32, xq_wp (d + 5 + 1) 199 (xq_s g J (ms (xq_w (xq_w (xq_w (xq_w X 126 28 (nI (vl (i + 1)))) 133 (4 * acc.length) (nI (tc i - 20))) 133 (4 * acc.length + 1) (nI (vl (i + 1)))) 126 16 (nI (acc.length + 1))) (en (i + 1 + 1 + 1)) (tc (i + 1 + 1 + 1)) (ss (i + 1 + 1 + 1)) v3)) 36 [.ref 126, .int (nI 1)] [.int (nI 1)] Q := fun q2 qv qs v3 => by
        rw [if_neg (fun z => z q2), if_neg (fun z => z qv), if_neg (fun z => z qs)] at bad good no
        have i2 := m_lt hX i1 (by omega)
        have i3 := m_lt hX i2 (by omega)
        refine tw_199_36_1 (d := d + 6) hX hb ?_
        have el : (acc ++ [(tc i - 20, vl (i + 1))]).length = acc.length + 1 := by rw [List.length_append]; rfl
        refine ih (i + 1 + 1 + 1) _ _ _ (by rw [el]; omega) i3 (nF_w (nF_w (nF_w (nF_w hF (by omega)) (by omega)) (by omega)) (by omega)) (by rw [xw_v, el]) ?_ bad good no
        rw [xw_i (by omega)]
        intro k hk
        rw [el] at hk
        by_cases e : k = acc.length
        · subst e
          rw [xw_x (by omega), xw_v, xw_v, List.getD_eq_getElem?_getD, List.getElem?_append_right (Nat.le_refl _), Nat.sub_self]
          exact ⟨rfl, rfl⟩
        · have o : ∀ p, ¬ p = 4 * acc.length → ¬ p = 4 * acc.length + 1 → xq_w (xq_w (xq_w X 126 28 (nI (vl (i + 1)))) 133 (4 * acc.length) (nI (tc i - 20))) 133 (4 * acc.length + 1) (nI (vl (i + 1))) 133 p = X 133 p := fun p p1 p2 => by rw [xw_x p2, xw_x p1, xw_i (by omega)]
          rw [o _ (by omega) (by omega), o _ (by omega) (by omega), List.getD_eq_getElem?_getD, List.getElem?_append_left (by omega), ← List.getD_eq_getElem?_getD]
          exact hR k (by omega)
      refine ⟨by omega, fun q3 => ⟨i1, by omega, fun q2 => ⟨fun qv v2 hv2 => ⟨m_lt hX i1 (by omega), fun qs v3 hv3 => ⟨h16, by omega, h16, by omega, h16, nx q2 (by rw [if_pos (q23.mp q3)]; exact qv) qs v3⟩, fun qs => e36 _ _ _ _ _ (bad 1 (i + 1 + 1) ?_ _ _ _ _ _ (nF_w hF (by omega)))⟩, fun qv => e36 _ _ _ _ _ (bad 2 (i + 1) ?_ X _ _ _ _ hF)⟩, fun q2 => e36 _ _ _ _ _ (bad 1 (i + 1) (by rw [if_pos q2]) X _ _ _ _ hF)⟩, fun q3 => ⟨i1, by omega, fun q2 => ⟨fun qv v2 hv2 => ⟨m_lt hX i1 (by omega), fun qs v3 hv3 => ⟨h16, by omega, h16, by omega, h16, nx q2 (by rw [if_neg (fun z => q3 (q23.mpr z))]; exact qv) qs v3⟩, fun qs => e36 _ _ _ _ _ (bad 1 (i + 1 + 1) ?_ _ _ _ _ _ (nF_w hF (by omega)))⟩, fun qv => e36 _ _ _ _ _ (bad 2 (i + 1) ?_ X _ _ _ _ hF)⟩, fun q2 => e36 _ _ _ _ _ (bad 1 (i + 1) (by rw [if_pos q2]) X _ _ _ _ hF)⟩⟩
      · rw [if_neg (fun z => z q2), if_pos (q23.mp q3), if_neg (fun z => z qv), if_pos qs]
      · rw [if_neg (fun z => z q2), if_pos (q23.mp q3), if_pos qv]
      · rw [if_neg (fun z => z q2), if_neg (c := tc i = 23) (fun z => q3 (q23.mpr z)), if_neg (fun z => z qv), if_pos qs]
      · rw [if_neg (fun z => z q2), if_neg (c := tc i = 23) (fun z => q3 (q23.mpr z)), if_pos qv]
    · rw [if_neg z0, if_pos q] at bad
      have bd := bad 1 i rfl X
      refine tw_202 (d := d + 4) hX hb ⟨fun y => e36 _ _ _ _ _ (bd _ _ _ _ hF), fun y => ⟨fun y2 => e36 _ _ _ _ _ (bd _ _ _ _ hF), fun y2 => ?_⟩⟩
      exfalso
      have es := pk_sub_toInt (a := tc i) (b := 20) (by omega) (by omega)
      rw [Int32.lt_iff_toInt_lt, es, nI_toInt (by omega)] at y
      rw [Int32.lt_iff_toInt_lt, es, nI_toInt (by omega)] at y2
      omega
end yk_tw
