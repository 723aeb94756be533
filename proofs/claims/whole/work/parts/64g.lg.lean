/-! text: THE LAW, the pile and what lies on it -/
def lh : LA → Nat → Option Nat
  | [], h => some h
  | s :: r, h => if s.1 < 9 then (if h < 30 then lh r (h + 1) else none) else if s.1 < 13 then none else if s.1 = 16 then (if 1 ≤ h ∧ ¬ s.2 = 0 then lh r h else none) else if s.1 = 20 then (if 1 ≤ h then lh r h else none) else if s.1 < 23 then (if 2 ≤ h then lh r (h - 1) else none) else none
def lt2 : LA → List Bool → Option (List Bool)
  | [], ts => some ts
  | s :: r, ts => if s.1 < 9 then lt2 r (false :: ts) else if s.1 = 16 then (match ts with
      | _ :: q => lt2 r (false :: q)
      | [] => none) else if s.1 = 20 then (match ts with
      | true :: q => lt2 r (true :: q)
      | _ => none) else if s.1 < 17 then (match ts with
      | _ :: _ :: q => lt2 r (false :: q)
      | _ => none) else if s.1 < 20 then (match ts with
      | _ :: _ :: q => lt2 r (true :: q)
      | _ => none) else (match ts with
      | true :: true :: q => lt2 r (true :: q)
      | _ => none)
def lv1 (s : Nat × Nat) : Prop := s.1 < 23 ∧ ¬ (9 ≤ s.1 ∧ s.1 < 13) ∧ (s.1 = 0 → s.2 ≤ 9999) ∧ (s.1 = 16 → 1 ≤ s.2 ∧ s.2 ≤ 9999)
def lg (c : Nat) (ty : Bool) (e : LA) : Prop := 1 ≤ e.length ∧ (∀ h, h + c ≤ 30 → lh e h = some (h + 1)) ∧ (∀ ts, lt2 e ts = some (ty :: ts)) ∧ ∀ s, s ∈ e → lv1 s
def lE (X : Nat → LA → LR) (P : LA → Prop) : Prop := ∀ i a j b, X i a = some (.inr (j, b)) → ∃ e, b = a ++ e ∧ P e
section xk_lg
variable {tc vl : Nat → Nat} {t i j k f c c' : Nat} {a b e : LA} {ty : Bool}
theorem lh_a : ∀ (a : LA) (h : Nat), lh (a ++ b) h = (lh a h).bind (lh b) := by
  intro a
  induction a with
  | nil => intro h; rfl
  | cons s r ih =>
    intro h
    show lh (s :: (r ++ b)) h = (lh (s :: r) h).bind (lh b)
    simp only [lh]
    repeat' split
    all_goals first | exact ih _ | rfl
theorem lt_a : ∀ (a : LA) (ts : List Bool), lt2 (a ++ b) ts = (lt2 a ts).bind (lt2 b) := by
  intro a
  induction a with
  | nil => intro h; rfl
  | cons s r ih =>
    intro h
    show lt2 (s :: (r ++ b)) h = (lt2 (s :: r) h).bind (lt2 b)
    simp only [lt2]
    repeat' split
    all_goals first | exact ih _ | rfl
theorem lg_m (h : lg c ty e) (hc : c ≤ c') : lg c' ty e := ⟨h.1, fun q hq => h.2.1 q (by omega), h.2.2.1, h.2.2.2⟩
theorem lv_a (h : ∀ s, s ∈ a → lv1 s) (h2 : ∀ s, s ∈ b → lv1 s) : ∀ s, s ∈ a ++ b → lv1 s := by
  intro s hs
  rcases List.mem_append.1 hs with z | z
  · exact h s z
  · exact h2 s z
theorem lv_1 {s : Nat × Nat} (h : lv1 s) : ∀ x, x ∈ [s] → lv1 x := by
  intro x hx
  rw [List.mem_singleton.1 hx]; exact h
theorem lg_u {s v : Nat} (hs : s < 9) (hv : v ≤ 9999) : lg 1 false [(s, v)] := by
  refine ⟨Nat.le_refl 1, fun h hh => ?_, fun ts => ?_, lv_1 ⟨by show s < 23; omega, by show ¬ (9 ≤ s ∧ s < 13); omega, fun _ => hv, fun z => absurd z (by show ¬ s = 16; omega)⟩⟩
  · simp only [lh]; rw [if_pos hs, if_pos (by omega)]
  · simp only [lt2]; rw [if_pos hs]
/-- two and a sign -/
theorem lg_2 {s : Nat} {t1 t2 : Bool} {x : LA} (h1 : lg c t1 e) (h2 : lg c' t1 x) (hc : c' + 1 ≤ c) (hs : 13 ≤ s ∧ s < 23 ∧ ¬ s = 16 ∧ ¬ s = 20) (ht : t2 = (if s < 17 then false else true)) (ht1 : 20 < s → t1 = true) : lg c t2 ((e ++ x) ++ [(s, 0)]) := by
  refine ⟨by rw [List.length_append, List.length_singleton]; omega, fun h hh => ?_, fun ts => ?_, lv_a (lv_a h1.2.2.2 h2.2.2.2) (lv_1 ⟨by show s < 23; omega, by show ¬ (9 ≤ s ∧ s < 13); omega, fun z => absurd z (by show ¬ s = 0; omega), fun z => absurd z (by show ¬ s = 16; omega)⟩)⟩
  · rw [lh_a, lh_a, h1.2.1 h hh]
    show Option.bind (lh x (h + 1)) _ = _
    rw [h2.2.1 (h + 1) (by omega)]
    show lh [(s, 0)] (h + 1 + 1) = _
    simp only [lh]
    rw [if_neg (by omega), if_neg (by omega), if_neg (by omega), if_neg (by omega), if_pos (by omega), if_pos (by omega)]
    rfl
  · rw [lt_a, lt_a, h1.2.2.1 ts]
    show Option.bind (lt2 x (t1 :: ts)) _ = _
    rw [h2.2.2.1]
    show lt2 [(s, 0)] (t1 :: t1 :: ts) = _
    simp only [lt2]
    rw [if_neg (by omega), if_neg (by omega), if_neg (by omega)]
    by_cases q : s < 17
    · rw [if_pos q, ht, if_pos q]
    · rw [if_neg q, ht, if_neg q]
      by_cases q2 : s < 20
      · rw [if_pos q2]
      · rw [if_neg q2, ht1 (by omega)]
theorem lg_d {v : Nat} (h1 : lg c false e) (hv : 1 ≤ v ∧ v ≤ 9999) : lg c false (e ++ [(16, v)]) := by
  refine ⟨by rw [List.length_append, List.length_singleton]; omega, fun h hh => ?_, fun ts => ?_, lv_a h1.2.2.2 (lv_1 ⟨by show 16 < 23; omega, by show ¬ (9 ≤ 16 ∧ 16 < 13); omega, fun z => absurd z (by show ¬ 16 = 0; omega), fun _ => hv⟩)⟩
  · rw [lh_a, h1.2.1 h hh]
    show lh [(16, v)] (h + 1) = _
    simp only [lh]
    rw [if_neg (by omega), if_neg (by omega), if_pos trivial, if_pos ⟨by omega, by omega⟩]
  · rw [lt_a, h1.2.2.1 ts]
    rfl
theorem lg_n (h1 : lg c true e) : lg c true (e ++ [(20, 0)]) := by
  refine ⟨by rw [List.length_append, List.length_singleton]; omega, fun h hh => ?_, fun ts => ?_, lv_a h1.2.2.2 (lv_1 ⟨by decide, by decide, fun z => absurd z (by decide), fun z => absurd z (by decide)⟩)⟩
  · rw [lh_a, h1.2.1 h hh]
    show lh [(20, 0)] (h + 1) = _
    simp only [lh]
    rw [if_neg (by omega), if_neg (by omega), if_neg (by omega), if_pos trivial, if_pos (by omega)]
  · rw [lt_a, h1.2.2.1 ts]
    rfl
theorem lE_U (hv : ∀ i, tc i = 2 → vl i ≤ 9999) : lE (spU tc vl) (lg 1 false) := by
  intro i a j b h
  unfold spU at h
  by_cases q1 : tc i = 2
  · rw [if_pos q1] at h
    have h := Prod.mk.inj (Sum.inr.inj (Option.some.inj h))
    exact ⟨_, h.2.symm, lg_u (by omega) (hv i q1)⟩
  · rw [if_neg q1] at h
    by_cases q2 : 41 ≤ tc i ∧ tc i ≤ 48
    · rw [if_pos q2] at h
      have h := Prod.mk.inj (Sum.inr.inj (Option.some.inj h))
      exact ⟨_, h.2.symm, lg_u (by omega) (by omega)⟩
    · rw [if_neg q2] at h; exact absurd h (by simp)
theorem lE_PL (hv : ∀ i, tc i = 2 → vl i ≤ 9999) : ∀ f i a j b, spPL tc vl f i a = some (.inr (j, b)) → ∃ e, b = a ++ e ∧ ∀ e0, lg 2 false e0 → lg 2 false (e0 ++ e) := by
  intro f
  induction f with
  | zero => intro i a j b h; exact absurd h (by simp [spPL])
  | succ f ih =>
    intro i a j b h
    rw [spPL] at h
    by_cases q1 : tc i = 142
    · rw [if_pos q1] at h
      obtain ⟨j1, b1, e1, e2⟩ := bnd_r h
      obtain ⟨x, x1, x2⟩ := lE_U hv _ _ _ _ e1
      obtain ⟨y, y1, y2⟩ := ih _ _ _ _ e2
      refine ⟨(x ++ [(15, 0)]) ++ y, by rw [y1, x1]; simp only [List.append_assoc], fun e0 h0 => ?_⟩
      have := y2 _ (lg_2 (s := 15) (t2 := false) h0 x2 (by omega) (by omega) rfl (fun z => absurd z (by omega)))
      simpa only [List.append_assoc] using this
    · rw [if_neg q1] at h
      by_cases q2 : tc i = 147
      · rw [if_pos q2] at h
        by_cases q3 : tc (i + 1) = 2
        · rw [if_neg (fun z => z q3)] at h
          by_cases q4 : vl (i + 1) = 0
          · rw [if_pos q4] at h; exact absurd h (by simp)
          · rw [if_neg q4] at h
            obtain ⟨y, y1, y2⟩ := ih _ _ _ _ h
            refine ⟨[(16, vl (i + 1))] ++ y, by rw [y1]; simp only [List.append_assoc], fun e0 h0 => ?_⟩
            have := y2 _ (lg_d (v := vl (i + 1)) h0 ⟨by omega, hv _ q3⟩)
            simpa only [List.append_assoc] using this
        · rw [if_pos q3] at h; exact absurd h (by simp)
      · rw [if_neg q2] at h
        have h := Prod.mk.inj (Sum.inr.inj (Option.some.inj h))
        exact ⟨[], by rw [← h.2, List.append_nil], fun e0 h0 => by rw [List.append_nil]; exact h0⟩
theorem lE_P (hv : ∀ i, tc i = 2 → vl i ≤ 9999) : lE (spP tc vl) (lg 2 false) := by
  intro i a j b h
  obtain ⟨j1, b1, e1, e2⟩ := bnd_r h
  obtain ⟨x, x1, x2⟩ := lE_U hv _ _ _ _ e1
  obtain ⟨y, y1, y2⟩ := lE_PL hv _ _ _ _ _ e2
  exact ⟨x ++ y, by rw [y1, x1, List.append_assoc], y2 _ (lg_m x2 (by omega))⟩
def opG (ty : Bool) (op : Nat → Nat) : Prop := ∀ c, op c = 0 ∨ (13 ≤ op c ∧ op c < 23 ∧ ¬ op c = 16 ∧ ¬ op c = 20 ∧ ty = (if op c < 17 then false else true) ∧ (20 < op c → ty = true))
theorem lE_lp {op : Nat → Nat} {X : Nat → LA → LR} (ho : opG ty op) (hX : lE X (lg c ty)) : ∀ f i a j b, lpS tc op X f i a = some (.inr (j, b)) → ∃ e, b = a ++ e ∧ ∀ e0, lg (c + 1) ty e0 → lg (c + 1) ty (e0 ++ e) := by
  intro f
  induction f with
  | zero => intro i a j b h; exact absurd h (by simp [lpS])
  | succ f ih =>
    intro i a j b h
    rw [lpS] at h
    by_cases q1 : op (tc i) = 0
    · rw [if_pos q1] at h
      have h := Prod.mk.inj (Sum.inr.inj (Option.some.inj h))
      exact ⟨[], by rw [← h.2, List.append_nil], fun e0 h0 => by rw [List.append_nil]; exact h0⟩
    · rw [if_neg q1] at h
      obtain ⟨o1, o2, o3, o4, o5, o6⟩ := (ho (tc i)).resolve_left q1
      obtain ⟨j1, b1, e1, e2⟩ := bnd_r h
      obtain ⟨x, x1, x2⟩ := hX _ _ _ _ e1
      obtain ⟨y, y1, y2⟩ := ih _ _ _ _ e2
      refine ⟨(x ++ [(op (tc i), 0)]) ++ y, by rw [y1, x1]; simp only [List.append_assoc], fun e0 h0 => ?_⟩
      have := y2 _ (lg_2 (s := op (tc i)) (t2 := ty) h0 x2 (by omega) ⟨o1, o2, o3, o4⟩ o5 o6)
      simpa only [List.append_assoc] using this
theorem lE_ch {op : Nat → Nat} {X : Nat → LA → LR} (ho : opG ty op) (hX : lE X (lg c ty)) : lE (chS tc op X) (lg (c + 1) ty) := by
  intro i a j b h
  obtain ⟨j1, b1, e1, e2⟩ := bnd_r h
  obtain ⟨x, x1, x2⟩ := hX _ _ _ _ e1
  obtain ⟨y, y1, y2⟩ := lE_lp ho hX _ _ _ _ _ e2
  exact ⟨x ++ y, by rw [y1, x1, List.append_assoc], y2 _ (lg_m x2 (by omega))⟩
theorem oS_g : opG false opS := fun c => by
  unfold opS
  split
  · exact .inr (by decide)
  · split
    · exact .inr (by decide)
    · exact .inl rfl
theorem oV_g : opG true opV := fun c => by
  unfold opV
  split
  · exact .inr (by decide)
  · exact .inl rfl
theorem oA_g : opG true opA := fun c => by
  unfold opA
  split
  · exact .inr (by decide)
  · exact .inl rfl
theorem lE_S (hv : ∀ i, tc i = 2 → vl i ≤ 9999) : lE (spS tc vl) (lg 3 false) := lE_ch oS_g (lE_P hv)
theorem lE_A {C : Nat → LA → LR} (h : lE C (lg c true)) : lE (spA tc C) (lg (c + 2) true) := lE_ch oA_g (lE_ch oV_g h)
theorem lE_M (hv : ∀ i, tc i = 2 → vl i ≤ 9999) : lE (spM tc vl) (lg 4 true) := by
  intro i a j b h
  obtain ⟨j1, b1, e1, e2⟩ := bnd_r h
  obtain ⟨x, x1, x2⟩ := lE_S hv _ _ _ _ e1
  by_cases q : 160 ≤ tc j1 ∧ tc j1 ≤ 162
  · rw [if_pos q] at e2
    obtain ⟨j2, b2, e3, e4⟩ := bnd_r e2
    obtain ⟨y, y1, y2⟩ := lE_S hv _ _ _ _ e3
    have e4 := Prod.mk.inj (Sum.inr.inj (Option.some.inj e4))
    refine ⟨(x ++ y) ++ [(tc j1 - 143, 0)], by rw [← e4.2, y1, x1]; simp only [List.append_assoc], ?_⟩
    exact lg_2 (lg_m x2 (by omega)) y2 (by omega) (by omega) (by rw [if_neg (by omega)]) (fun z => absurd z (by omega))
  · rw [if_neg q] at e2; exact absurd e2 (by simp)
theorem lE_C (hv : ∀ i, tc i = 2 → vl i ≤ 9999) : ∀ k, lE (spC tc vl k) (lg (4 + 2 * k) true) := by
  intro k
  induction k with
  | zero =>
    intro i a j b h
    unfold spC at h
    by_cases q : tc i = 6 ∨ tc i = 140
    · rw [if_pos q] at h; exact absurd h (by simp)
    · rw [if_neg q] at h; exact lE_M hv _ _ _ _ h
  | succ k ih =>
    intro i a j b h
    unfold spC at h
    by_cases q : tc i = 6
    · rw [if_pos q] at h
      obtain ⟨j1, b1, e1, e2⟩ := bnd_r h
      obtain ⟨x, x1, x2⟩ := ih _ _ _ _ e1
      have e4 := Prod.mk.inj (Sum.inr.inj (Option.some.inj e2))
      exact ⟨x ++ [(20, 0)], by rw [← e4.2, x1, List.append_assoc], lg_m (lg_n x2) (by omega)⟩
    · rw [if_neg q] at h
      by_cases q : tc i = 140
      · rw [if_pos q] at h
        obtain ⟨j1, b1, e1, e2⟩ := bnd_r h
        obtain ⟨x, x1, x2⟩ := lE_A ih _ _ _ _ e1
        by_cases q2 : tc j1 = 141
        · rw [if_pos q2] at e2
          have e4 := Prod.mk.inj (Sum.inr.inj (Option.some.inj e2))
          exact ⟨x, by rw [← e4.2, x1], lg_m x2 (by omega)⟩
        · rw [if_neg q2] at e2; exact absurd e2 (by simp)
      · rw [if_neg q] at h
        obtain ⟨x, x1, x2⟩ := lE_M hv _ _ _ _ h
        exact ⟨x, x1, lg_m x2 (by omega)⟩
theorem lE_W (hv : ∀ i, tc i = 2 → vl i ≤ 9999) (h : spW tc vl i a = some (.inr (j, b))) : ∃ e, b = a ++ e ∧ (e = [] ∨ lg 22 true e) := by
  unfold spW at h
  by_cases q : tc i = 3
  · rw [if_pos q] at h
    obtain ⟨x, x1, x2⟩ := lE_A (lE_C hv 8) _ _ _ _ h
    exact ⟨x, x1, .inr x2⟩
  · rw [if_neg q] at h
    have e4 := Prod.mk.inj (Sum.inr.inj (Option.some.inj h))
    exact ⟨[], by rw [← e4.2, List.append_nil], .inl rfl⟩
end xk_lg
