/-! text: what the class does with what it read (written by program) -/
/-- the class, once its yard has a new ground: I before, G the draft -/
def gPost (I G X : Nat → xw) : Prop := (∀ a, ¬ (2 ≤ a ∧ a < 9) → ¬ a = 18 → ¬ (21 ≤ a ∧ a < 23) → ¬ (25 ≤ a ∧ a < 28) → ¬ a = 34 → ¬ a = 56 → ¬ a = 104 → ¬ (110 ≤ a ∧ a < 126) → X a = I a) ∧ (X 2 0 = G 110 0 ∧ X 2 5 = G 110 5 ∧ (∀ j, j < 14 → X 3 j = G 111 j ∧ X 4 j = G 112 j ∧ X 5 j = G 113 j ∧ X 6 j = G 114 j) ∧ ∀ j, j < 8 → X 7 j = G 115 j ∧ X 8 j = G 116 j) ∧ ((∀ j, ¬ (9 ≤ j ∧ j < 15) → X 18 j = I 18 j) ∧ X 18 9 = nI 0 ∧ X 18 10 = nI 0 ∧ X 18 11 = nI 0 ∧ X 18 12 = Int32.ofInt (-1) ∧ X 18 13 = nI 0 ∧ X 18 14 = nI 0) ∧ (∀ k, k < 14 → X 21 k = nI k ∧ X 22 k = nI 0 ∧ X 25 k = G 112 k) ∧ (∀ k, k < 70 → X 26 k = nI 0) ∧ (X 27 1 = nI 0 ∧ X 27 0 = I 27 0) ∧ (X 56 3 = nI 0 ∧ X 56 2 = I 56 2) ∧ X 34 4 = nI 0 ∧ X 104 1 = nI 0 ∧ ∀ j, ¬ j = 1 → ¬ j = 7 → X 104 j = I 104 j
section yk_tx
variable {d : Nat} {g : xq_V} {J : Nat → Nat → Int64} {I X Y Z : Nat → xw} {Q : Option Value → xq_S → Prop} {t i j k : Nat} {tc vl ss : Nat → Nat}
theorem sh_110 : shG (xq_s g J I) 110 := by
  refine ⟨fun j hj => ?_, rfl, rfl, rfl, rfl, rfl, rfl⟩
  match j, hj with
  | 0, _ | 1, _ | 2, _ | 3, _ | 4, _ | 5, _ | 6, _ => exact ⟨by show _ < g.1 + 143; omega, rfl⟩
  | j + 7, h => exact absurd h (by omega)
theorem sh_117 : shL (xq_s g J I) 117 := by
  refine ⟨fun j hj => ?_, rfl, rfl⟩
  match j, hj with
  | 0, _ | 1, _ | 2, _ | 3, _ | 4, _ => exact ⟨by show _ < g.1 + 143; omega, rfl⟩
  | j + 5, h => exact absurd h (by omega)
theorem sh_122 : shP (xq_s g J I) 122 := by
  refine ⟨fun j hj => ?_, rfl, rfl, rfl⟩
  match j, hj with
  | 0, _ | 1, _ | 2, _ | 3, _ => exact ⟨by show _ < g.1 + 143; omega, rfl⟩
  | j + 4, h => exact absurd h (by omega)
theorem yl_49n (hp : ∀ X : Nat → xw, (∀ a, ¬ a = 26 → X a = I a) → (∀ k, k < 70 → X 26 k = nI 0) → Q none (xq_s g J X)) : xq_wp d 49 (xq_s g J I) 0 [.ref 26, .int (nI 0), xq_un, xq_un] [] Q := by
  have lp : ∀ (c k : Nat) (X : Nat → xw), k + c = 70 → (∀ a, ¬ a = 26 → X a = I a) → (∀ q, q < k → X 26 q = nI 0) → xq_wp d 49 (xq_s g J X) 5 [.ref 26, .int (nI 0), .int (nI k), .int (nI 70)] [] Q := by
    intro c
    induction c with
    | zero => intro k X hk h1 h2; exact tx_49_5 (d := d) ⟨by omega, fun z => by omega, fun _ => hp X h1 (fun q hq => h2 q (by omega))⟩
    | succ c ih =>
      intro k X hk h1 h2
      refine tx_49_5 (d := d) ⟨by omega, fun _ => ih (k + 1) _ (by omega) (fun a ha => by rw [xw_i ha]; exact h1 a ha) (fun q hq => ?_), fun z => by omega⟩
      by_cases e : q = k
      · subst e; rw [xw_v]
      · rw [xw_x e]; exact h2 q (by omega)
  exact tx_49 (d := d) (lp 70 0 I (by omega) (fun _ _ => rfl) (fun q hq => by omega))
theorem yl_48 (hp : ∀ X : Nat → xw, (∀ a, ¬ a = 18 → ¬ (21 ≤ a ∧ a < 23) → ¬ (25 ≤ a ∧ a < 27) → X a = I a) → ((∀ j, ¬ (9 ≤ j ∧ j < 15) → X 18 j = I 18 j) ∧ X 18 9 = nI 0 ∧ X 18 10 = nI 0 ∧ X 18 11 = nI 0 ∧ X 18 12 = Int32.ofInt (-1) ∧ X 18 13 = nI 0 ∧ X 18 14 = nI 0) → (∀ k, k < 14 → X 21 k = nI k ∧ X 22 k = nI 0 ∧ X 25 k = I 4 k) → (∀ k, k < 70 → X 26 k = nI 0) → Q none (xq_s g J X)) : xq_wp (d + 1) 48 (xq_s g J I) 0 [.ref 18, .ref 2, xq_un] [] Q := by
  have lp : ∀ (c k : Nat) (X : Nat → xw), k + c = 14 → (∀ a, ¬ (21 ≤ a ∧ a < 23) → ¬ a = 25 → X a = I a) → (∀ q, q < k → X 21 q = nI q ∧ X 22 q = nI 0 ∧ X 25 q = I 4 q) → xq_wp (d + 1) 48 (xq_s g J X) 2 [.ref 18, .ref 2, .int (nI k)] [] Q := by
    intro c
    induction c with
    | zero =>
      intro k X hk h1 h2
      refine tx_48_2 (d := d) ⟨by omega, fun z => by omega, fun _ => yl_49n (fun Y y1 y2 => ?_)⟩
      refine tx_48_48 (d := d + 1) (hp _ (fun a a1 a2 a3 => ?_) ⟨fun j hj => ?_, ?_, ?_, ?_, ?_, ?_, ?_⟩ (fun q hq => ?_) (fun q hq => ?_))
      · rw [xw_i a1, xw_i a1, xw_i a1, xw_i a1, xw_i a1, xw_i a1, y1 a (by omega)]; exact h1 a (by omega) (by omega)
      · rw [xw_x (by omega), xw_x (by omega), xw_x (by omega), xw_x (by omega), xw_x (by omega), xw_x (by omega), y1 18 (by omega), h1 18 (by omega) (by omega)]
      · rw [xw_x (by omega), xw_x (by omega), xw_x (by omega), xw_x (by omega), xw_x (by omega), xw_v]
      · rw [xw_x (by omega), xw_x (by omega), xw_x (by omega), xw_x (by omega), xw_v]
      · rw [xw_x (by omega), xw_x (by omega), xw_x (by omega), xw_v]
      · rw [xw_x (by omega), xw_x (by omega), xw_v]
      · rw [xw_x (by omega), xw_v]
      · rw [xw_v]
      · have r : ∀ a, ¬ a = 18 → ¬ a = 26 → xq_w (xq_w (xq_w (xq_w (xq_w (xq_w Y 18 9 (nI 0)) 18 10 (nI 0)) 18 11 (nI 0)) 18 12 (Int32.ofInt (-1))) 18 13 (nI 0)) 18 14 (nI 0) a = X a := fun a a1 a2 => by rw [xw_i a1, xw_i a1, xw_i a1, xw_i a1, xw_i a1, xw_i a1, y1 a a2]
        rw [r 21 (by omega) (by omega), r 22 (by omega) (by omega), r 25 (by omega) (by omega)]
        exact h2 q (by omega)
      · rw [xw_i (by omega), xw_i (by omega), xw_i (by omega), xw_i (by omega), xw_i (by omega), xw_i (by omega)]; exact y2 q hq
    | succ c ih =>
      intro k X hk h1 h2
      refine tx_48_2 (d := d) ⟨by omega, fun _ => ih (k + 1) _ (by omega) (fun a a1 a2 => ?_) (fun q hq => ?_), fun z => by omega⟩
      · rw [xw_i (by omega), xw_i (by omega), xw_i (by omega)]; exact h1 a a1 a2
      · rw [xw_i (show ¬ 21 = 25 by omega), xw_i (show ¬ 21 = 22 by omega), xw_i (show ¬ 22 = 25 by omega)]
        by_cases e : q = k
        · subst e
          rw [xw_v, xw_v, xw_v, h1 4 (by omega) (by omega)]; exact ⟨rfl, rfl, rfl⟩
        · rw [xw_x e, xw_x e, xw_i (show ¬ 22 = 21 by omega), xw_x e, xw_i (show ¬ 25 = 22 by omega), xw_i (show ¬ 25 = 21 by omega)]
          exact h2 q (by omega)
  exact xq_wp.go (k := 2) (fun F => rfl) (lp 14 0 I (by omega) (fun _ _ _ => rfl) (fun q hq => by omega))
theorem yl_gr0 (hY : gF I Y) (hp : ∀ X : Nat → xw, gPost I Y X → Q (some (.int (Y 110 0))) (xq_s g J X)) : xq_wp (d + 3) 31 (xq_s g J (rs Y j)) 29 [.ref 0, .int (nI 0), xq_un] [.int (nI 1)] (fun v x1 => xq_wp (d + 4) 26 x1 23 [.ref 0, .int (nI 0), .int (Int32.ofInt (-1))] (v.toList ++ []) Q) := by
  have ry : ∀ a, ¬ a = 104 → rs Y j a = Y a := fun a ha => xw_i ha
  refine tx_31_29_1 (d := d + 2) (cp_32 sh_y1.2.2.2.2.2.2.2.1 sh_110 (by omega) (fun A a1 a2 a3 a4 a5 a6 a7 a8 a9 => ?_))
  have a1 : ∀ t, t < 2 ∨ 8 < t → A t = rs Y j t := a1
  have a2 : A 2 0 = Y 110 0 := a2.trans (by rw [← ry 110 (by omega)])
  have a3 : A 2 5 = Y 110 5 := a3.trans (by rw [← ry 110 (by omega)])
  have a4 : ∀ j, j < 14 → A 3 j = Y 111 j := fun q hq => (a4 q hq).trans (by rw [← ry 111 (by omega)])
  have a5 : ∀ j, j < 14 → A 4 j = Y 112 j := fun q hq => (a5 q hq).trans (by rw [← ry 112 (by omega)])
  have a6 : ∀ j, j < 14 → A 5 j = Y 113 j := fun q hq => (a6 q hq).trans (by rw [← ry 113 (by omega)])
  have a7 : ∀ j, j < 14 → A 6 j = Y 114 j := fun q hq => (a7 q hq).trans (by rw [← ry 114 (by omega)])
  have a8 : ∀ j, j < 8 → A 7 j = Y 115 j := fun q hq => (a8 q hq).trans (by rw [← ry 115 (by omega)])
  have a9 : ∀ j, j < 8 → A 8 j = Y 116 j := fun q hq => (a9 q hq).trans (by rw [← ry 116 (by omega)])
  refine tx_31_64 (d := d + 2) (g := g) (J := J) (I := A) (yl_48 (d := d + 1) (fun B b1 b2 b3 b4 => ?_))
  have oB : ∀ a, 8 < a → ¬ a = 18 → ¬ (21 ≤ a ∧ a < 23) → ¬ (25 ≤ a ∧ a < 27) → B a = rs Y j a := fun a h1 h2 h3 h4 => (b1 a h2 h3 h4).trans (a1 a (.inr h1))
  have g2 : ∀ a, 2 ≤ a → a < 9 → B a = A a := fun a h1 h2 => b1 a (by omega) (by omega) (by omega)
  refine tx_31_81_0 (d := d + 1) (tx_26_23 (d := d + 3) ?_)
  have e0 : B 2 0 = Y 110 0 := by rw [g2 2 (by omega) (by omega)]; exact a2
  rw [e0]
  refine hp _ ⟨fun a h1 h2 h3 h4 h5 h6 h7 h8 => ?_, ⟨?_, ?_, fun q hq => ?_, fun q hq => ?_⟩, ⟨fun q hq => ?_, ?_, ?_, ?_, ?_, ?_, ?_⟩, fun q hq => ?_, fun q hq => ?_, ⟨?_, ?_⟩, ⟨?_, ?_⟩, xw_v, ?_, fun q h1 h2 => ?_⟩
  · rw [xw_i h5, xw_i h7, xw_i h5, xw_i h6, xw_i (by omega)]
    by_cases z : a < 2
    · rw [b1 a h2 h3 (by omega), a1 a (.inl z), ry a h7]; exact hY a h8
    · rw [oB a (by omega) h2 h3 (by omega), ry a h7]; exact hY a h8
  · rw [xw_i (by omega), xw_i (by omega), xw_i (by omega), xw_i (by omega), xw_i (by omega), g2 2 (by omega) (by omega)]; exact a2
  · rw [xw_i (by omega), xw_i (by omega), xw_i (by omega), xw_i (by omega), xw_i (by omega), g2 2 (by omega) (by omega)]; exact a3
  · have w : ∀ a, 2 ≤ a → a < 9 → xq_w (xq_w (xq_w (xq_w (xq_w B 27 1 (nI 0)) 56 3 (nI 0)) 34 4 (nI 0)) 104 1 (nI 0)) 34 4 (nI 0) a = A a := fun a h1 h2 => by rw [xw_i (by omega), xw_i (by omega), xw_i (by omega), xw_i (by omega), xw_i (by omega), g2 a h1 h2]
    rw [w 3 (by omega) (by omega), w 4 (by omega) (by omega), w 5 (by omega) (by omega), w 6 (by omega) (by omega)]
    exact ⟨a4 q hq, a5 q hq, a6 q hq, a7 q hq⟩
  · have w : ∀ a, 2 ≤ a → a < 9 → xq_w (xq_w (xq_w (xq_w (xq_w B 27 1 (nI 0)) 56 3 (nI 0)) 34 4 (nI 0)) 104 1 (nI 0)) 34 4 (nI 0) a = A a := fun a h1 h2 => by rw [xw_i (by omega), xw_i (by omega), xw_i (by omega), xw_i (by omega), xw_i (by omega), g2 a h1 h2]
    rw [w 7 (by omega) (by omega), w 8 (by omega) (by omega)]
    exact ⟨a8 q hq, a9 q hq⟩
  · rw [xw_i (by omega), xw_i (by omega), xw_i (by omega), xw_i (by omega), xw_i (by omega), b2.1 q hq, a1 18 (by omega), ry 18 (by omega), hY 18 (by omega)]
  · rw [xw_i (by omega), xw_i (by omega), xw_i (by omega), xw_i (by omega), xw_i (by omega)]; exact b2.2.1
  · rw [xw_i (by omega), xw_i (by omega), xw_i (by omega), xw_i (by omega), xw_i (by omega)]; exact b2.2.2.1
  · rw [xw_i (by omega), xw_i (by omega), xw_i (by omega), xw_i (by omega), xw_i (by omega)]; exact b2.2.2.2.1
  · rw [xw_i (by omega), xw_i (by omega), xw_i (by omega), xw_i (by omega), xw_i (by omega)]; exact b2.2.2.2.2.1
  · rw [xw_i (by omega), xw_i (by omega), xw_i (by omega), xw_i (by omega), xw_i (by omega)]; exact b2.2.2.2.2.2.1
  · rw [xw_i (by omega), xw_i (by omega), xw_i (by omega), xw_i (by omega), xw_i (by omega)]; exact b2.2.2.2.2.2.2
  · have w : ∀ a, 21 ≤ a → a < 26 → xq_w (xq_w (xq_w (xq_w (xq_w B 27 1 (nI 0)) 56 3 (nI 0)) 34 4 (nI 0)) 104 1 (nI 0)) 34 4 (nI 0) a = B a := fun a h1 h2 => by rw [xw_i (by omega), xw_i (by omega), xw_i (by omega), xw_i (by omega), xw_i (by omega)]
    rw [w 21 (by omega) (by omega), w 22 (by omega) (by omega), w 25 (by omega) (by omega)]
    exact ⟨(b3 q hq).1, (b3 q hq).2.1, (b3 q hq).2.2.trans (a5 q hq)⟩
  · rw [xw_i (by omega), xw_i (by omega), xw_i (by omega), xw_i (by omega), xw_i (by omega)]; exact b4 q hq
  · rw [xw_i (by omega), xw_i (by omega), xw_i (by omega), xw_i (by omega), xw_v]
  · rw [xw_i (by omega), xw_i (by omega), xw_i (by omega), xw_i (by omega), xw_x (by omega), oB 27 (by omega) (by omega) (by omega) (by omega), ry 27 (by omega), hY 27 (by omega)]
  · rw [xw_i (by omega), xw_i (by omega), xw_i (by omega), xw_v]
  · rw [xw_i (by omega), xw_i (by omega), xw_i (by omega), xw_x (by omega), xw_i (by omega), oB 56 (by omega) (by omega) (by omega) (by omega), ry 56 (by omega), hY 56 (by omega)]
  · rw [xw_i (by omega), xw_v]
  · rw [xw_i (by omega), xw_x h1, xw_i (by omega), xw_i (by omega), xw_i (by omega), oB 104 (by omega) (by omega) (by omega) (by omega)]
    show xq_w Y 104 7 (nI j) 104 q = _
    rw [xw_x h2, hY 104 (by omega)]
theorem yl_gr1 (hY : gF I Y) (hp : ∀ X : Nat → xw, gPost I Y X → Q (some (.int (Y 110 5))) (xq_s g J X)) : xq_wp (d + 3) 31 (xq_s g J (rs Y j)) 43 [.ref 0, .int (nI 1), xq_un] [.int (nI 1)] (fun v x1 => xq_wp (d + 4) 26 x1 23 [.ref 0, .int (nI 1), .int (Int32.ofInt (-1))] (v.toList ++ []) Q) := by
  have ry : ∀ a, ¬ a = 104 → rs Y j a = Y a := fun a ha => xw_i ha
  refine tx_31_43_1 (d := d + 2) (cp_32 sh_y1.2.2.2.2.2.2.2.1 sh_110 (by omega) (fun A a1 a2 a3 a4 a5 a6 a7 a8 a9 => ?_))
  have a1 : ∀ t, t < 2 ∨ 8 < t → A t = rs Y j t := a1
  have a2 : A 2 0 = Y 110 0 := a2.trans (by rw [← ry 110 (by omega)])
  have a3 : A 2 5 = Y 110 5 := a3.trans (by rw [← ry 110 (by omega)])
  have a4 : ∀ j, j < 14 → A 3 j = Y 111 j := fun q hq => (a4 q hq).trans (by rw [← ry 111 (by omega)])
  have a5 : ∀ j, j < 14 → A 4 j = Y 112 j := fun q hq => (a5 q hq).trans (by rw [← ry 112 (by omega)])
  have a6 : ∀ j, j < 14 → A 5 j = Y 113 j := fun q hq => (a6 q hq).trans (by rw [← ry 113 (by omega)])
  have a7 : ∀ j, j < 14 → A 6 j = Y 114 j := fun q hq => (a7 q hq).trans (by rw [← ry 114 (by omega)])
  have a8 : ∀ j, j < 8 → A 7 j = Y 115 j := fun q hq => (a8 q hq).trans (by rw [← ry 115 (by omega)])
  have a9 : ∀ j, j < 8 → A 8 j = Y 116 j := fun q hq => (a9 q hq).trans (by rw [← ry 116 (by omega)])
  refine tx_31_64 (d := d + 2) (g := g) (J := J) (I := A) (yl_48 (d := d + 1) (fun B b1 b2 b3 b4 => ?_))
  have oB : ∀ a, 8 < a → ¬ a = 18 → ¬ (21 ≤ a ∧ a < 23) → ¬ (25 ≤ a ∧ a < 27) → B a = rs Y j a := fun a h1 h2 h3 h4 => (b1 a h2 h3 h4).trans (a1 a (.inr h1))
  have g2 : ∀ a, 2 ≤ a → a < 9 → B a = A a := fun a h1 h2 => b1 a (by omega) (by omega) (by omega)
  refine tx_31_81_1 (d := d + 1) (tx_26_23 (d := d + 3) ?_)
  have e0 : B 2 5 = Y 110 5 := by rw [g2 2 (by omega) (by omega)]; exact a3
  rw [e0]
  refine hp _ ⟨fun a h1 h2 h3 h4 h5 h6 h7 h8 => ?_, ⟨?_, ?_, fun q hq => ?_, fun q hq => ?_⟩, ⟨fun q hq => ?_, ?_, ?_, ?_, ?_, ?_, ?_⟩, fun q hq => ?_, fun q hq => ?_, ⟨?_, ?_⟩, ⟨?_, ?_⟩, xw_v, ?_, fun q h1 h2 => ?_⟩
  · rw [xw_i h5, xw_i h7, xw_i h5, xw_i h6, xw_i (by omega)]
    by_cases z : a < 2
    · rw [b1 a h2 h3 (by omega), a1 a (.inl z), ry a h7]; exact hY a h8
    · rw [oB a (by omega) h2 h3 (by omega), ry a h7]; exact hY a h8
  · rw [xw_i (by omega), xw_i (by omega), xw_i (by omega), xw_i (by omega), xw_i (by omega), g2 2 (by omega) (by omega)]; exact a2
  · rw [xw_i (by omega), xw_i (by omega), xw_i (by omega), xw_i (by omega), xw_i (by omega), g2 2 (by omega) (by omega)]; exact a3
  · have w : ∀ a, 2 ≤ a → a < 9 → xq_w (xq_w (xq_w (xq_w (xq_w B 27 1 (nI 0)) 56 3 (nI 0)) 34 4 (nI 0)) 104 1 (nI 0)) 34 4 (nI 0) a = A a := fun a h1 h2 => by rw [xw_i (by omega), xw_i (by omega), xw_i (by omega), xw_i (by omega), xw_i (by omega), g2 a h1 h2]
    rw [w 3 (by omega) (by omega), w 4 (by omega) (by omega), w 5 (by omega) (by omega), w 6 (by omega) (by omega)]
    exact ⟨a4 q hq, a5 q hq, a6 q hq, a7 q hq⟩
  · have w : ∀ a, 2 ≤ a → a < 9 → xq_w (xq_w (xq_w (xq_w (xq_w B 27 1 (nI 0)) 56 3 (nI 0)) 34 4 (nI 0)) 104 1 (nI 0)) 34 4 (nI 0) a = A a := fun a h1 h2 => by rw [xw_i (by omega), xw_i (by omega), xw_i (by omega), xw_i (by omega), xw_i (by omega), g2 a h1 h2]
    rw [w 7 (by omega) (by omega), w 8 (by omega) (by omega)]
    exact ⟨a8 q hq, a9 q hq⟩
  · rw [xw_i (by omega), xw_i (by omega), xw_i (by omega), xw_i (by omega), xw_i (by omega), b2.1 q hq, a1 18 (by omega), ry 18 (by omega), hY 18 (by omega)]
  · rw [xw_i (by omega), xw_i (by omega), xw_i (by omega), xw_i (by omega), xw_i (by omega)]; exact b2.2.1
  · rw [xw_i (by omega), xw_i (by omega), xw_i (by omega), xw_i (by omega), xw_i (by omega)]; exact b2.2.2.1
  · rw [xw_i (by omega), xw_i (by omega), xw_i (by omega), xw_i (by omega), xw_i (by omega)]; exact b2.2.2.2.1
  · rw [xw_i (by omega), xw_i (by omega), xw_i (by omega), xw_i (by omega), xw_i (by omega)]; exact b2.2.2.2.2.1
  · rw [xw_i (by omega), xw_i (by omega), xw_i (by omega), xw_i (by omega), xw_i (by omega)]; exact b2.2.2.2.2.2.1
  · rw [xw_i (by omega), xw_i (by omega), xw_i (by omega), xw_i (by omega), xw_i (by omega)]; exact b2.2.2.2.2.2.2
  · have w : ∀ a, 21 ≤ a → a < 26 → xq_w (xq_w (xq_w (xq_w (xq_w B 27 1 (nI 0)) 56 3 (nI 0)) 34 4 (nI 0)) 104 1 (nI 0)) 34 4 (nI 0) a = B a := fun a h1 h2 => by rw [xw_i (by omega), xw_i (by omega), xw_i (by omega), xw_i (by omega), xw_i (by omega)]
    rw [w 21 (by omega) (by omega), w 22 (by omega) (by omega), w 25 (by omega) (by omega)]
    exact ⟨(b3 q hq).1, (b3 q hq).2.1, (b3 q hq).2.2.trans (a5 q hq)⟩
  · rw [xw_i (by omega), xw_i (by omega), xw_i (by omega), xw_i (by omega), xw_i (by omega)]; exact b4 q hq
  · rw [xw_i (by omega), xw_i (by omega), xw_i (by omega), xw_i (by omega), xw_v]
  · rw [xw_i (by omega), xw_i (by omega), xw_i (by omega), xw_i (by omega), xw_x (by omega), oB 27 (by omega) (by omega) (by omega) (by omega), ry 27 (by omega), hY 27 (by omega)]
  · rw [xw_i (by omega), xw_i (by omega), xw_i (by omega), xw_v]
  · rw [xw_i (by omega), xw_i (by omega), xw_i (by omega), xw_x (by omega), xw_i (by omega), oB 56 (by omega) (by omega) (by omega) (by omega), ry 56 (by omega), hY 56 (by omega)]
  · rw [xw_i (by omega), xw_v]
  · rw [xw_i (by omega), xw_x h1, xw_i (by omega), xw_i (by omega), xw_i (by omega), oB 104 (by omega) (by omega) (by omega) (by omega)]
    show xq_w Y 104 7 (nI j) 104 q = _
    rw [xw_x h2, hY 104 (by omega)]
end yk_tx
