/-! text: what the model does with what it read -/
section xk_ty
variable {d : Nat} {g : xq_V} {J : Nat → Nat → Int64} {I X Y Z : Nat → xw} {Q : Option Value → xq_S → Prop} {n m b k : Nat}
/-- nothing but the row w has changed -/
def onW (I X : Nat → xw) : Prop := ∀ a, ¬ a = 127 → X a = I a
theorem onW_w {p : Nat} {v : Int32} (h : onW I X) : onW I (xq_w X 127 p v) := fun a ha => by rw [xw_i ha]; exact h a ha
theorem xl_203 (hn : n ≤ 16) (hm : m ≤ 400) (h14 : I 126 14 = nI n) (h15 : I 126 15 = nI m) (hp : ∀ X : Nat → xw, onW I X → (∀ p, ¬ (1075 ≤ p ∧ p < 1960) → X 127 p = I 127 p) → X 127 1075 = nI n → (∀ l, l < n → X 127 (1080 + l) = I 131 (3 * l) ∧ X 127 (1100 + l) = I 131 (3 * l + 1) ∧ X 127 (1120 + l) = I 131 (3 * l + 2)) → (∀ q, q < 2 * m → X 127 (1140 + q) = I 132 q) → Q (some (.int (nI n))) (xq_s g J X)) : xq_wp d 203 (xq_s g J I) 0 [.ref 126, xq_un] [] Q := by
  have lp2 : ∀ (c k : Nat) (X : Nat → xw), k + c = 2 * m → onW I X → (∀ p, ¬ (1075 ≤ p ∧ p < 1960) → X 127 p = I 127 p) → X 127 1075 = nI n → (∀ l, l < n → X 127 (1080 + l) = I 131 (3 * l) ∧ X 127 (1100 + l) = I 131 (3 * l + 1) ∧ X 127 (1120 + l) = I 131 (3 * l + 2)) → (∀ q, q < k → X 127 (1140 + q) = I 132 q) → xq_wp d 203 (xq_s g J X) 88 [.ref 126, .int (nI k)] [] Q := by
    intro c
    induction c with
    | zero =>
      intro k X hk o f a e q
      refine ty_203_88 (d := d) (n := m) ⟨by rw [o 126 (by omega)]; exact h15, by omega, by omega, fun z => by omega, fun _ => ?_⟩
      rw [o 126 (by omega), h14]
      exact hp X o f a e (fun q' hq => q q' (by omega))
    | succ c ih =>
      intro k X hk o f a e q
      refine ty_203_88 (d := d) (n := m) ⟨by rw [o 126 (by omega)]; exact h15, by omega, by omega, fun _ => ⟨by omega, by omega, ih (k + 1) _ (by omega) (onW_w o) (fun p hp => ?_) ?_ (fun l hl => ?_) (fun q' hq => ?_)⟩, fun z => by omega⟩
      · rw [xw_x (by omega)]; exact f p hp
      · rw [xw_x (by omega)]; exact a
      · rw [xw_x (by omega), xw_x (by omega), xw_x (by omega)]; exact e l hl
      · by_cases z : q' = k
        · subst z; rw [xw_v, o 132 (by omega)]
        · rw [xw_x (by omega)]; exact q q' (by omega)
  have lp : ∀ (c k : Nat) (X : Nat → xw), k + c = n → onW I X → (∀ p, ¬ (1075 ≤ p ∧ p < 1960) → X 127 p = I 127 p) → X 127 1075 = nI n → (∀ l, l < k → X 127 (1080 + l) = I 131 (3 * l) ∧ X 127 (1100 + l) = I 131 (3 * l + 1) ∧ X 127 (1120 + l) = I 131 (3 * l + 2)) → xq_wp d 203 (xq_s g J X) 14 [.ref 126, .int (nI k)] [] Q := by
    intro c
    induction c with
    | zero =>
      intro k X hk o f a e
      exact ty_203_14 (d := d) (n := n) ⟨by rw [o 126 (by omega)]; exact h14, by omega, by omega, fun z => by omega, fun _ => lp2 (2 * m) 0 X (by omega) o f a (fun l hl => e l (by omega)) (fun q hq => by omega)⟩
    | succ c ih =>
      intro k X hk o f a e
      refine ty_203_14 (d := d) (n := n) ⟨by rw [o 126 (by omega)]; exact h14, by omega, by omega, fun _ => ⟨by omega, by omega, by omega, by omega, by omega, by omega, ih (k + 1) _ (by omega) (onW_w (onW_w (onW_w o))) (fun p hp => ?_) ?_ (fun l hl => ?_)⟩, fun z => by omega⟩
      · rw [xw_x (by omega), xw_x (by omega), xw_x (by omega)]; exact f p hp
      · rw [xw_x (by omega), xw_x (by omega), xw_x (by omega)]; exact a
      · by_cases z : l = k
        · subst z
          refine ⟨?_, ?_, ?_⟩
          · rw [xw_x (by omega), xw_x (by omega), xw_v, o 131 (by omega)]
          · rw [xw_x (by omega), xw_v, o 131 (by omega)]
          · rw [xw_v, o 131 (by omega)]
        · refine ⟨?_, ?_, ?_⟩
          · rw [xw_x (by omega), xw_x (by omega), xw_x (by omega)]; exact (e l (by omega)).1
          · rw [xw_x (by omega), xw_x (by omega), xw_x (by omega)]; exact (e l (by omega)).2.1
          · rw [xw_x (by omega), xw_x (by omega), xw_x (by omega)]; exact (e l (by omega)).2.2
  exact ty_203 (d := d) (n := n) ⟨h14, lp n 0 _ (by omega) (onW_w (fun _ _ => rfl)) (fun p hp => by rw [xw_x (by omega)]) xw_v (fun l hl => by omega)⟩
theorem xl_204 (hn : n ≤ 100) (h17 : I 126 17 = nI n) (hp : ∀ X : Nat → xw, onW I X → (∀ p, ¬ 1960 ≤ p → X 127 p = I 127 p) → X 127 1960 = nI n → (∀ q, q < 3 * n → X 127 (1962 + q) = I 134 q) → Q (some (.int (nI n))) (xq_s g J X)) : xq_wp d 204 (xq_s g J I) 0 [.ref 126, xq_un] [] Q := by
  have lp : ∀ (c k : Nat) (X : Nat → xw), k + c = 3 * n → onW I X → (∀ p, ¬ 1960 ≤ p → X 127 p = I 127 p) → X 127 1960 = nI n → (∀ q, q < k → X 127 (1962 + q) = I 134 q) → xq_wp d 204 (xq_s g J X) 14 [.ref 126, .int (nI k)] [] Q := by
    intro c
    induction c with
    | zero =>
      intro k X hk o f a q
      refine ty_204_14 (d := d) (n := n) ⟨by rw [o 126 (by omega)]; exact h17, by omega, by omega, fun z => by omega, fun _ => ?_⟩
      rw [o 126 (by omega), h17]
      exact hp X o f a (fun q' hq => q q' (by omega))
    | succ c ih =>
      intro k X hk o f a q
      refine ty_204_14 (d := d) (n := n) ⟨by rw [o 126 (by omega)]; exact h17, by omega, by omega, fun _ => ⟨by omega, by omega, ih (k + 1) _ (by omega) (onW_w o) (fun p hp => ?_) ?_ (fun q' hq => ?_)⟩, fun z => by omega⟩
      · rw [xw_x (by omega)]; exact f p hp
      · rw [xw_x (by omega)]; exact a
      · by_cases z : q' = k
        · subst z; rw [xw_v, o 134 (by omega)]
        · rw [xw_x (by omega)]; exact q q' (by omega)
  exact ty_204 (d := d) (lp (3 * n) 0 _ (by omega) (onW_w (fun _ _ => rfl)) (fun p hp => by rw [xw_x (by omega)]) (by rw [xw_v, h17]) (fun q hq => by omega))
/-- a new start, in the row w: W before, V behind it -/
def wNew (n : Nat) (W V : xw) : Prop := V 6 = nI 0 ∧ V 3 = nI 0 ∧ V 4 = nI 0 ∧ V 5 = Int32.ofInt (-1) ∧ V 2 = nI 0 ∧ (∀ b, b < n → V (30 + b) = nI b ∧ V (50 + 14 * b + 1) = W (50 + 14 * b + 12) ∧ ∀ k, 4 ≤ k → k < 12 → V (50 + 14 * b + k) = nI 0) ∧ ∀ p, ¬ (2 ≤ p ∧ p < 7) → ¬ (30 ≤ p ∧ p < 44) → (∀ b, b < n → ¬ p = 50 + 14 * b + 1 ∧ ∀ k, 4 ≤ k → k < 12 → ¬ p = 50 + 14 * b + k) → V p = W p
theorem xl_208 (hn : n ≤ 14) (h0 : I 127 0 = nI n) (hp : ∀ X : Nat → xw, (∀ a, ¬ a = 126 → ¬ a = 127 → X a = I a) → (∀ j, ¬ j = 4 → X 126 j = I 126 j) → X 126 4 = nI 0 → wNew n (I 127) (X 127) → Q none (xq_s g J X)) : xq_wp (d + 1) 208 (xq_s g J I) 0 [.ref 126, xq_un, xq_un] [] Q := by
  have inn : ∀ (b : Nat), b < n → ∀ (c k : Nat) (X : Nat → xw), k + c = 12 → 4 ≤ k → onW I X → (∀ Y : Nat → xw, onW I Y → (∀ p, ¬ (50 + 14 * b + k ≤ p ∧ p < 50 + 14 * b + 12) → Y 127 p = X 127 p) → (∀ q, k ≤ q → q < 12 → Y 127 (50 + 14 * b + q) = nI 0) → xq_wp (d + 1) 208 (xq_s g J (xq_w (xq_w Y 127 (50 + 14 * b + 1) (Y 127 (50 + 14 * b + 12))) 127 (30 + b) (nI b))) 2 [.ref 126, .int (nI (b + 1)), .int (nI 12)] [] Q) → xq_wp (d + 1) 208 (xq_s g J X) 14 [.ref 126, .int (nI b), .int (nI k)] [] Q := by
    intro b hb c
    induction c with
    | zero =>
      intro k X hk h4 o h
      obtain rfl : k = 12 := by omega
      exact ty_208_14 (d := d) ⟨by omega, fun z => by omega, fun _ => ⟨by omega, by omega, by omega, h X o (fun _ _ => rfl) (fun q q1 q2 => by omega)⟩⟩
    | succ c ih =>
      intro k X hk h4 o h
      refine ty_208_14 (d := d) ⟨by omega, fun _ => ⟨by omega, ih (k + 1) _ (by omega) (by omega) (onW_w o) (fun Y y1 y2 y3 => h Y y1 (fun p hp => ?_) (fun q q1 q2 => ?_))⟩, fun z => by omega⟩
      · rw [y2 p (by omega), xw_x (by omega)]
      · by_cases z : q = k
        · subst z; rw [y2 _ (by omega), xw_v]
        · exact y3 q (by omega) q2
  have out : ∀ (c b : Nat) (X : Nat → xw) (u2 : Value), b + c = n → onW I X → (∀ q, q < b → X 127 (30 + q) = nI q ∧ X 127 (50 + 14 * q + 1) = I 127 (50 + 14 * q + 12) ∧ ∀ k, 4 ≤ k → k < 12 → X 127 (50 + 14 * q + k) = nI 0) → (∀ p, ¬ (30 ≤ p ∧ p < 44) → (∀ q, q < b → ¬ p = 50 + 14 * q + 1 ∧ ∀ k, 4 ≤ k → k < 12 → ¬ p = 50 + 14 * q + k) → X 127 p = I 127 p) → xq_wp (d + 1) 208 (xq_s g J X) 2 [.ref 126, .int (nI b), u2] [] Q := by
    intro c
    induction c with
    | zero =>
      intro b X u2 hb o h f
      obtain rfl : b = n := by omega
      refine ty_208_2 (d := d) (n := b) ⟨by rw [f 0 (by omega) (fun q hq => ⟨by omega, fun k k1 k2 => by omega⟩)]; exact h0, by omega, by omega, fun z => by omega, fun _ => ?_⟩
      refine hp _ (fun a a1 a2 => ?_) (fun j hj => ?_) xw_v ⟨?_, ?_, ?_, ?_, ?_, fun q hq => ?_, fun p p1 p2 p3 => ?_⟩
      · rw [xw_i a1, xw_i a2, xw_i a2, xw_i a2, xw_i a2, xw_i a2]; exact o a a2
      · rw [xw_x hj, xw_i (by omega), xw_i (by omega), xw_i (by omega), xw_i (by omega), xw_i (by omega), o 126 (by omega)]
      · rw [xw_i (by omega), xw_x (by omega), xw_x (by omega), xw_x (by omega), xw_x (by omega), xw_v]
      · rw [xw_i (by omega), xw_x (by omega), xw_x (by omega), xw_x (by omega), xw_v]
      · rw [xw_i (by omega), xw_x (by omega), xw_x (by omega), xw_v]
      · rw [xw_i (by omega), xw_x (by omega), xw_v]
      · rw [xw_i (by omega), xw_v]
      · have r : ∀ p, 7 ≤ p → xq_w (xq_w (xq_w (xq_w (xq_w (xq_w X 127 6 (nI 0)) 127 3 (nI 0)) 127 4 (nI 0)) 127 5 (Int32.ofInt (-1))) 127 2 (nI 0)) 126 4 (nI 0) 127 p = X 127 p := fun p hp => by rw [xw_i (by omega), xw_x (by omega), xw_x (by omega), xw_x (by omega), xw_x (by omega), xw_x (by omega)]
        rw [r _ (by omega), r _ (by omega)]
        exact ⟨(h q hq).1, (h q hq).2.1, fun k k1 k2 => by rw [r _ (by omega)]; exact (h q hq).2.2 k k1 k2⟩
      · rw [xw_i (by omega), xw_x (by omega), xw_x (by omega), xw_x (by omega), xw_x (by omega), xw_x (by omega)]
        exact f p p2 p3
    | succ c ih =>
      intro b X u2 hb o h f
      refine ty_208_2 (d := d) (n := n) ⟨by rw [f 0 (by omega) (fun q hq => ⟨by omega, fun k k1 k2 => by omega⟩)]; exact h0, by omega, by omega, fun _ => ?_, fun z => by omega⟩
      refine inn b (by omega) 8 4 X (by omega) (by omega) o (fun Y y1 y2 y3 => ih (b + 1) _ _ (by omega) (onW_w (onW_w y1)) (fun q hq => ?_) (fun p p1 p2 => ?_))
      · by_cases z : q = b
        · subst z
          refine ⟨xw_v, ?_, fun k k1 k2 => ?_⟩
          · rw [xw_x (by omega), xw_v, y2 _ (by omega)]
            exact f _ (by omega) (fun q' hq' => ⟨by omega, fun k k1 k2 => by omega⟩)
          · rw [xw_x (by omega), xw_x (by omega)]; exact y3 k k1 k2
        · obtain ⟨a1, a2, a3⟩ := h q (by omega)
          refine ⟨?_, ?_, fun k k1 k2 => ?_⟩
          · rw [xw_x (by omega), xw_x (by omega), y2 _ (by omega)]; exact a1
          · rw [xw_x (by omega), xw_x (by omega), y2 _ (by omega)]; exact a2
          · rw [xw_x (by omega), xw_x (by omega), y2 _ (by omega)]; exact a3 k k1 k2
      · have pb := p2 b (by omega)
        have pk : ¬ (50 + 14 * b + 4 ≤ p ∧ p < 50 + 14 * b + 12) := fun z => pb.2 (p - (50 + 14 * b)) (by omega) (by omega) (by omega)
        rw [xw_x (by omega), xw_x pb.1, y2 p pk]
        exact f p p1 (fun q hq => p2 q (by omega))
  exact ty_208 (d := d + 1) (out n 0 I _ (by omega) (fun _ _ => rfl) (fun q hq => by omega) (fun p _ _ => rfl))
end xk_ty
