/-! text: the model puts a DOME, a WAY -/
section xk_tz
variable {d : Nat} {g : xq_V} {J : Nat → Nat → Int64} {I X Y Z : Nat → xw} {Q : Option Value → xq_S → Prop} {n m b k : Nat}
def wDo (n : Nat) (F W U : xw) : Prop := U 0 = nI n ∧ (∀ b, b < n → (∀ k, k < 4 → U (50 + 14 * b + k) = F (4 * b + k)) ∧ U (50 + 14 * b + 12) = F (4 * b + 1)) ∧ ∀ p, ¬ p = 0 → (∀ b, b < n → ¬ p = 50 + 14 * b + 12 ∧ ∀ k, k < 4 → ¬ p = 50 + 14 * b + k) → U p = W p
def wWy (n : Nat) (F W U : xw) : Prop := U 1 = nI n ∧ (∀ b, b < n → ∀ k, k < 2 → U (250 + 2 * b + k) = F (4 * b + k)) ∧ ∀ p, ¬ p = 1 → (∀ b, b < n → ∀ k, k < 2 → ¬ p = 250 + 2 * b + k) → U p = W p
theorem xl_205_0 (hn : n ≤ 14) (h13 : I 126 13 = nI 0) (h16 : I 126 16 = nI n) (hp : ∀ (X : Nat → xw) (U : xw), (∀ a, ¬ a = 126 → ¬ a = 127 → X a = I a) → (∀ j, ¬ j = 4 → X 126 j = I 126 j) → X 126 4 = nI 0 → wDo n (I 133) (I 127) U → wNew n U (X 127) → Q (some (.int (nI n))) (xq_s g J X)) : xq_wp (d + 2) 205 (xq_s g J I) 0 [.ref 126, xq_un, xq_un] [] Q := by
  have last : ∀ (c b : Nat) (X : Nat → xw) (u2 : Value), b + c = n → onW I X → X 127 0 = nI n → (∀ q, q < n → ∀ k, k < 4 → X 127 (50 + 14 * q + k) = I 133 (4 * q + k)) → (∀ q, q < b → X 127 (50 + 14 * q + 12) = I 133 (4 * q + 1)) → (∀ p, ¬ p = 0 → (∀ q, q < n → ¬ p = 50 + 14 * q + 12 ∧ ∀ k, k < 4 → ¬ p = 50 + 14 * q + k) → X 127 p = I 127 p) → xq_wp (d + 2) 205 (xq_s g J X) 107 [.ref 126, .int (nI b), u2] [] Q := by
    intro c
    induction c with
    | zero =>
      intro b X u2 hb o x0 x1 x2 x3
      refine ty_205_0_107 (d := d + 1) (n := n) ⟨by rw [o 126 (by omega)]; exact h16, by omega, by omega, fun z => by omega, fun _ => ?_⟩
      refine xl_208 (d := d) hn x0 (fun Y y1 y2 y3 y4 => ty_205_145 (d := d + 2) ?_)
      rw [y2 16 (by omega), o 126 (by omega), h16]
      exact hp Y (X 127) (fun a a1 a2 => (y1 a a1 a2).trans (o a a2)) (fun j hj => by rw [y2 j hj, o 126 (by omega)]) y3 ⟨x0, fun q hq => ⟨x1 q hq, x2 q (by omega)⟩, x3⟩ y4
    | succ c ih =>
      intro b X u2 hb o x0 x1 x2 x3
      refine ty_205_0_107 (d := d + 1) (n := n) ⟨by rw [o 126 (by omega)]; exact h16, by omega, by omega, fun _ => ⟨by rw [o 126 (by omega)]; exact h13, by omega, by omega, ih (b + 1) _ _ (by omega) (onW_w o) ?_ (fun q hq k hk => ?_) (fun q hq => ?_) (fun p p1 p2 => ?_)⟩, fun z => by omega⟩
      · rw [xw_x (by omega)]; exact x0
      · rw [xw_x (by omega)]; exact x1 q hq k hk
      · by_cases z : q = b
        · subst z; rw [xw_v]; exact x1 q (by omega) 1 (by omega)
        · rw [xw_x (by omega)]; exact x2 q (by omega)
      · rw [xw_x (p2 b (by omega)).1]; exact x3 p p1 p2
  have inn : ∀ (b : Nat), b < n → ∀ (c k : Nat) (X : Nat → xw), k + c = 4 → onW I X → (∀ Y : Nat → xw, onW I Y → (∀ p, ¬ (50 + 14 * b + k ≤ p ∧ p < 50 + 14 * b + 4) → Y 127 p = X 127 p) → (∀ q, k ≤ q → q < 4 → Y 127 (50 + 14 * b + q) = I 133 (4 * b + q)) → xq_wp (d + 2) 205 (xq_s g J Y) 23 [.ref 126, .int (nI (b + 1)), .int (nI 4)] [] Q) → xq_wp (d + 2) 205 (xq_s g J X) 33 [.ref 126, .int (nI b), .int (nI k)] [] Q := by
    intro b hb c
    induction c with
    | zero =>
      intro k X hk o h
      obtain rfl : k = 4 := by omega
      exact ty_205_0_33 (d := d + 1) ⟨by omega, fun z => by omega, fun _ => h X o (fun _ _ => rfl) (fun q q1 q2 => by omega)⟩
    | succ c ih =>
      intro k X hk o h
      refine ty_205_0_33 (d := d + 1) ⟨by omega, fun _ => ⟨by rw [o 126 (by omega)]; exact h13, by omega, by omega, ih (k + 1) _ (by omega) (onW_w o) (fun Y y1 y2 y3 => h Y y1 (fun p hp => ?_) (fun q q1 q2 => ?_))⟩, fun z => by omega⟩
      · rw [y2 p (by omega), xw_x (by omega)]
      · by_cases z : q = k
        · subst z; rw [y2 _ (by omega), xw_v, o 133 (by omega)]
        · exact y3 q (by omega) q2
  have out : ∀ (c b : Nat) (X : Nat → xw) (u2 : Value), b + c = n → onW I X → X 127 0 = nI n → (∀ q, q < b → ∀ k, k < 4 → X 127 (50 + 14 * q + k) = I 133 (4 * q + k)) → (∀ p, ¬ p = 0 → (∀ q, q < b → ∀ k, k < 4 → ¬ p = 50 + 14 * q + k) → X 127 p = I 127 p) → xq_wp (d + 2) 205 (xq_s g J X) 23 [.ref 126, .int (nI b), u2] [] Q := by
    intro c
    induction c with
    | zero =>
      intro b X u2 hb o x0 x1 x3
      refine ty_205_0_23 (d := d + 2) (n := n) ⟨by rw [o 126 (by omega)]; exact h16, by omega, by omega, fun z => by omega, fun _ => ?_⟩
      exact last n 0 X _ (by omega) o x0 (fun q hq => x1 q (by omega)) (fun q hq => by omega) (fun p p1 p2 => x3 p p1 (fun q hq => (p2 q (by omega)).2))
    | succ c ih =>
      intro b X u2 hb o x0 x1 x3
      refine ty_205_0_23 (d := d + 2) (n := n) ⟨by rw [o 126 (by omega)]; exact h16, by omega, by omega, fun _ => ?_, fun z => by omega⟩
      refine inn b (by omega) 4 0 X (by omega) o (fun Y y1 y2 y3 => ih (b + 1) Y _ (by omega) y1 ?_ (fun q hq k hk => ?_) (fun p p1 p2 => ?_))
      · rw [y2 0 (by omega)]; exact x0
      · by_cases z : q = b
        · subst z; exact y3 k (by omega) hk
        · rw [y2 _ (by omega)]; exact x1 q (by omega) k hk
      · have pk : ¬ (50 + 14 * b + 0 ≤ p ∧ p < 50 + 14 * b + 4) := fun z => p2 b (by omega) (p - (50 + 14 * b)) (by omega) (by omega)
        rw [y2 p pk]; exact x3 p p1 (fun q hq => p2 q (by omega))
  refine ty_205_0 (d := d + 2) ⟨h13, out n 0 _ _ (by omega) (onW_w (fun _ _ => rfl)) (by rw [xw_v]; exact h16) (fun q hq => by omega) (fun p p1 _ => xw_x p1)⟩
theorem xl_205_1 (hn : n ≤ 8) (hm : m ≤ 14) (h0 : I 127 0 = nI m) (h13 : I 126 13 = nI 1) (h16 : I 126 16 = nI n) (hp : ∀ (X : Nat → xw) (U : xw), (∀ a, ¬ a = 126 → ¬ a = 127 → X a = I a) → (∀ j, ¬ j = 4 → X 126 j = I 126 j) → X 126 4 = nI 0 → wWy n (I 133) (I 127) U → wNew m U (X 127) → Q (some (.int (nI n))) (xq_s g J X)) : xq_wp (d + 2) 205 (xq_s g J I) 0 [.ref 126, xq_un, xq_un] [] Q := by
  have inn : ∀ (b : Nat), b < n → ∀ (c k : Nat) (X : Nat → xw), k + c = 4 → onW I X → (∀ Y : Nat → xw, onW I Y → (∀ p, ¬ (250 + 2 * b + k ≤ p ∧ p < 250 + 2 * b + 2) → Y 127 p = X 127 p) → (∀ q, k ≤ q → q < 2 → Y 127 (250 + 2 * b + q) = I 133 (4 * b + q)) → xq_wp (d + 2) 205 (xq_s g J Y) 23 [.ref 126, .int (nI (b + 1)), .int (nI 4)] [] Q) → xq_wp (d + 2) 205 (xq_s g J X) 33 [.ref 126, .int (nI b), .int (nI k)] [] Q := by
    intro b hb c
    induction c with
    | zero =>
      intro k X hk o h
      obtain rfl : k = 4 := by omega
      exact ty_205_1_33 (d := d + 2) ⟨by omega, fun z => by omega, fun _ => h X o (fun _ _ => rfl) (fun q q1 q2 => by omega)⟩
    | succ c ih =>
      intro k X hk o h
      refine ty_205_1_33 (d := d + 2) ⟨by omega, fun _ => ⟨by rw [o 126 (by omega)]; exact h13, fun k2 => ⟨by omega, by omega, ih (k + 1) _ (by omega) (onW_w o) (fun Y y1 y2 y3 => h Y y1 (fun p hp => ?_) (fun q q1 q2 => ?_))⟩, fun k2 => ih (k + 1) X (by omega) o (fun Y y1 y2 y3 => h Y y1 (fun p hp => y2 p (by omega)) (fun q q1 q2 => by omega))⟩, fun z => by omega⟩
      · rw [y2 p (by omega), xw_x (by omega)]
      · by_cases z : q = k
        · subst z; rw [y2 _ (by omega), xw_v, o 133 (by omega)]
        · exact y3 q (by omega) q2
  have last : ∀ (X : Nat → xw) (u2 : Value), onW I X → X 127 1 = nI n → (∀ q, q < n → ∀ k, k < 2 → X 127 (250 + 2 * q + k) = I 133 (4 * q + k)) → (∀ p, ¬ p = 1 → (∀ q, q < n → ∀ k, k < 2 → ¬ p = 250 + 2 * q + k) → X 127 p = I 127 p) → xq_wp (d + 1) 208 (xq_s g J X) 0 [.ref 126, xq_un, xq_un] [] (fun v x1 => xq_wp (d + 2) 205 x1 145 [.ref 126, .int (nI 0), u2] (v.toList ++ []) Q) := by
    intro X u2 o x0 x1 x3
    refine xl_208 (d := d) hm (by rw [x3 0 (by omega) (fun q hq k hk => by omega)]; exact h0) (fun Y y1 y2 y3 y4 => ty_205_145 (d := d + 2) (b := 0) ?_)
    rw [y2 16 (by omega), o 126 (by omega), h16]
    exact hp Y (X 127) (fun a a1 a2 => (y1 a a1 a2).trans (o a a2)) (fun j hj => by rw [y2 j hj, o 126 (by omega)]) y3 ⟨x0, x1, x3⟩ y4
  have out : ∀ (c b : Nat) (X : Nat → xw) (u2 : Value), b + c = n → onW I X → X 127 1 = nI n → (∀ q, q < b → ∀ k, k < 2 → X 127 (250 + 2 * q + k) = I 133 (4 * q + k)) → (∀ p, ¬ p = 1 → (∀ q, q < b → ∀ k, k < 2 → ¬ p = 250 + 2 * q + k) → X 127 p = I 127 p) → xq_wp (d + 2) 205 (xq_s g J X) 23 [.ref 126, .int (nI b), u2] [] Q := by
    intro c
    induction c with
    | zero =>
      intro b X u2 hb o x0 x1 x3
      refine ty_205_1_23 (d := d + 2) (n := n) ⟨by rw [o 126 (by omega)]; exact h16, by omega, by omega, fun z => by omega, fun _ => ?_⟩
      have key := last X u2 o x0 (fun q hq => x1 q (by omega)) (fun p p1 p2 => x3 p p1 (fun q hq => p2 q (by omega)))
      exact ty_205_1_107 (d := d + 1) (n := n) ⟨by rw [o 126 (by omega)]; exact h16, by omega, by omega, fun _ => ⟨by rw [o 126 (by omega)]; exact h13, key⟩, fun _ => key⟩
    | succ c ih =>
      intro b X u2 hb o x0 x1 x3
      refine ty_205_1_23 (d := d + 2) (n := n) ⟨by rw [o 126 (by omega)]; exact h16, by omega, by omega, fun _ => ?_, fun z => by omega⟩
      refine inn b (by omega) 4 0 X (by omega) o (fun Y y1 y2 y3 => ih (b + 1) Y _ (by omega) y1 ?_ (fun q hq k hk => ?_) (fun p p1 p2 => ?_))
      · rw [y2 1 (by omega)]; exact x0
      · by_cases z : q = b
        · subst z; exact y3 k (by omega) hk
        · rw [y2 _ (by omega)]; exact x1 q (by omega) k hk
      · have pk : ¬ (250 + 2 * b + 0 ≤ p ∧ p < 250 + 2 * b + 2) := fun z => p2 b (by omega) (p - (250 + 2 * b)) (by omega) (by omega)
        rw [y2 p pk]; exact x3 p p1 (fun q hq => p2 q (by omega))
  refine ty_205_1 (d := d + 2) ⟨h13, out n 0 _ _ (by omega) (onW_w (fun _ _ => rfl)) (by rw [xw_v]; exact h16) (fun q hq => by omega) (fun p p1 _ => xw_x p1)⟩
end xk_tz
