/-! ways: orders counted by pulling and by pushing -/
def sm (f : Nat → Int64) : Nat → Int64
  | 0 => 0
  | k + 1 => sm f k + f k
def wb (t : Nat) : Int64 := if t = 0 then 1 else 0
/-- what a set comes to, by what lesser sets came to -/
def wf (ad : Nat → Nat → Bool) (V : Nat → Int64) (t b : Nat) : Int64 := if t.testBit b = true ∧ ad b (t ^^^ 2 ^ b) = true then V (t ^^^ 2 ^ b) else 0
def wv (n : Nat) (bad : Nat → Bool) (ad : Nat → Nat → Bool) (V : Nat → Int64) (t : Nat) : Int64 := wb t + if bad t then 0 else sm (wf ad V t) n
def wt (n : Nat) (bad : Nat → Bool) (ad : Nat → Nat → Bool) : Nat → Nat → Int64
  | 0 => fun _ => 0
  | k + 1 => fun t => if t = k then wv n bad ad (wt n bad ad k) k else wt n bad ad k t
def wV (n : Nat) (bad : Nat → Bool) (ad : Nat → Nat → Bool) (t : Nat) : Int64 := wt n bad ad (t + 1) t
section xk_wy
variable {n : Nat} {bad : Nat → Bool} {ad : Nat → Nat → Bool} {f f' : Nat → Int64}
theorem sm_cg : ∀ k, (∀ i, i < k → f' i = f i) → sm f' k = sm f k := by
  intro k
  induction k with
  | zero => intro _; rfl
  | succ k ih => intro h; rw [sm, sm, ih (fun i hi => h i (by omega)), h k (by omega)]
theorem sm_0 : ∀ k, (∀ i, i < k → f i = 0) → sm f k = 0 := by
  intro k
  induction k with
  | zero => intro _; rfl
  | succ k ih => intro h; rw [sm, ih (fun i hi => h i (by omega)), h k (by omega), Int64.add_zero]
theorem sm_one {b : Nat} {v : Int64} : ∀ k, b < k → (∀ i, i < k → ¬ i = b → f' i = f i) → f' b = f b + v → sm f' k = sm f k + v := by
  intro k
  induction k with
  | zero => intro h; omega
  | succ k ih =>
    intro h h1 h2
    rw [sm, sm]
    by_cases e : b = k
    · subst e
      rw [sm_cg (f := f) (f' := f') b (fun i hi => h1 i (by omega) (by omega)), h2, Int64.add_assoc]
    · rw [ih (by omega) (fun i hi => h1 i (by omega)) h2, h1 k (by omega) (fun z => e z.symm), Int64.add_assoc, Int64.add_assoc, Int64.add_comm v]
theorem sm_mul {c : Int64} : ∀ k, sm (fun i => c * f i) k = c * sm f k := by
  intro k
  induction k with
  | zero => rw [sm, sm, Int64.mul_zero]
  | succ k ih => rw [sm, sm, ih, Int64.mul_add]
theorem x_bit {t b x : Nat} : (t ^^^ 2 ^ b).testBit x = if x = b then !t.testBit x else t.testBit x := by
  rw [Nat.testBit_xor, Nat.testBit_two_pow]
  by_cases e : b = x
  · subst e; rw [decide_eq_true rfl, if_pos rfl]; cases t.testBit b <;> rfl
  · rw [decide_eq_false e, if_neg (fun z => e z.symm)]; cases t.testBit x <;> rfl
theorem x_or {s b : Nat} (h : s.testBit b = false) : s ||| 2 ^ b = s ^^^ 2 ^ b := by
  apply Nat.eq_of_testBit_eq
  intro x
  rw [x_bit, Nat.testBit_or, Nat.testBit_two_pow]
  by_cases e : b = x
  · subst e; rw [decide_eq_true rfl, if_pos rfl, h]; rfl
  · rw [decide_eq_false e, if_neg (fun z => e z.symm), Bool.or_false]
theorem x_x {t b : Nat} : t ^^^ 2 ^ b ^^^ 2 ^ b = t := by
  apply Nat.eq_of_testBit_eq
  intro x
  rw [x_bit, x_bit]
  by_cases e : x = b
  · rw [if_pos e, if_pos e, Bool.not_not]
  · rw [if_neg e, if_neg e]
theorem x_lt {t b : Nat} (h : t.testBit b = true) : t ^^^ 2 ^ b < t := by
  have hb : (t ^^^ 2 ^ b).testBit b = false := by rw [x_bit, if_pos rfl, h]; rfl
  have e : (t ^^^ 2 ^ b) ||| 2 ^ b = t := by rw [x_or hb, x_x]
  have le : t ^^^ 2 ^ b ≤ (t ^^^ 2 ^ b) ||| 2 ^ b := Nat.left_le_or
  rw [e] at le
  refine Nat.lt_of_le_of_ne le (fun z => ?_)
  rw [z, h] at hb
  exact absurd hb (by decide)
theorem wt_V : ∀ k t, t < k → wt n bad ad k t = wV n bad ad t := by
  intro k
  induction k with
  | zero => intro t h; omega
  | succ k ih =>
    intro t h
    by_cases e : t = k
    · subst e; rfl
    · rw [wt]
      simp only [if_neg e]
      exact ih t (by omega)
theorem wf_cg {V V' : Nat → Int64} {t b : Nat} (h : ∀ s, s < t → V' s = V s) : wf ad V' t b = wf ad V t b := by
  unfold wf
  by_cases e : t.testBit b = true ∧ ad b (t ^^^ 2 ^ b) = true
  · rw [if_pos e, if_pos e, h _ (x_lt e.1)]
  · rw [if_neg e, if_neg e]
theorem wV_eq (t : Nat) : wV n bad ad t = wv n bad ad (wV n bad ad) t := by
  have e : wV n bad ad t = wv n bad ad (wt n bad ad t) t := by
    rw [wV, wt]; simp only [if_true]
  rw [e, wv, wv]
  congr 2
  exact sm_cg n (fun b _ => wf_cg (fun s hs => wt_V t s hs))
/-- pushing: what has come to a set when all lesser than s have pushed, and s its first b -/
def wq (ad : Nat → Nat → Bool) (V : Nat → Int64) (s b t b' : Nat) : Int64 := if (t.testBit b' = true ∧ ad b' (t ^^^ 2 ^ b') = true) ∧ (t ^^^ 2 ^ b' < s ∨ (t ^^^ 2 ^ b' = s ∧ b' < b)) then V (t ^^^ 2 ^ b') else 0
def wp (n : Nat) (ad : Nat → Nat → Bool) (V : Nat → Int64) (s b t : Nat) : Int64 := wb t + sm (wq ad V s b t) n
variable {V : Nat → Int64} {s b t : Nat}
theorem wp_0 : wp n ad V 0 0 t = wb t := by
  rw [wp, sm_0 n (fun i _ => ?_), Int64.add_zero]
  rw [wq, if_neg (fun h => by omega)]
theorem wp_all : wp n ad V t 0 t = wb t + sm (wf ad V t) n := by
  rw [wp]
  congr 1
  refine sm_cg n (fun i _ => ?_)
  rw [wq, wf]
  by_cases e : t.testBit i = true ∧ ad i (t ^^^ 2 ^ i) = true
  · rw [if_pos e, if_pos ⟨e, Or.inl (x_lt e.1)⟩]
  · rw [if_neg e, if_neg (fun z => e z.1)]
theorem wp_n : wp n ad V s n t = wp n ad V (s + 1) 0 t := by
  rw [wp, wp]
  congr 1
  refine sm_cg n (fun i hi => ?_)
  rw [wq, wq]
  by_cases e : (t.testBit i = true ∧ ad i (t ^^^ 2 ^ i) = true) ∧ (t ^^^ 2 ^ i < s ∨ (t ^^^ 2 ^ i = s ∧ i < n))
  · rw [if_pos e, if_pos ⟨e.1, by omega⟩]
  · rw [if_neg e, if_neg (fun z => e ⟨z.1, by omega⟩)]
theorem wp_skip (h : V s = 0) : wp n ad V (s + 1) 0 t = wp n ad V s 0 t := by
  rw [wp, wp]
  congr 1
  refine sm_cg n (fun i hi => ?_)
  rw [wq, wq]
  by_cases e : (t.testBit i = true ∧ ad i (t ^^^ 2 ^ i) = true) ∧ (t ^^^ 2 ^ i < s ∨ (t ^^^ 2 ^ i = s ∧ i < 0))
  · rw [if_pos e, if_pos ⟨e.1, by omega⟩]
  · rw [if_neg e]
    by_cases e2 : (t.testBit i = true ∧ ad i (t ^^^ 2 ^ i) = true) ∧ (t ^^^ 2 ^ i < s + 1 ∨ (t ^^^ 2 ^ i = s + 1 ∧ i < 0))
    · rw [if_pos e2]
      have : t ^^^ 2 ^ i = s := by
        have a := e2.2
        have c : ¬ t ^^^ 2 ^ i < s := fun z => e ⟨e2.1, Or.inl z⟩
        omega
      rw [this, h]
    · rw [if_neg e2]
theorem wp_no (h : ¬ (s.testBit b = false ∧ ad b s = true)) : wp n ad V s (b + 1) t = wp n ad V s b t := by
  rw [wp, wp]
  congr 1
  refine sm_cg n (fun i hi => ?_)
  rw [wq, wq]
  by_cases e : (t.testBit i = true ∧ ad i (t ^^^ 2 ^ i) = true) ∧ (t ^^^ 2 ^ i < s ∨ (t ^^^ 2 ^ i = s ∧ i < b))
  · rw [if_pos e, if_pos ⟨e.1, by omega⟩]
  · rw [if_neg e, if_neg]
    intro z
    refine e ⟨z.1, ?_⟩
    rcases z.2 with y | ⟨y1, y2⟩
    · exact Or.inl y
    · by_cases q : i = b
      · subst q
        refine absurd ⟨?_, by rw [← y1]; exact z.1.2⟩ h
        rw [← y1, x_bit, if_pos rfl, z.1.1]; rfl
      · exact Or.inr ⟨y1, by omega⟩
theorem wp_oth (h : ¬ t = s ||| 2 ^ b) : wp n ad V s (b + 1) t = wp n ad V s b t := by
  rw [wp, wp]
  congr 1
  refine sm_cg n (fun i hi => ?_)
  rw [wq, wq]
  by_cases e : (t.testBit i = true ∧ ad i (t ^^^ 2 ^ i) = true) ∧ (t ^^^ 2 ^ i < s ∨ (t ^^^ 2 ^ i = s ∧ i < b))
  · rw [if_pos e, if_pos ⟨e.1, by omega⟩]
  · rw [if_neg e, if_neg]
    intro z
    refine e ⟨z.1, ?_⟩
    rcases z.2 with y | ⟨y1, y2⟩
    · exact Or.inl y
    · by_cases q : i = b
      · subst q
        refine absurd ?_ h
        have : s.testBit i = false := by rw [← y1, x_bit, if_pos rfl, z.1.1]; rfl
        rw [x_or this, ← y1, x_x]
      · exact Or.inr ⟨y1, by omega⟩
theorem wp_add (hb : b < n) (h : s.testBit b = false) (ha : ad b s = true) : wp n ad V s (b + 1) (s ||| 2 ^ b) = wp n ad V s b (s ||| 2 ^ b) + V s := by
  rw [wp, wp, Int64.add_assoc]
  congr 1
  have ex : (s ||| 2 ^ b) ^^^ 2 ^ b = s := by rw [x_or h, x_x]
  have eb : (s ||| 2 ^ b).testBit b = true := by rw [Nat.testBit_or, Nat.testBit_two_pow, decide_eq_true rfl, Bool.or_true]
  refine sm_one n hb (fun i hi q => ?_) ?_
  · rw [wq, wq]
    by_cases e : ((s ||| 2 ^ b).testBit i = true ∧ ad i ((s ||| 2 ^ b) ^^^ 2 ^ i) = true) ∧ ((s ||| 2 ^ b) ^^^ 2 ^ i < s ∨ ((s ||| 2 ^ b) ^^^ 2 ^ i = s ∧ i < b))
    · rw [if_pos e, if_pos ⟨e.1, by omega⟩]
    · rw [if_neg e, if_neg (fun z => e ⟨z.1, by omega⟩)]
  · rw [wq, wq, ex, if_pos ⟨⟨eb, ha⟩, Or.inr ⟨rfl, by omega⟩⟩, if_neg (fun z => by omega), Int64.zero_add]
end xk_wy
