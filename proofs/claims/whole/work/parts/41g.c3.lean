/-! the class: signs of the law -/
def cj (s a b : Int32) : Int32 := if s = nI 8 then a + b else if s = nI 9 then a - b else if s = nI 10 then a * b else if s = nI 11 then (if b = nI 0 then nI 0 else a / b) else if s = nI 12 then (if a < b then nI 1 else nI 0) else if s = nI 13 then (if a = b then nI 1 else nI 0) else if s = nI 14 then (if b < a then nI 1 else nI 0) else if s = nI 15 then a &&& b else a ||| b
theorem yl_85 {d : Nat} {g : xq_V} {J : Nat → Nat → Int64} {I : Nat → Nat → Int32} {Q : Option Value → xq_S → Prop} {q : Bool} {R : Nat → xw} {s a b : Int32} (hp : Q (some (.int (cj s a b))) (xq_s g J (xc q I R))) : xq_wp d 85 (xq_s g J (xc q I R)) 0 [.int s, .int a, .int b] [] Q := by
  unfold cj at hp
  refine yu_85 ⟨fun h => ?_, fun h => ?_, fun h => ?_, fun h => ⟨fun q => ?_, fun q => ⟨q, ?_⟩⟩, fun h => ⟨fun q => ?_, fun q => ?_⟩, fun h => ⟨fun q => ?_, fun q => ?_⟩, fun h => ⟨fun q => ?_, fun q => ?_⟩, fun h => ?_, fun h => ?_⟩
  · subst h; exact hp
  · subst h; exact hp
  · subst h; exact hp
  · subst h; simp only [if_pos q] at hp; exact hp
  · subst h; simp only [if_neg q] at hp; exact hp
  · subst h; simp only [if_pos q] at hp; exact hp
  · subst h; simp only [if_neg q] at hp; exact hp
  · subst h; simp only [if_pos q] at hp; exact hp
  · subst h; simp only [if_neg q] at hp; exact hp
  · subst h; simp only [if_pos q] at hp; exact hp
  · subst h; simp only [if_neg q] at hp; exact hp
  · subst h; exact hp
  · rw [if_neg (show ¬ s = nI 8 from h 0 (by decide)), if_neg (show ¬ s = nI 9 from h 1 (by decide)), if_neg (show ¬ s = nI 10 from h 2 (by decide)), if_neg (show ¬ s = nI 11 from h 3 (by decide)), if_neg (show ¬ s = nI 12 from h 4 (by decide)), if_neg (show ¬ s = nI 13 from h 5 (by decide)), if_neg (show ¬ s = nI 14 from h 6 (by decide)), if_neg (show ¬ s = nI 15 from h 7 (by decide))] at hp
    exact hp
