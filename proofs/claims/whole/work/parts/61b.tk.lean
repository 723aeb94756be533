/-! text: the class's tokens -/
def kd (c : Nat) : Nat := if (97 ≤ c ∧ c ≤ 122) ∨ (65 ≤ c ∧ c ≤ 90) then 2 else if 48 ≤ c ∧ c ≤ 57 then 1 else if c = 32 ∨ c = 10 then 5 else if (40 ≤ c ∧ c ≤ 43) ∨ c = 45 ∨ c = 47 ∨ (59 ≤ c ∧ c ≤ 62) then 3 else 4
/-- where the token before one ends -/
def pe (st sz : Nat → Nat) : Nat → Nat
  | 0 => 0
  | i + 1 => st i + sz i
def dc (tp : Nat → Nat) (s : Nat) : Nat → Nat
  | 0 => 0
  | z + 1 => 10 * dc tp s z + (tp (s + z) - 48)
def tk1 (tp : Nat → Nat) (l : Nat) (st sz : Nat → Nat) (i : Nat) : Prop := pe st sz i ≤ st i ∧ 1 ≤ sz i ∧ st i + sz i ≤ l ∧ (∀ p, pe st sz i ≤ p → p < st i → kd (tp p) = 5) ∧ (∀ p, st i ≤ p → p < st i + sz i → kd (tp p) = kd (tp (st i))) ∧ ¬ kd (tp (st i)) = 5 ∧ (kd (tp (st i)) ≤ 2 → st i + sz i = l ∨ ¬ kd (tp (st i + sz i)) = kd (tp (st i))) ∧ (¬ kd (tp (st i)) ≤ 2 → sz i = 1)
def tkP (tp : Nat → Nat) (l t : Nat) (st sz : Nat → Nat) : Prop := (∀ i, i < t → tk1 tp l st sz i) ∧ pe st sz t ≤ l ∧ ∀ p, pe st sz t ≤ p → p < l → kd (tp p) = 5
def tkR (tp st sz : Nat → Nat) (t : Nat) (I : Nat → xw) : Prop := ∀ i, i < t → I 107 i = nI (st i) ∧ I 108 i = nI (sz i) ∧ I 106 i = nI (if kd (tp (st i)) = 1 ∧ 4 < sz i then 4 else kd (tp (st i))) ∧ (kd (tp (st i)) = 1 → sz i ≤ 4 → I 109 i = nI (dc tp (st i) (sz i))) ∧ (kd (tp (st i)) = 3 → I 109 i = nI (tp (st i)))
def un (f : Nat → Nat) (k v : Nat) : Nat → Nat := fun j => if j = k then v else f j
section xk_tk
variable {tp st sz : Nat → Nat} {l t i : Nat}
theorem un_eq {f : Nat → Nat} {k v : Nat} : un f k v k = v := by simp only [un, if_true]
theorem un_ne {f : Nat → Nat} {k v j : Nat} (h : ¬ j = k) : un f k v j = f j := by simp only [un, if_neg h]
theorem kd_r (c : Nat) : 1 ≤ kd c ∧ kd c ≤ 5 := by
  unfold kd
  repeat' split
  all_goals omega
theorem pe_un {a b : Nat} : ∀ j, j ≤ t → pe (un st t a) (un sz t b) j = pe st sz j := by
  intro j hj
  cases j with
  | zero => rfl
  | succ j => rw [pe, pe, un_ne (by omega), un_ne (by omega)]
theorem pe_uz {b : Nat} : ∀ j, j ≤ t → pe st (un sz t b) j = pe st sz j := by
  intro j hj
  cases j with
  | zero => rfl
  | succ j => rw [pe, pe, un_ne (by omega)]
theorem tkP_blank (h : tkP tp i t st sz) (hb : kd (tp i) = 5) : tkP tp (i + 1) t st sz := by
  obtain ⟨h1, h2, h3⟩ := h
  refine ⟨fun j hj => ?_, by omega, fun p p1 p2 => ?_⟩
  · obtain ⟨a1, a2, a3, a4, a5, a6, a7, a8⟩ := h1 j hj
    refine ⟨a1, a2, by omega, a4, a5, a6, fun q => ?_, a8⟩
    rcases a7 q with y | y
    · right; rw [y, hb]; omega
    · exact Or.inr y
  · by_cases e : p = i
    · rw [e]; exact hb
    · exact h3 p p1 (by omega)
theorem tkP_last (h : tkP tp i t st sz) (hi : 1 ≤ i) (hb : ¬ kd (tp (i - 1)) = 5) : 1 ≤ t ∧ st (t - 1) + sz (t - 1) = i ∧ kd (tp (i - 1)) = kd (tp (st (t - 1))) := by
  obtain ⟨h1, h2, h3⟩ := h
  have e : pe st sz t = i := by
    rcases Nat.lt_or_ge (pe st sz t) i with y | y
    · exact absurd (h3 (i - 1) (by omega) (by omega)) hb
    · omega
  cases t with
  | zero => rw [pe] at e; omega
  | succ t =>
    rw [pe] at e
    obtain ⟨a1, a2, a3, a4, a5, a6, a7, a8⟩ := h1 t (by omega)
    refine ⟨by omega, e, ?_⟩
    exact a5 (i - 1) (by show st t ≤ i - 1; omega) (by show i - 1 < st t + sz t; omega)
theorem tkP_ext (h : tkP tp i t st sz) (hi : 1 ≤ i) (hk : kd (tp i) = kd (tp (i - 1))) (h2 : kd (tp i) ≤ 2) : 1 ≤ t ∧ st (t - 1) + sz (t - 1) = i ∧ kd (tp (st (t - 1))) = kd (tp i) ∧ tkP tp (i + 1) t st (un sz (t - 1) (sz (t - 1) + 1)) := by
  obtain ⟨b1, b2, b3⟩ := tkP_last h hi (by omega)
  refine ⟨b1, b2, by omega, ?_⟩
  obtain ⟨g1, g2, g3⟩ := h
  obtain ⟨t, rfl⟩ : ∃ k, t = k + 1 := ⟨t - 1, by omega⟩
  rw [show t + 1 - 1 = t by omega] at *
  refine ⟨fun j hj => ?_, ?_, fun p p1 p2 => ?_⟩
  · obtain ⟨a1, a2, a3, a4, a5, a6, a7, a8⟩ := g1 j hj
    unfold tk1
    rw [pe_uz j (by omega)]
    by_cases e : j = t
    · subst e
      rw [un_eq]
      refine ⟨a1, by omega, by omega, a4, fun p p1 p2 => ?_, a6, fun _ => Or.inl (by omega), fun q => by omega⟩
      by_cases e2 : p = i
      · rw [e2]; omega
      · exact a5 p p1 (by omega)
    · rw [un_ne e]
      refine ⟨a1, a2, by omega, a4, a5, a6, fun q => ?_, a8⟩
      rcases a7 q with y | y
      · obtain ⟨c1, c2, c3, -⟩ := g1 (j + 1) (by omega)
        rw [pe] at c1
        omega
      · exact Or.inr y
  · rw [pe, un_eq]; omega
  · rw [pe, un_eq] at p1; omega
theorem tkP_new (h : tkP tp i t st sz) (hb : ¬ kd (tp i) = 5) (hn : ¬ (1 ≤ i ∧ kd (tp i) = kd (tp (i - 1)) ∧ kd (tp i) ≤ 2)) : tkP tp (i + 1) (t + 1) (un st t i) (un sz t 1) := by
  have hl := tkP_last h
  obtain ⟨g1, g2, g3⟩ := h
  refine ⟨fun j hj => ?_, ?_, fun p p1 p2 => ?_⟩
  · unfold tk1
    rw [pe_un j (by omega)]
    by_cases e : j = t
    · subst e
      rw [un_eq, un_eq]
      refine ⟨g2, by omega, by omega, g3, fun p p1 p2 => by rw [show p = i by omega], hb, fun _ => Or.inl rfl, fun _ => rfl⟩
    · obtain ⟨a1, a2, a3, a4, a5, a6, a7, a8⟩ := g1 j (by omega)
      rw [un_ne e, un_ne e]
      refine ⟨a1, a2, by omega, a4, a5, a6, fun q => ?_, a8⟩
      rcases a7 q with y | y
      · right
        intro z
        rw [y] at z
        have hk : kd (tp (i - 1)) = kd (tp (st j)) := a5 (i - 1) (by omega) (by omega)
        exact hn ⟨by omega, by omega, by omega⟩
      · exact Or.inr y
  · rw [pe, un_eq, un_eq]; omega
  · rw [pe, un_eq, un_eq] at p1; omega
end xk_tk
/-- what the reader's cells may have become -/
def rdF (I I' : Nat → xw) : Prop := (∀ a, ¬ a = 104 → ¬ (106 ≤ a ∧ a < 110) → I' a = I a) ∧ ∀ j, ¬ (6 ≤ j ∧ j < 10) → I' 104 j = I 104 j
section yk_tk
variable {d : Nat} {g : xq_V} {J : Nat → Nat → Int64} {I I0 : Nat → xw} {Q : Option Value → xq_S → Prop} {tp st sz : Nat → Nat} {l t i c : Nat}
theorem yl_28 (hc : c < 256) (hp : Q (some (.int (nI (kd c)))) (xq_s g J I)) : xq_wp d 28 (xq_s g J I) 0 [.int (nI c), xq_un] [] Q := by
  have key : ∀ k, kd c = k → Q (some (.int (nI k))) (xq_s g J I) := fun k e => by rw [← e]; exact hp
  refine tk_28 (d := d) ?_
  repeat' (first
    | exact key _ (by unfold kd; repeat' split
                      all_goals omega)
    | refine And.intro ?_ ?_
    | intro _
    | omega)
theorem rdF_w {a j : Nat} {v : Int32} (h : rdF I0 I) (ha : (106 ≤ a ∧ a < 110) ∨ (a = 104 ∧ 6 ≤ j ∧ j < 10)) : rdF I0 (xq_w I a j v) := by
  refine ⟨fun b b1 b2 => ?_, fun k hk => ?_⟩
  · rw [xw_i (by omega)]; exact h.1 b b1 b2
  · by_cases e : a = 104
    · subst e; rw [xw_x (by omega)]; exact h.2 k hk
    · rw [xw_i (fun z => e z.symm)]; exact h.2 k hk
theorem dc_lt (h : ∀ p, kd (tp p) = 1 → 48 ≤ tp p ∧ tp p ≤ 57) {s : Nat} : ∀ z, (∀ p, s ≤ p → p < s + z → kd (tp p) = 1) → dc tp s z < 10 ^ z := by
  intro z
  induction z with
  | zero => intro _; rw [dc]; omega
  | succ z ih =>
    intro hz
    have a := ih (fun p p1 p2 => hz p p1 (by omega))
    have b := h _ (hz (s + z) (by omega) (by omega))
    rw [dc, Nat.pow_succ]
    omega
theorem kd_1 {c : Nat} (h : kd c = 1) : 48 ≤ c ∧ c ≤ 57 := by
  unfold kd at h
  repeat' split at h
  all_goals omega
theorem yl_27_24 (hl : l ≤ 400) (htp : ∀ p, p < l → I0 105 p = nI (tp p) ∧ tp p < 256) (e1 : I0 104 1 = nI l) (hp : ∀ (t : Nat) (st sz : Nat → Nat) (I : Nat → xw), t ≤ l → tkP tp l t st sz → tkR tp st sz t I → I 104 6 = nI t → I 106 t = nI 0 → I 107 t = nI l → I 104 7 = I0 104 7 → I 104 8 = I0 104 8 → I 104 9 = I0 104 9 → rdF I0 I → Q none (xq_s g J I)) : ∀ (c i t : Nat) (st sz : Nat → Nat) (I : Nat → xw) (u3 : Value), i + c = l → t ≤ i → tkP tp i t st sz → tkR tp st sz t I → I 104 6 = nI t → I 104 7 = I0 104 7 → I 104 8 = I0 104 8 → I 104 9 = I0 104 9 → rdF I0 I → xq_wp (d + 2) 27 (xq_s g J I) 24 [.ref 104, .int (nI (if i = 0 then 5 else kd (tp (i - 1)))), .int (nI i), u3] [] Q := by
  intro c
  induction c with
  | zero =>
    intro i t st sz I u3 ei ht hP hR h6 h7 h8 h9 hF
    have : i = l := by omega
    subst this
    have e1' : I 104 1 = nI i := (hF.2 1 (by omega)).trans e1
    refine tk_27_24 (d := d + 1) (c := 0) ⟨e1', by omega, by omega, fun z => by omega, fun _ => tk_27_89 (d := d + 2) (t := t) ⟨h6, by omega, h6, ?_⟩⟩
    refine hp t st sz _ ht hP (fun j hj => ?_) ?_ ?_ ?_ ?_ ?_ ?_ (rdF_w (rdF_w hF (by omega)) (by omega))
    · obtain ⟨r1, r2, r3, r4, r5⟩ := hR j hj
      have q7 : xq_w (xq_w I 106 t (nI 0)) 107 t (I 104 1) 107 j = I 107 j := by rw [xw_x (by omega), xw_i (by omega)]
      have q8 : xq_w (xq_w I 106 t (nI 0)) 107 t (I 104 1) 108 j = I 108 j := by rw [xw_i (by omega), xw_i (by omega)]
      have q6 : xq_w (xq_w I 106 t (nI 0)) 107 t (I 104 1) 106 j = I 106 j := by rw [xw_i (by omega), xw_x (by omega)]
      have q9 : xq_w (xq_w I 106 t (nI 0)) 107 t (I 104 1) 109 j = I 109 j := by rw [xw_i (by omega), xw_i (by omega)]
      rw [q7, q8, q6, q9]
      exact ⟨r1, r2, r3, r4, r5⟩
    · rw [xw_i (by omega), xw_i (by omega)]; exact h6
    · rw [xw_i (by omega), xw_v]
    · rw [xw_v]; exact e1'
    · rw [xw_i (by omega), xw_i (by omega)]; exact h7
    · rw [xw_i (by omega), xw_i (by omega)]; exact h8
    · rw [xw_i (by omega), xw_i (by omega)]; exact h9
  | succ c ih =>
    intro i t st sz I u3 ei ht hP hR h6 h7 h8 h9 hF
    have hi : i < l := by omega
    obtain ⟨ec0, hc⟩ := htp i hi
    have e1' : I 104 1 = nI l := (hF.2 1 (by omega)).trans e1
    have ec : I 105 i = nI (tp i) := by rw [hF.1 105 (by omega) (by omega)]; exact ec0
    have kr := kd_r (tp i)
    have br : (if i = 0 then 5 else kd (tp (i - 1))) ≤ 5 := by
      have := kd_r (tp (i - 1))
      split <;> omega
    have nxt : ∀ (t : Nat) (st sz : Nat → Nat) (I : Nat → xw) (u3 : Value), t ≤ i + 1 → tkP tp (i + 1) t st sz → tkR tp st sz t I → I 104 6 = nI t → I 104 7 = I0 104 7 → I 104 8 = I0 104 8 → I 104 9 = I0 104 9 → rdF I0 I → xq_wp (d + 2) 27 (xq_s g J I) 24 [.ref 104, .int (nI (kd (tp i))), .int (nI (i + 1)), u3] [] Q := by
      intro t st sz I u3 a1 a2 a3 a4 a5 a6 a7 a8
      have := ih (i + 1) t st sz I u3 (by omega) a1 a2 a3 a4 a5 a6 a7 a8
      rw [if_neg (by omega), show i + 1 - 1 = i by omega] at this
      exact this
    refine tk_27_24 (d := d + 1) (c := tp i) ⟨e1', by omega, by omega, fun _ => ⟨by omega, ec, yl_28 hc ?_⟩, fun z => by omega⟩
    -- the token goes on
    have ext : kd (tp i) = (if i = 0 then 5 else kd (tp (i - 1))) → kd (tp i) ≤ 2 → xq_wp (d + 1) 29 (xq_s g J I) 0 [.ref 104, .int (nI (tp i)), xq_un] [] (fun v x1 => xq_wp (d + 1 + 1) 27 x1 67 [.ref 104, .int (nI (if i = 0 then 5 else kd (tp (i - 1)))), .int (nI i), .int (nI (kd (tp i)))] (v.toList ++ []) Q) := fun q q2 => by
      have i1 : ¬ i = 0 := fun z => by rw [if_pos z] at q; omega
      rw [if_neg i1] at q
      obtain ⟨b1, b2, b3, b4⟩ := tkP_ext hP (by omega) q q2
      obtain ⟨r1, r2, r3, r4, r5⟩ := hR (t - 1) (by omega)
      have em : xq_max (nI 0) (I 104 6 - nI 1) = nI (t - 1) := by rw [h6]; exact xn_msub (by omega) (by omega)
      obtain ⟨a1, a2, a3, a4, a5, a6, a7, a8⟩ := hP.1 (t - 1) (by omega)
      have es : xq_w I 108 (t - 1) (I 108 (t - 1) + nI 1) 108 (t - 1) = nI (sz (t - 1) + 1) := by rw [xw_v, r2, nI_add]
      -- the new rows
      have fin : ∀ I' : Nat → xw, rdF I0 I' → (∀ j, ¬ j = t - 1 → I' 106 j = I 106 j ∧ I' 108 j = I 108 j ∧ I' 109 j = I 109 j) → I' 107 = I 107 → I' 104 = I 104 → I' 108 (t - 1) = nI (sz (t - 1) + 1) → I' 106 (t - 1) = nI (if kd (tp (st (t - 1))) = 1 ∧ 4 < sz (t - 1) + 1 then 4 else kd (tp (st (t - 1)))) → (kd (tp (st (t - 1))) = 1 → sz (t - 1) + 1 ≤ 4 → I' 109 (t - 1) = nI (dc tp (st (t - 1)) (sz (t - 1) + 1))) → xq_wp (d + 1 + 1) 27 (xq_s g J I') 67 [.ref 104, .int (nI (if i = 0 then 5 else kd (tp (i - 1)))), .int (nI i), .int (nI (kd (tp i)))] [] Q := by
        intro I' f1 f2 f3 f4 f5 f6 f7
        refine tk_27_67 (d := d + 2) (nxt t st _ I' _ (by omega) b4 (fun j hj => ?_) (by rw [f4]; exact h6) (by rw [f4]; exact h7) (by rw [f4]; exact h8) (by rw [f4]; exact h9) f1)
        by_cases e : j = t - 1
        · subst e
          rw [un_eq, f3]
          exact ⟨r1, f5, f6, f7, fun z => by omega⟩
        · rw [un_ne e, f3, (f2 j e).1, (f2 j e).2.1, (f2 j e).2.2]
          exact hR j hj
      refine tk_29 (d := d) (t := t - 1) ⟨em, by omega, fun y => ⟨fun y2 => ?_, fun y2 => ?_⟩, fun y => ?_⟩
      · rw [es] at y2
        rw [xn_lt (by omega) (by omega)] at y2
        have k1 : kd (tp (st (t - 1))) = 1 := by
          rw [r3] at y
          rcases Nat.lt_or_ge 1 (kd (tp (st (t - 1)))) with z | z
          · exfalso
            split at y
            · rw [xn_eq (by omega) (by omega)] at y; omega
            · rw [xn_eq (by omega) (by omega)] at y; omega
          · have := kd_r (tp (st (t - 1))); omega
        refine fin _ (rdF_w (rdF_w (rdF_w hF (by omega)) (by omega)) (by omega)) (fun j hj => ?_) ?_ ?_ ?_ ?_ (fun _ z => by omega)
        · rw [xw_x hj, xw_i (by omega), xw_i (by omega), xw_i (by omega), xw_i (by omega), xw_x hj, xw_i (by omega), xw_x hj, xw_i (by omega)]
          exact ⟨rfl, rfl, rfl⟩
        · rw [xw_i (by omega), xw_i (by omega), xw_i (by omega)]
        · rw [xw_i (by omega), xw_i (by omega), xw_i (by omega)]
        · rw [xw_i (by omega), xw_i (by omega)]; exact es
        · rw [xw_v, if_pos ⟨k1, by omega⟩]
      · rw [es] at y2
        rw [xn_lt (by omega) (by omega)] at y2
        have k1 : kd (tp (st (t - 1))) = 1 := by
          rw [r3] at y
          rcases Nat.lt_or_ge 1 (kd (tp (st (t - 1)))) with z | z
          · exfalso
            split at y
            · rw [xn_eq (by omega) (by omega)] at y; omega
            · rw [xn_eq (by omega) (by omega)] at y; omega
          · have := kd_r (tp (st (t - 1))); omega
        refine fin _ (rdF_w (rdF_w hF (by omega)) (by omega)) (fun j hj => ?_) ?_ ?_ ?_ ?_ (fun _ z => ?_)
        · rw [xw_i (by omega), xw_i (by omega), xw_i (by omega), xw_x hj, xw_x hj, xw_i (by omega)]
          exact ⟨rfl, rfl, rfl⟩
        · rw [xw_i (by omega), xw_i (by omega)]
        · rw [xw_i (by omega), xw_i (by omega)]
        · rw [xw_i (by omega)]; exact es
        · rw [xw_i (by omega), xw_i (by omega), y, if_neg (by omega), k1]
        · have di := kd_1 (show kd (tp i) = 1 by omega)
          rw [xw_v, r4 k1 (by omega), pk_mul, nI_add, pk_sub (by omega), dc, b2]
          congr 1
          omega
      · have k2 : ¬ (kd (tp (st (t - 1))) = 1 ∧ ¬ 4 < sz (t - 1)) := fun z => y (by rw [r3, if_neg (fun k => z.2 k.2), z.1])
        refine fin _ (rdF_w (rdF_w hF (by omega)) (by omega)) (fun j hj => ?_) ?_ ?_ ?_ ?_ (fun z z2 => absurd ⟨z, by omega⟩ k2)
        · rw [xw_i (by omega), xw_i (by omega), xw_i (by omega), xw_x hj, xw_x hj, xw_i (by omega)]
          exact ⟨rfl, rfl, rfl⟩
        · rw [xw_i (by omega), xw_i (by omega)]
        · rw [xw_i (by omega), xw_i (by omega)]
        · rw [xw_i (by omega)]; exact es
        · rw [xw_i (by omega), xw_i (by omega), r3]
          by_cases z : kd (tp (st (t - 1))) = 1
          · rw [if_pos ⟨z, Classical.byContradiction fun k => k2 ⟨z, k⟩⟩, if_pos ⟨z, by have := Classical.byContradiction (p := 4 < sz (t - 1)) fun k => k2 ⟨z, k⟩; omega⟩]
          · rw [if_neg (fun k => z k.1), if_neg (fun k => z k.1)]
    -- a token begins
    have beg : ¬ kd (tp i) = 5 → ¬ (kd (tp i) = (if i = 0 then 5 else kd (tp (i - 1))) ∧ kd (tp i) ≤ 2) → xq_wp (d + 1) 30 (xq_s g J I) 0 [.ref 104, .int (nI (kd (tp i))), .int (nI i)] [] (fun v x1 => xq_wp (d + 1 + 1) 27 x1 81 [.ref 104, .int (nI (if i = 0 then 5 else kd (tp (i - 1)))), .int (nI i), .int (nI (kd (tp i)))] (v.toList ++ []) Q) := fun q q2 => by
      have hN := tkP_new hP q (fun z => q2 ⟨by rw [if_neg (by omega)]; exact z.2.1, z.2.2⟩)
      have fin : ∀ v : Int32, (kd (tp i) = 1 → v = nI (dc tp i 1)) → (kd (tp i) = 3 → v = nI (tp i)) → xq_wp (d + 1 + 1) 27 (xq_s g J (xq_w (xq_w (xq_w (xq_w (xq_w I 106 t (nI (kd (tp i)))) 107 t (nI i)) 108 t (nI 1)) 109 t v) 104 6 (nI (t + 1)))) 81 [.ref 104, .int (nI (if i = 0 then 5 else kd (tp (i - 1)))), .int (nI i), .int (nI (kd (tp i)))] [] Q := by
        intro v v1 v2
        refine tk_27_81 (d := d + 2) (nxt (t + 1) _ _ _ _ (by omega) hN (fun j hj => ?_) xw_v ?_ ?_ ?_ (rdF_w (rdF_w (rdF_w (rdF_w (rdF_w hF (by omega)) (by omega)) (by omega)) (by omega)) (by omega)))
        · by_cases e : j = t
          · subst e
            rw [un_eq, un_eq]
            refine ⟨?_, ?_, ?_, fun z _ => ?_, fun z => ?_⟩
            · rw [xw_i (by omega), xw_i (by omega), xw_i (by omega), xw_v]
            · rw [xw_i (by omega), xw_i (by omega), xw_v]
            · rw [xw_i (by omega), xw_i (by omega), xw_i (by omega), xw_i (by omega), xw_v, if_neg (by omega)]
            · rw [xw_i (by omega), xw_v]; exact v1 z
            · rw [xw_i (by omega), xw_v]; exact v2 z
          · rw [un_ne e, un_ne e]
            obtain ⟨r1, r2, r3, r4, r5⟩ := hR j (by omega)
            refine ⟨?_, ?_, ?_, fun z z2 => ?_, fun z => ?_⟩
            · rw [xw_i (by omega), xw_i (by omega), xw_i (by omega), xw_x e, xw_i (by omega)]; exact r1
            · rw [xw_i (by omega), xw_i (by omega), xw_x e, xw_i (by omega), xw_i (by omega)]; exact r2
            · rw [xw_i (by omega), xw_i (by omega), xw_i (by omega), xw_i (by omega), xw_x e]; exact r3
            · rw [xw_i (by omega), xw_x e, xw_i (by omega), xw_i (by omega), xw_i (by omega)]; exact r4 z z2
            · rw [xw_i (by omega), xw_x e, xw_i (by omega), xw_i (by omega), xw_i (by omega)]; exact r5 z
        · rw [xw_x (by omega), xw_i (by omega), xw_i (by omega), xw_i (by omega), xw_i (by omega)]; exact h7
        · rw [xw_x (by omega), xw_i (by omega), xw_i (by omega), xw_i (by omega), xw_i (by omega)]; exact h8
        · rw [xw_x (by omega), xw_i (by omega), xw_i (by omega), xw_i (by omega), xw_i (by omega)]; exact h9
      refine tk_30 (d := d + 1) (t := t) ⟨h6, by omega, h6, h6, h6, by omega, fun y => ⟨by omega, h6, ?_⟩, fun y => ⟨by omega, h6, ?_⟩⟩
      · have di := kd_1 y
        refine fin _ (fun _ => ?_) (fun z => by omega)
        rw [ec, pk_sub (by omega), dc, dc]
        congr 1
        rw [Nat.add_zero]; omega
      · exact fin _ (fun z => absurd z y) (fun _ => ec)
    refine tk_27_41 (d := d + 1) (c := tp i) ⟨by omega, by omega, fun q => ⟨fun q2 => ⟨by omega, ec, ext q (by omega)⟩, fun q2 => ⟨fun q3 => ⟨by omega, ec, ext q (by omega)⟩, fun q3 => ⟨fun q4 => ?_, fun q4 => beg q4 (fun z => by omega)⟩⟩⟩, fun q => ⟨fun q4 => ?_, fun q4 => beg q4 (fun z => q z.1)⟩⟩
    · exact nxt t st sz I _ (by omega) (tkP_blank hP q4) hR h6 h7 h8 h9 hF
    · exact nxt t st sz I _ (by omega) (tkP_blank hP q4) hR h6 h7 h8 h9 hF
/-- the class's tokens -/
theorem yl_27 (hl : l ≤ 400) (htp : ∀ p, p < l → I 105 p = nI (tp p) ∧ tp p < 256) (e1 : I 104 1 = nI l) (hp : ∀ (t : Nat) (st sz : Nat → Nat) (I' : Nat → xw), t ≤ l → tkP tp l t st sz → tkR tp st sz t I' → I' 104 6 = nI t → I' 106 t = nI 0 → I' 107 t = nI l → I' 104 7 = nI 0 → I' 104 8 = nI 0 → I' 104 9 = Int32.ofInt (-1) → rdF I I' → Q none (xq_s g J I')) : xq_wp (d + 2) 27 (xq_s g J I) 0 [.ref 104, xq_un, xq_un, xq_un] [] Q := by
  refine tk_27 (d := d + 2) ?_
  have hF : rdF I (xq_w (xq_w (xq_w (xq_w I 104 8 (nI 0)) 104 9 (Int32.ofInt (-1))) 104 7 (nI 0)) 104 6 (nI 0)) := rdF_w (rdF_w (rdF_w (rdF_w ⟨fun _ _ _ => rfl, fun _ _ => rfl⟩ (by omega)) (by omega)) (by omega)) (by omega)
  have a6 : xq_w (xq_w (xq_w (xq_w I 104 8 (nI 0)) 104 9 (Int32.ofInt (-1))) 104 7 (nI 0)) 104 6 (nI 0) 104 6 = nI 0 := xw_v
  have a7 : xq_w (xq_w (xq_w (xq_w I 104 8 (nI 0)) 104 9 (Int32.ofInt (-1))) 104 7 (nI 0)) 104 6 (nI 0) 104 7 = nI 0 := by rw [xw_x (by omega), xw_v]
  have a8 : xq_w (xq_w (xq_w (xq_w I 104 8 (nI 0)) 104 9 (Int32.ofInt (-1))) 104 7 (nI 0)) 104 6 (nI 0) 104 8 = nI 0 := by rw [xw_x (by omega), xw_x (by omega), xw_x (by omega), xw_v]
  have a9 : xq_w (xq_w (xq_w (xq_w I 104 8 (nI 0)) 104 9 (Int32.ofInt (-1))) 104 7 (nI 0)) 104 6 (nI 0) 104 9 = Int32.ofInt (-1) := by rw [xw_x (by omega), xw_x (by omega), xw_v]
  generalize xq_w (xq_w (xq_w (xq_w I 104 8 (nI 0)) 104 9 (Int32.ofInt (-1))) 104 7 (nI 0)) 104 6 (nI 0) = I1 at *
  have := yl_27_24 (d := d) (g := g) (J := J) (I0 := I1) (Q := Q) (tp := tp) hl (fun p p1 => by rw [hF.1 105 (by omega) (by omega)]; exact htp p p1) (by rw [hF.2 1 (by omega)]; exact e1) (fun t st sz I2 b1 b2 b3 b4 b5 b6 b7 b8 b9 b10 => hp t st sz I2 b1 b2 b3 b4 b5 b6 (b7.trans a7) (b8.trans a8) (b9.trans a9) ⟨fun a k1 k2 => (b10.1 a k1 k2).trans (hF.1 a k1 k2), fun j k1 => (b10.2 j k1).trans (hF.2 j k1)⟩) l 0 0 (fun _ => 0) (fun _ => 0) I1 xq_un (by omega) (by omega) ⟨fun j hj => by omega, Nat.le_refl _, fun p _ p2 => by omega⟩ (fun j hj => by omega) a6 rfl rfl rfl ⟨fun _ _ _ => rfl, fun _ _ => rfl⟩
  rw [if_pos rfl] at this
  exact this
end yk_tk
