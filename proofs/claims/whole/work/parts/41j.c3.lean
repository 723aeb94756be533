/-! the class: the law of hauling, whole -/
section yk_c3j
variable {d : Nat} {g : xq_V} {J : Nat → Nat → Int64} {I : Nat → Nat → Int32} {Q : Option Value → xq_S → Prop} {q : Bool} {n ns : Nat} {R : Nat → xw} {W F : xw}
def tyok : List Bool → xw → Prop
  | [], _ => True
  | b :: r, P => (b = true → P r.length = nI 0 ∨ P r.length = nI 1) ∧ tyok r P
theorem tyok_fr {P P' : xw} : ∀ ts : List Bool, (∀ j, j < ts.length → P' j = P j) → tyok ts P → tyok ts P'
  | [], _, _ => trivial
  | b :: r, h, t => ⟨fun z => by rw [h _ (by simp)]; exact t.1 z, tyok_fr r (fun j hj => h j (by simp; omega)) t.2⟩
theorem bit_or {a b : Int32} (ha : a = nI 0 ∨ a = nI 1) (hb : b = nI 0 ∨ b = nI 1) : a ||| b = nI 0 ∨ a ||| b = nI 1 := by
  rcases ha with h | h <;> rcases hb with h2 | h2 <;> subst h <;> subst h2 <;> decide
theorem bit_and {a b : Int32} (ha : a = nI 0 ∨ a = nI 1) (hb : b = nI 0 ∨ b = nI 1) : a &&& b = nI 0 ∨ a &&& b = nI 1 := by
  rcases ha with h | h <;> rcases hb with h2 | h2 <;> subst h <;> subst h2 <;> decide
theorem bit_not {a : Int32} (ha : a = nI 0 ∨ a = nI 1) : nI 1 - a = nI 0 ∨ nI 1 - a = nI 1 := by
  rcases ha with h | h <;> subst h <;> decide
theorem sp_ty_ev : ∀ (c i h' : Nat) (ts ts' : List Bool) (P : xw), sp_ty W c i ts = some ts' → sp_hs W c i ts.length = some h' → tyok ts P → tyok ts' (sp_ev W F c i P ts.length) ∧ ts'.length = h' := by
  intro c
  induction c with
  | zero =>
    intro i h' ts ts' P ht hh hk
    simp only [sp_ty, sp_hs, Option.some.injEq] at ht hh
    subst ht hh
    exact ⟨hk, rfl⟩
  | succ c ih =>
    intro i h' ts ts' P ht hh hk
    obtain ⟨s, hs, es, cs⟩ := sp_hs1 hh
    rw [sp_ev1 hs es]
    simp only [sp_ty] at ht
    rw [es] at ht
    simp only [xn_lt (show s < 2147483648 by omega) (show 9 < 2147483648 by omega), xn_lt (show s < 2147483648 by omega) (show 17 < 2147483648 by omega), xn_lt (show s < 2147483648 by omega) (show 20 < 2147483648 by omega), xn_eq (show s < 2147483648 by omega) (show 16 < 2147483648 by omega), xn_eq (show s < 2147483648 by omega) (show 20 < 2147483648 by omega)] at ht
    by_cases h9 : s < 9
    · rw [if_pos h9] at ht
      have cs : sp_hs W c (i + 1) (ts.length + 1) = some h' := by
        rcases cs with z | z | z | z
        · exact z.2.2
        all_goals omega
      rw [if_pos (by omega)]
      exact ih (i + 1) h' (false :: ts) ts' _ ht cs ⟨fun z => (by cases z), tyok_fr ts (fun j hj => upd_ne (by omega)) hk⟩
    rw [if_neg h9] at ht
    by_cases h16 : s = 16
    · rw [if_pos h16] at ht
      have cs : sp_hs W c (i + 1) ts.length = some h' := by
        rcases cs with z | z | z | z
        · omega
        · exact z.2.2.2
        all_goals omega
      match ts, ht, cs, hk with
      | _ :: r, ht, cs, hk =>
        rw [if_neg (by omega), if_pos h16]
        exact ih (i + 1) h' (false :: r) ts' _ ht cs ⟨fun z => (by cases z), tyok_fr r (fun j hj => upd_ne (by simp; omega)) hk.2⟩
    rw [if_neg h16] at ht
    by_cases h20 : s = 20
    · rw [if_pos h20] at ht
      have cs : sp_hs W c (i + 1) ts.length = some h' := by
        rcases cs with z | z | z | z
        · omega
        · omega
        · exact z.2.2
        all_goals omega
      match ts, ht, cs, hk with
      | true :: r, ht, cs, hk =>
        rw [if_neg (by omega), if_neg h16, if_pos h20]
        refine ih (i + 1) h' (true :: r) ts' _ ht cs ⟨fun z => ?_, tyok_fr r (fun j hj => upd_ne (by simp; omega)) hk.2⟩
        simp only [List.length_cons, Nat.add_sub_cancel, upd_eq]
        exact bit_not (hk.1 rfl)
    rw [if_neg h20] at ht
    have cs : 13 ≤ s ∧ 2 ≤ ts.length ∧ sp_hs W c (i + 1) (ts.length - 1) = some h' := by
      rcases cs with z | z | z | z
      · omega
      · omega
      · omega
      · exact ⟨z.1, z.2.2.2.1, z.2.2.2.2⟩
    rw [if_neg (by omega), if_neg h16, if_neg h20]
    by_cases h17 : s < 17
    · rw [if_pos h17] at ht
      match ts, ht, cs, hk with
      | _ :: _ :: r, ht, cs, hk =>
        exact ih (i + 1) h' (false :: r) ts' _ ht cs.2.2 ⟨fun z => (by cases z), tyok_fr r (fun j hj => upd_ne (by simp; omega)) hk.2.2⟩
    rw [if_neg h17] at ht
    by_cases h19 : s < 20
    · rw [if_pos h19] at ht
      match ts, ht, cs, hk with
      | _ :: _ :: r, ht, cs, hk =>
        refine ih (i + 1) h' (true :: r) ts' _ ht cs.2.2 ⟨fun z => ?_, tyok_fr r (fun j hj => upd_ne (by simp; omega)) hk.2.2⟩
        simp only [List.length_cons, Nat.add_sub_cancel, upd_eq]
        have : s = 17 ∨ s = 18 ∨ s = 19 := by omega
        rcases this with e | e | e <;> subst e
        · show (if _ < _ then nI 1 else nI 0) = nI 0 ∨ (if _ < _ then nI 1 else nI 0) = nI 1
          split
          · exact Or.inr rfl
          · exact Or.inl rfl
        · show (if _ = _ then nI 1 else nI 0) = nI 0 ∨ (if _ = _ then nI 1 else nI 0) = nI 1
          split
          · exact Or.inr rfl
          · exact Or.inl rfl
        · show (if _ < _ then nI 1 else nI 0) = nI 0 ∨ (if _ < _ then nI 1 else nI 0) = nI 1
          split
          · exact Or.inr rfl
          · exact Or.inl rfl
    rw [if_neg h19] at ht
    match ts, ht, cs, hk with
    | true :: true :: r, ht, cs, hk =>
      refine ih (i + 1) h' (true :: r) ts' _ ht cs.2.2 ⟨fun z => ?_, tyok_fr r (fun j hj => upd_ne (by simp; omega)) hk.2.2⟩
      simp only [List.length_cons, Nat.add_sub_cancel, upd_eq]
      have : s = 21 ∨ s = 22 := by omega
      rcases this with e | e <;> subst e
      · exact bit_and (hk.2.1 rfl) (hk.1 rfl)
      · exact bit_or (hk.2.1 rfl) (hk.1 rfl)
end yk_c3j
