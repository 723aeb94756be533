/-! the model: the law of hauling -/
section xq_m3d
variable {d : Nat} {g : xq_V} {J : Nat → Nat → Int64} {I : Nat → Nat → Int32} {Q : Option Value → xq_S → Prop} {A W P F N : xw} {n ns : Nat}
/-- one step of the pile: what it is, how high the pile is behind it -/
theorem sp_hs1 {W : xw} {c i t h' : Nat} (h : sp_hs W (c + 1) i t = some h') : ∃ s, s < 23 ∧ W (1140 + 2 * i) = nI s ∧ ((s < 9 ∧ t < 30 ∧ sp_hs W c (i + 1) (t + 1) = some h') ∨ (s = 16 ∧ 1 ≤ t ∧ (¬ W (1140 + 2 * i + 1) = nI 0) ∧ sp_hs W c (i + 1) t = some h') ∨ (s = 20 ∧ 1 ≤ t ∧ sp_hs W c (i + 1) t = some h') ∨ (13 ≤ s ∧ s ≠ 16 ∧ s ≠ 20 ∧ 2 ≤ t ∧ sp_hs W c (i + 1) (t - 1) = some h')) := by
  simp only [sp_hs] at h
  split at h
  · cases h
  rename_i q0
  rcases pk_ix (W (1140 + 2 * i)) (n := 23) (by omega) with q | q | ⟨s, hs, es⟩
  · exact absurd q q0
  · exfalso
    have a9 : ¬ W (1140 + 2 * i) < nI 9 := fun z => Int32.not_lt.mpr (Int32.le_trans (by decide) q) z
    have a13 : ¬ W (1140 + 2 * i) < nI 13 := fun z => Int32.not_lt.mpr (Int32.le_trans (by decide) q) z
    have a16 : ¬ W (1140 + 2 * i) = nI 16 := fun z => by rw [z] at q; exact absurd q (by decide)
    have a20 : ¬ W (1140 + 2 * i) = nI 20 := fun z => by rw [z] at q; exact absurd q (by decide)
    have a23 : ¬ W (1140 + 2 * i) < nI 23 := fun z => Int32.not_lt.mpr q z
    rw [if_neg a9, if_neg a13, if_neg a16, if_neg a20, if_neg a23] at h
    cases h
  · refine ⟨s, hs, es, ?_⟩
    rw [es] at h
    simp only [xn_lt (show s < 2147483648 by omega) (show 9 < 2147483648 by omega), xn_lt (show s < 2147483648 by omega) (show 13 < 2147483648 by omega), xn_lt (show s < 2147483648 by omega) (show 23 < 2147483648 by omega), xn_eq (show s < 2147483648 by omega) (show 16 < 2147483648 by omega), xn_eq (show s < 2147483648 by omega) (show 20 < 2147483648 by omega)] at h
    by_cases h9 : s < 9
    · rw [if_pos h9] at h
      split at h
      · rename_i z
        exact Or.inl ⟨h9, z, h⟩
      · cases h
    rw [if_neg h9] at h
    by_cases h13 : s < 13
    · rw [if_pos h13] at h; cases h
    rw [if_neg h13] at h
    by_cases h16 : s = 16
    · rw [if_pos h16] at h
      split at h
      · rename_i z
        exact Or.inr (Or.inl ⟨h16, z.1, z.2, h⟩)
      · cases h
    rw [if_neg h16] at h
    by_cases h20 : s = 20
    · rw [if_pos h20] at h
      split at h
      · rename_i z
        exact Or.inr (Or.inr (Or.inl ⟨h20, z, h⟩))
      · cases h
    rw [if_neg h20, if_pos hs] at h
    split at h
    · rename_i z
      exact Or.inr (Or.inr (Or.inr ⟨by omega, h16, h20, z, h⟩))
    · cases h
theorem sp_ev1 {W F : xw} {c i t s : Nat} {P : xw} (hs : s < 23) (es : W (1140 + 2 * i) = nI s) : sp_ev W F (c + 1) i P t = if s < 13 then sp_ev W F c (i + 1) (upd P t (if s = 0 then W (1140 + 2 * i + 1) else F s)) (t + 1) else if s = 16 then sp_ev W F c (i + 1) (upd P (t - 1) (P (t - 1) / W (1140 + 2 * i + 1))) t else if s = 20 then sp_ev W F c (i + 1) (upd P (t - 1) (nI 1 - P (t - 1))) t else sp_ev W F c (i + 1) (upd P (t - 1 - 1) (sp_both (nI s) (P (t - 1 - 1)) (P (t - 1)))) (t - 1) := by
  have ei : sp_ix W (1140 + 2 * i) = s := xk_ix es (by omega)
  simp only [sp_ev, ei]
  rw [es]
  simp only [xn_lt (show s < 2147483648 by omega) (show 13 < 2147483648 by omega), xn_eq (show s < 2147483648 by omega) (show 16 < 2147483648 by omega), xn_eq (show s < 2147483648 by omega) (show 20 < 2147483648 by omega), xn_eq (show s < 2147483648 by omega) (show 0 < 2147483648 by omega)]
theorem xl_231_5 {a b : Nat} (hb : b ≤ 405) : ∀ (c i : Nat) (P : xw) (t h' : Nat) (sl vl : Value), i + c = b → sp_hs W c i t = some h' → t ≤ 40 → Q (some (.int (sp_ev W F c i P t 0))) (xq_s g J (xm I A W (sp_ev W F c i P t) F N)) → xq_wp (d + 1) 231 (xq_s g J (xm I A W P F N)) 5 [.ref 126, .int (nI a), .int (nI b), .int (nI t), .int (nI i), sl, vl] [] Q := by
  intro c
  induction c with
  | zero => exact fun i P t h' sl vl e _ _ hp => xu_231 ⟨by omega, by omega, fun q => by omega, fun _ => hp⟩
  | succ c ih =>
    intro i P t h' sl vl e hh ht hp
    obtain ⟨s, hs, es, cs⟩ := sp_hs1 hh
    rw [sp_ev1 hs es] at hp
    refine xu_231 ⟨by omega, by omega, fun _ => ⟨by omega, s, es, by omega, by omega, fun h13 => ?_, fun h13 => ?_⟩, fun q => by omega⟩
    · rw [if_pos h13] at hp
      have c1 : s < 9 ∧ t < 30 ∧ sp_hs W c (i + 1) (t + 1) = some h' := by
        rcases cs with q | q | q | q
        · exact q
        all_goals omega
      refine ⟨fun h0 => ⟨by omega, ?_⟩, fun h0 => ⟨by omega, by omega, ?_⟩⟩
      · rw [if_pos h0] at hp
        exact ih _ _ _ h' _ _ (by omega) c1.2.2 (by omega) hp
      · rw [if_neg h0] at hp
        exact ih _ _ _ h' _ _ (by omega) c1.2.2 (by omega) hp
    · rw [if_neg h13] at hp
      refine ⟨fun h16 => ?_, fun h16 => ⟨fun h20 => ?_, fun h20 => ?_⟩⟩
      · rw [if_pos h16] at hp
        rcases cs with q | q | q | q
        · omega
        · exact ⟨by omega, by omega, q.2.2.1, ih _ _ _ h' _ _ (by omega) q.2.2.2 (by omega) hp⟩
        · omega
        · omega
      · rw [if_neg h16, if_pos h20] at hp
        rcases cs with q | q | q | q
        · omega
        · omega
        · exact ⟨by omega, by omega, by omega, ih _ _ _ h' _ _ (by omega) q.2.2 (by omega) hp⟩
        · omega
      · rw [if_neg h16, if_neg h20] at hp
        rcases cs with q | q | q | q
        · omega
        · omega
        · omega
        · exact ⟨by omega, by omega, by omega, by omega, by omega, ih _ _ _ h' _ _ (by omega) q.2.2.2.2 (by omega) hp⟩
/-- what stands below does not count -/
theorem sp_ev_cg {W F F' : xw} (hF : ∀ j, 1 ≤ j → j < 9 → F j = F' j) : ∀ (c i t h' : Nat) (P P' : xw), sp_hs W c i t = some h' → (∀ j, j < t → P j = P' j) → ∀ j, j < h' → sp_ev W F c i P t j = sp_ev W F' c i P' t j := by
  intro c
  induction c with
  | zero => intro i t h' P P' hh hP j hj; simp only [sp_hs, Option.some.injEq] at hh; exact hP j (by omega)
  | succ c ih =>
    intro i t h' P P' hh hP j hj
    obtain ⟨s, hs, es, cs⟩ := sp_hs1 hh
    rw [sp_ev1 hs es, sp_ev1 hs es]
    rcases cs with ⟨h9, ht, q⟩ | ⟨h16, ht, h0, q⟩ | ⟨h20, ht, q⟩ | ⟨h13, h16, h20, ht, q⟩
    · rw [if_pos (show s < 13 by omega), if_pos (show s < 13 by omega)]
      refine ih _ _ _ _ _ q (fun k hk => ?_) j hj
      by_cases e : k = t
      · subst e
        rw [upd_eq, upd_eq]
        split
        · rfl
        · exact hF s (by omega) h9
      · rw [upd_ne e, upd_ne e]; exact hP k (by omega)
    · rw [if_neg (by omega), if_pos h16, if_neg (by omega), if_pos h16, hP (t - 1) (by omega)]
      refine ih _ _ _ _ _ q (fun k hk => ?_) j hj
      by_cases e : k = t - 1
      · subst e; rw [upd_eq, upd_eq]
      · rw [upd_ne e, upd_ne e]; exact hP k (by omega)
    · rw [if_neg (by omega), if_neg (by omega), if_pos h20, if_neg (by omega), if_neg (by omega), if_pos h20, hP (t - 1) (by omega)]
      refine ih _ _ _ _ _ q (fun k hk => ?_) j hj
      by_cases e : k = t - 1
      · subst e; rw [upd_eq, upd_eq]
      · rw [upd_ne e, upd_ne e]; exact hP k (by omega)
    · rw [if_neg (by omega), if_neg h16, if_neg h20, if_neg (by omega), if_neg h16, if_neg h20, hP (t - 1) (by omega), hP (t - 1 - 1) (by omega)]
      refine ih _ _ _ _ _ q (fun k hk => ?_) j hj
      by_cases e : k = t - 1 - 1
      · subst e; rw [upd_eq, upd_eq]
      · rw [upd_ne e, upd_ne e]; exact hP k (by omega)
theorem xl_231 {a b : Nat} (hab : a ≤ b) (hb : b ≤ 405) (hh : sp_hs W (b - a) a 0 = some 1) (hp : ∀ P' : xw, Q (some (.int (sp_to W F a b))) (xq_s g J (xm I A W P' F N))) : xq_wp (d + 1) 231 (xq_s g J (xm I A W P F N)) 0 [.ref 126, .int (nI a), .int (nI b), xq_un, xq_un, xq_un, xq_un] [] Q := by
  refine xq_wp.go (k := 4) (x' := xq_s g J (xm I A W P F N)) (L' := [.ref 126, .int (nI a), .int (nI b), .int (nI 0), .int (nI a), xq_un, xq_un]) (fun F => rfl) (xl_231_5 hb (b - a) a P 0 1 _ _ (by omega) hh (by omega) ?_)
  rw [sp_ev_cg (fun j _ _ => rfl) (b - a) a 0 1 P (fun _ => nI 0) hh (fun j hj => by omega) 0 (by omega)]
  exact hp _
end xq_m3d
