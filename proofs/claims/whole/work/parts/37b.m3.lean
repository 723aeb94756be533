/-! the model: sums over the blocks, both -/
section xq_m3b
variable {d : Nat} {g : xq_V} {J : Nat → Nat → Int64} {I : Nat → Nat → Int32} {Q : Option Value → xq_S → Prop} {A W P F N : xw} {n ns : Nat}
theorem xl_232 {s a b : Int32} (hp : Q (some (.int (sp_both s a b))) (xq_s g J (xm I A W P F N))) : xq_wp d 232 (xq_s g J (xm I A W P F N)) 0 [.int s, .int a, .int b] [] Q := by
  unfold sp_both at hp
  refine xu_232 ⟨fun h => ?_, fun h => ?_, fun h => ?_, fun h => ?_, fun h => ⟨fun q => ?_, fun q => ?_⟩, fun h => ⟨fun q => ?_, fun q => ?_⟩, fun h => ⟨fun q => ?_, fun q => ?_⟩, fun h => ?_, fun h => ?_, fun h => ?_⟩
  · subst h; exact hp
  · subst h; exact hp
  · subst h; exact hp
  · subst h; exact hp
  · subst h; simp only [if_pos q] at hp; exact hp
  · subst h; simp only [if_neg q] at hp; exact hp
  · subst h; simp only [if_pos q] at hp; exact hp
  · subst h; simp only [if_neg q] at hp; exact hp
  · subst h; simp only [if_pos q] at hp; exact hp
  · subst h; simp only [if_neg q] at hp; exact hp
  · subst h; exact hp
  · subst h; exact hp
  · rw [if_neg (show ¬ s = nI 13 from h 0 (by decide)), if_neg (show ¬ s = nI 14 from h 1 (by decide)), if_neg (show ¬ s = nI 15 from h 2 (by decide)), if_neg (show ¬ s = nI 17 from h 4 (by decide)), if_neg (show ¬ s = nI 18 from h 5 (by decide)), if_neg (show ¬ s = nI 19 from h 6 (by decide)), if_neg (show ¬ s = nI 21 from h 8 (by decide))] at hp
    exact hp
theorem xl_237_4 (h0 : W 0 = nI n) (hn : n ≤ 14) : ∀ (c b : Nat) (v : Int32), b + c = n → Q (some (.int (sp_lset W c b v))) (xq_s g J (xm I A W P F N)) → xq_wp (d + 1) 237 (xq_s g J (xm I A W P F N)) 4 [.ref 126, .int v, .int (nI b)] [] Q := by
  intro c
  induction c with
  | zero => exact fun b v e hp => xu_237 (n := n) ⟨h0, by omega, by omega, fun q => by omega, fun _ => hp⟩
  | succ c ih =>
    intro b v e hp
    refine xu_237 (n := n) ⟨h0, by omega, by omega, fun q => ⟨by omega, fun q => ?_, fun q => ?_⟩, fun q => by omega⟩
    · exact ih (b + 1) _ (by omega) (by simp only [sp_lset, if_pos q] at hp; exact hp)
    · exact ih (b + 1) _ (by omega) (by simp only [sp_lset, if_neg q] at hp; exact hp)
theorem xl_237 (h0 : W 0 = nI n) (hn : n ≤ 14) (hp : Q (some (.int (sp_lset W n 0 (nI 0)))) (xq_s g J (xm I A W P F N))) : xq_wp (d + 1) 237 (xq_s g J (xm I A W P F N)) 0 [.ref 126, xq_un, xq_un] [] Q :=
  xq_wp.go (k := 4) (x' := xq_s g J (xm I A W P F N)) (fun F => rfl) (xl_237_4 h0 hn n 0 (nI 0) (by omega) hp)
theorem xl_239_4 (h0 : W 0 = nI n) (hn : n ≤ 14) : ∀ (c b : Nat) (v : Int32), b + c = n → Q (some (.int (sp_lmany W c b v))) (xq_s g J (xm I A W P F N)) → xq_wp (d + 1) 239 (xq_s g J (xm I A W P F N)) 4 [.ref 126, .int v, .int (nI b)] [] Q := by
  intro c
  induction c with
  | zero => exact fun b v e hp => xu_239 (n := n) ⟨h0, by omega, by omega, fun q => by omega, fun _ => hp⟩
  | succ c ih =>
    intro b v e hp
    refine xu_239 (n := n) ⟨h0, by omega, by omega, fun q => ⟨by omega, fun q => ?_, fun q => ?_⟩, fun q => by omega⟩
    · exact ih (b + 1) _ (by omega) (by simp only [sp_lmany, if_pos q] at hp; exact hp)
    · exact ih (b + 1) _ (by omega) (by simp only [sp_lmany, if_neg q] at hp; exact hp)
theorem xl_239 (h0 : W 0 = nI n) (hn : n ≤ 14) (hp : Q (some (.int (sp_lmany W n 0 (nI 0)))) (xq_s g J (xm I A W P F N))) : xq_wp (d + 1) 239 (xq_s g J (xm I A W P F N)) 0 [.ref 126, xq_un, xq_un] [] Q :=
  xq_wp.go (k := 4) (x' := xq_s g J (xm I A W P F N)) (fun F => rfl) (xl_239_4 h0 hn n 0 (nI 0) (by omega) hp)
theorem xl_238_4 (h0 : W 0 = nI n) (hn : n ≤ 14) : ∀ (c b : Nat) (v : Int32), b + c = n → Q (some (.int (sp_lean W c b v))) (xq_s g J (xm I A W P F N)) → xq_wp (d + 1) 238 (xq_s g J (xm I A W P F N)) 4 [.ref 126, .int v, .int (nI b)] [] Q := by
  intro c
  induction c with
  | zero => exact fun b v e hp => xu_238 (n := n) ⟨h0, by omega, by omega, fun q => by omega, fun _ => hp⟩
  | succ c ih =>
    intro b v e hp
    refine xu_238 (n := n) ⟨h0, by omega, by omega, fun q => ⟨by omega, fun q => ⟨by omega, fun q2 => ⟨by omega, ?_⟩, fun q2 => ⟨by omega, ?_⟩⟩, fun q => ?_⟩, fun q => by omega⟩
    · exact ih (b + 1) _ (by omega) (by simp only [sp_lean, sp_wei, if_pos q, if_pos q2] at hp; exact hp)
    · exact ih (b + 1) _ (by omega) (by simp only [sp_lean, sp_wei, if_pos q, if_neg q2] at hp; exact hp)
    · exact ih (b + 1) _ (by omega) (by simp only [sp_lean, sp_wei, if_neg q] at hp; exact hp)
theorem xl_238 (h0 : W 0 = nI n) (hn : n ≤ 14) (hp : Q (some (.int (sp_lean W n 0 (nI 0)))) (xq_s g J (xm I A W P F N))) : xq_wp (d + 1) 238 (xq_s g J (xm I A W P F N)) 0 [.ref 126, xq_un, xq_un] [] Q :=
  xq_wp.go (k := 4) (x' := xq_s g J (xm I A W P F N)) (fun F => rfl) (xl_238_4 h0 hn n 0 (nI 0) (by omega) hp)
end xq_m3b
