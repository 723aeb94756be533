/-! the model's small methods -/
section xq_m2
variable {d : Nat} {g : xq_V} {J : Nat → Nat → Int64} {I : Nat → Nat → Int32} {Q : Option Value → xq_S → Prop} {A W P F N : xw} {n ns : Nat}
theorem xk_ix {W : xw} {p k : Nat} (h : W p = nI k) (hk : k < 2147483648) : sp_ix W p = k := by rw [sp_ix, h, nI_clamp (by omega)]
theorem xl_220 {b e k : Int32} (h : okb W) (hp : Q none (xq_s g J (xm I A (sp_wr W b e k) P F N))) : xq_wp d 220 (xq_s g J (xm I A W P F N)) 0 [.ref 126, .int b, .int e, .int k, xq_un] [] Q := by
  obtain ⟨l, hl, el⟩ := h
  unfold sp_wr at hp
  refine xu_220 (l := l) ⟨fun q => ?_, fun q => ?_⟩
  · rw [if_pos q] at hp
    exact hp
  · have hl2 : l < 200 := by
      rcases Nat.lt_or_ge l 200 with z | z
      · exact z
      · exact absurd (by rw [el, show l = 200 by omega]) q
    refine ⟨el, by omega, by omega, by omega, by omega, ?_, ?_⟩
    · rw [upd_ne (by omega), upd_ne (by omega), upd_ne (by omega), upd_ne (by omega)]
      exact el
    · rw [if_neg q, xk_ix el (by omega), el, nI_add] at hp
      exact hp
theorem xl_228 {b e : Nat} (hb : b < 14) (he : e < 5) (hp : Q none (xq_s g J (xm I A (sp_wt W b e) P F N))) : xq_wp (d + 1) 228 (xq_s g J (xm I A W P F N)) 0 [.ref 126, .int (nI b), .int (nI e)] [] Q :=
  xu_228 ⟨by omega, hp⟩
theorem xl_223 {b : Nat} {k : Int32} (hb : b < 14) (h : okb W) (hp : Q none (xq_s g J (xm I A (sp_on W b k) P F N))) : xq_wp (d + 2) 223 (xq_s g J (xm I A W P F N)) 0 [.ref 126, .int (nI b), .int k, xq_un] [] Q := by
  unfold sp_on at hp
  have hw : okb (upd (upd (upd W (50 + 14 * b + 4) (nI 3)) (50 + 14 * b + 5) (nI 0)) (50 + 14 * b + 6) (nI 0)) := okb_fr h (by rw [upd_ne (by omega), upd_ne (by omega), upd_ne (by omega)])
  refine xu_223 ⟨fun q => ⟨by omega, by omega, by omega, ?_⟩, fun q => ⟨fun q2 => ⟨by omega, by omega, by omega, ?_⟩, fun q2 => ⟨by omega, by omega, by omega, ?_⟩⟩⟩
  · rw [if_pos (Or.inl q)] at hp
    exact xl_220 hw (xq_wp.ret (k := 1) (fun F => rfl) hp)
  · rw [if_pos (Or.inr q2)] at hp
    exact xl_220 hw (xq_wp.ret (k := 1) (fun F => rfl) hp)
  · rw [if_neg (fun z => z.elim q q2)] at hp
    exact hp
theorem okb_wr {b e k : Int32} (h : okb W) : okb (sp_wr W b e k) := by
  unfold sp_wr
  split
  · exact h
  · rename_i q
    obtain ⟨l, hl, el⟩ := h
    refine ⟨l + 1, ?_, by rw [upd_eq, el, nI_add]⟩
    rcases Nat.lt_or_ge l 200 with z | z
    · omega
    · exact absurd (by rw [el, show l = 200 by omega]) q
theorem xl_233 {b : Nat} (hb : b < 14) (h : okb W) (hp : Q none (xq_s g J (xm I A (sp_over W b) P F N))) : xq_wp (d + 3) 233 (xq_s g J (xm I A W P F N)) 0 [.ref 126, .int (nI b), xq_un] [] Q := by
  refine xu_233 ⟨by omega, xl_220 h ?_⟩
  refine xq_wp.go (k := 5) (x' := xq_s g J (xm I A (sp_wr W (nI b) (nI 1) (W (50 + 14 * b + 5))) P F N)) (pc' := 19) (L' := [.ref 126, .int (nI b), .int (W (50 + 14 * b + 5))]) (st' := [.int (W (50 + 14 * b + 5) + nI 1), .int (nI b), .ref 126]) (fun F => rfl) ?_
  exact xq_wp.call rfl rfl rfl rfl (xl_223 hb (okb_wr h) (xq_wp.ret (k := 1) (fun F => rfl) hp))
theorem xl_218 {wet : Bool} (hp : Q none (xq_s g J (xm I A (sp_herds W wet) P F N))) : xq_wp (d + 1) 218 (xq_s g J (xm I A W P F N)) 0 [.ref 126, .int (sp_b2 wet), xq_un, xq_un] [] Q := by
  cases wet
  · exact xu_218 ⟨fun _ => hp, fun z => absurd rfl z⟩
  · exact xu_218 ⟨fun z => absurd z (by decide), fun _ => hp⟩
theorem xl_215 (hp : ∀ (dv : Int32) (Wd : xw), dv = sp_drv W → Wd = sp_draw W → Q (some (.int dv)) (xq_s g J (xm I A Wd P F N))) : xq_wp d 215 (xq_s g J (xm I A W P F N)) 0 [.ref 126, .int (nI 1000)] [] Q :=
  xu_215 ⟨by decide, hp _ _ rfl rfl⟩
end xq_m2
