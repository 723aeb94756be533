/-! the model's thoughts: what each of them answers -/
def th_0 (W : xw) : xw := upd W 6 (nI 200)
abbrev th_in (wk v : Int32) : Prop := ¬ v < nI 0 ∧ ¬ wk < v
def th_sl (n b : Nat) (wk : Int32) (W : xw) : Nat → Nat
  | 0 => 0
  | k + 1 => if th_in wk (th_close n (nI b) (k + 1) W) then k + 1 else th_sl n b wk W k
def th_sp (n : Nat) (wk : Int32) (W : xw) : Nat → Nat → Int32 → Int32
  | 0, _, s => s
  | c + 1, b, s => th_sp n wk W c (b + 1) (if W (50 + 14 * b + 4) = nI 0 ∨ W (50 + 14 * b + 4) = nI 4 then s else s ||| (if th_in wk (th_close n (Int32.ofInt (-1)) 0 (upd (th_0 W) (50 + 14 * b + 4) (nI 0))) then nI 1 <<< (nI b &&& 31) else nI 0))
def th_fw (n : Nat) (wk : Int32) (W : xw) : Nat → Nat → Int32
  | 0, _ => Int32.ofInt (-1)
  | c + 1, k => if th_in wk (th_close n (Int32.ofInt (-1)) 0 (upd (th_0 W) 10 (nI k))) then nI k else th_fw n wk W c (k + 1)
def th_wks (n : Nat) : Nat → xw → xw
  | 0, W => W
  | k + 1, W => th_wks n k (sp_week false (Int32.ofInt (-1)) n W).1
def th_hp (n : Nat) (W : xw) : Nat → Nat → Int32 → Int32 → Int32 × Int32
  | 0, _, wk, wh => (wk, wh)
  | c + 1, k, wk, wh => if k = 1 ∨ W (10 + k) = xq_most (nI k) then th_hp n W c (k + 1) wk wh
      else if th_close n (Int32.ofInt (-1)) 0 (upd (th_0 W) (10 + k) (W (10 + k) + nI 1)) = Int32.ofInt (-1) ∨ (¬ wk = Int32.ofInt (-1) ∧ ¬ th_close n (Int32.ofInt (-1)) 0 (upd (th_0 W) (10 + k) (W (10 + k) + nI 1)) < wk) then th_hp n W c (k + 1) wk wh
      else th_hp n W c (k + 1) (th_close n (Int32.ofInt (-1)) 0 (upd (th_0 W) (10 + k) (W (10 + k) + nI 1))) (nI k)
section xk_thm
variable {d : Nat} {g : xq_V} {J : Nat → Nat → Int64} {I : Nat → Nat → Int32} {Q : Option Value → xq_S → Prop} {n ns : Nat} {A W P F N Y X B : xw}
theorem ok_0 (h : ok n ns W) : ok n ns (th_0 W) := by
  obtain ⟨g1, g2, g3, g4, g5, g6, g7, g8, g9, g10, g11⟩ := h
  have n14 := g1.2.1
  have ns8 := g1.2.2.2
  unfold th_0
  refine ⟨ok1_fr g1 ?_ ?_, ⟨200, by omega, upd_eq⟩, ok2_fr g3 ?_, ok3_fr g4 ?_, ok4_fr g5 ?_, ok5_fr g6 ?_, ok6_fr g7 ?_, ok7_fr g8 ?_, ok8_fr g9 ?_, ok9_fr g10 ?_, sp_law_fr g11 ?_⟩
  all_goals (try intros)
  all_goals (try constructor)
  all_goals
    apply upd_ne
    omega
theorem thw_up {p : Nat} {v : Int32} (h : thw W) (hp : ¬ p = 2) : thw (upd W p v) := by
  obtain ⟨k, hk, ek⟩ := h
  exact ⟨k, hk, by rw [upd_ne (fun z => hp z.symm)]; exact ek⟩
theorem thw_0 (h : thw W) : thw (th_0 W) := thw_up h (by omega)
theorem ok_open {v k : Nat} (h : ok n ns W) (hv : v < 4) (hk : k < 2) : ok n ns (upd W (24 + v) (nI k)) := by
  obtain ⟨g1, g2, g3, g4, g5, g6, g7, g8, g9, g10, g11⟩ := h
  have n14 := g1.2.1
  have ns8 := g1.2.2.2
  refine ⟨ok1_fr g1 ?_ ?_, okb_fr g2 ?_, ok2_fr g3 ?_, ok3_fr g4 ?_, ok4_fr g5 ?_, ok5_fr g6 ?_, ok6_fr g7 ?_, fun i hi => ?_, ok8_fr g9 ?_, ok9_fr g10 ?_, sp_law_fr g11 ?_⟩
  rotate_left 8
  · by_cases e : i = v
    · subst e
      rw [upd_eq]
      rcases Nat.lt_or_ge k 1 with y | y
      · left; rw [show k = 0 by omega]
      · right; rw [show k = 1 by omega]
    · rw [upd_ne (by omega)]; exact g8 i hi
  all_goals (try intros)
  all_goals (try constructor)
  all_goals
    apply upd_ne
    omega
/-- closes -/
theorem xl_250 (ho : ok n ns W) (h29 : A 29 = Int32.ofInt (-1)) (hw : thw W) (hp : ∀ (v' : Int32) (P' F' N' Y' : xw), Q (some (.int (th_close n (Int32.ofInt (-1)) 0 (th_0 W)))) (xq_s g J (xt I (upd A 30 v') W P' F' N' Y' X B))) : xq_wp (d + 9) 250 (xq_s g J (xt I A W P F N Y X B)) 0 [.ref 126] [] Q :=
  xu_250 (fun Y' hY => ⟨ok_0 ho, h29, upd_eq, thw_0 hw, by omega, fun v' P' F' N' W' hW' => ⟨hY, fun p hp' => by rw [hW' p hp', upd_ne (by omega)], hp v' P' F' N' Y'⟩⟩)
/-- slack -/
theorem xl_257_34 {b : Nat} {wk : Int32} (ho : ok n ns W) (hw : thw W) (h0 : th_in wk (th_close n (nI b) 0 (th_0 W))) : ∀ (k : Nat) (A P F N Y : xw), k ≤ 60 → A 29 = Int32.ofInt (-1) → (∀ (v' : Int32) (P' F' N' Y' : xw), Q (some (.int (nI (th_sl n b wk (th_0 W) k)))) (xq_s g J (xt I (upd A 30 v') W P' F' N' Y' X B))) → xq_wp (d + 9) 257 (xq_s g J (xt I A W P F N Y X B)) 34 [.ref 126, .int (nI b), .int wk, .int (nI k)] [] Q := by
  intro k
  induction k with
  | zero =>
    intro A P F N Y hk h29 hp
    exact xu_257_34 (fun Y' hY => ⟨ok_0 ho, h29, upd_eq, thw_0 hw, by omega, fun v' P' F' N' W' hW' => ⟨hY, fun p hp' => by rw [hW' p hp', upd_ne (by omega)], fun z => absurd z h0.1, fun z => ⟨fun z2 => absurd z2 h0.2, fun z2 => hp v' P' F' N' Y'⟩⟩⟩)
  | succ k ih =>
    intro A P F N Y hk h29 hp
    refine xu_257_34 (fun Y' hY => ⟨ok_0 ho, h29, upd_eq, thw_0 hw, by omega, fun v' P' F' N' W' hW' => ⟨hY, fun p hp' => by rw [hW' p hp', upd_ne (by omega)], fun z => ⟨by omega, ?_⟩, fun z => ⟨fun z2 => ⟨by omega, ?_⟩, fun z2 => ?_⟩⟩⟩)
    · simp only [th_sl, if_neg (show ¬ th_in wk (th_close n (nI b) (k + 1) (th_0 W)) from fun y => y.1 z)] at hp
      exact ih _ _ _ _ _ (by omega) (by rw [upd_ne (by omega)]; exact h29) (fun v1 P1 F1 N1 Y1 => by rw [upd_upd]; exact hp v1 P1 F1 N1 Y1)
    · simp only [th_sl, if_neg (show ¬ th_in wk (th_close n (nI b) (k + 1) (th_0 W)) from fun y => y.2 z2)] at hp
      exact ih _ _ _ _ _ (by omega) (by rw [upd_ne (by omega)]; exact h29) (fun v1 P1 F1 N1 Y1 => by rw [upd_upd]; exact hp v1 P1 F1 N1 Y1)
    · simp only [th_sl, if_pos (show th_in wk (th_close n (nI b) (k + 1) (th_0 W)) from ⟨z, z2⟩)] at hp
      exact hp v' P' F' N' Y'
theorem th_in0 {b : Nat} (ho : ok n ns W) (hw : thw W) (h : ¬ th_close n (Int32.ofInt (-1)) 0 W = Int32.ofInt (-1)) : th_in (th_close n (Int32.ofInt (-1)) 0 W) (th_close n (nI b) 0 W) := by
  rw [th_close0 (blk := nI b)]
  rcases th_close_val (blk := Int32.ofInt (-1)) (idle := 0) ho hw with y | ⟨j, hj, e⟩
  · exact absurd y h
  · rw [e]
    refine ⟨?_, ?_⟩
    · rw [xn_lt (by omega) (by omega)]; omega
    · rw [xn_lt (by omega) (by omega)]; omega
def th_slack (n b : Nat) (W : xw) : Int32 := if W (50 + 14 * b + 4) = nI 0 ∧ ¬ th_close n (Int32.ofInt (-1)) 0 (th_0 W) = Int32.ofInt (-1) then nI (th_sl n b (th_close n (Int32.ofInt (-1)) 0 (th_0 W)) (th_0 W) 60) else Int32.ofInt (-1)
theorem xl_257 {b : Nat} {u2 u3 : Value} (ho : ok n ns W) (h29 : A 29 = Int32.ofInt (-1)) (hw : thw W) (hb : b < n) (hp : ∀ (v' : Int32) (P' F' N' Y' : xw), Q (some (.int (th_slack n b W))) (xq_s g J (xt I (upd A 30 v') W P' F' N' Y' X B))) : xq_wp (d + 10) 257 (xq_s g J (xt I A W P F N Y X B)) 8 [.ref 126, .int (nI b), u2, u3] [] Q := by
  have n14 := ho.1.2.1
  unfold th_slack at hp
  refine xu_257 (n := n) (ns := ns) ⟨by omega, fun z => fun Y' hY => ⟨ok_0 ho, h29, upd_eq, thw_0 hw, by omega, fun v' P' F' N' W' hW' => ⟨hY, fun p hp' => by rw [hW' p hp', upd_ne (by omega)], fun z2 => ?_, fun z2 => ?_⟩⟩, fun z => ?_⟩
  · rw [if_neg (fun y => y.2 z2)] at hp
    exact hp v' P' F' N' Y'
  · rw [if_pos ⟨z, z2⟩] at hp
    exact xl_257_34 ho hw (th_in0 (ok_0 ho) (thw_0 hw) z2) 60 _ _ _ _ _ (by omega) (by rw [upd_ne (by omega)]; exact h29) (fun v1 P1 F1 N1 Y1 => by rw [upd_upd]; exact hp v1 P1 F1 N1 Y1)
  · rw [if_neg (fun y => z y.1)] at hp
    have := hp (A 30) P F N Y
    rw [upd_self] at this
    exact this
/-- spare -/
theorem xl_258_16 {wk : Int32} (ho : ok n ns W) (hw : thw W) : ∀ (c b : Nat) (s : Int32) (A P F N Y : xw) (u4 : Value), A 29 = Int32.ofInt (-1) → b + c = n → (∀ (v' : Int32) (P' F' N' Y' : xw), Q (some (.int (th_sp n wk W c b s))) (xq_s g J (xt I (upd A 30 v') W P' F' N' Y' X B))) → xq_wp (d + 8) 258 (xq_s g J (xt I A W P F N Y X B)) 16 [.ref 126, .int wk, .int s, .int (nI b), u4] [] Q := by
  have n14 := ho.1.2.1
  intro c
  induction c with
  | zero =>
    intro b s A P F N Y u4 h29 e hp
    refine xu_258_16 (n := n) (ns := ns) ⟨(ok_n ho).1, by omega, by omega, fun z => by omega, fun _ => ?_⟩
    have := hp (A 30) P F N Y
    rw [upd_self] at this
    exact this
  | succ c ih =>
    intro b s A P F N Y u4 h29 e hp
    have hb : b < n := by omega
    refine xu_258_16 (n := n) (ns := ns) ⟨(ok_n ho).1, by omega, by omega, fun _ => ⟨by omega, fun z => ?_, fun z => ⟨fun z2 => ?_, fun z2 => fun Y' hY => ⟨ok_wh (w := 0) (ok_0 ho) hb (by omega) (by omega), h29, by rw [upd_ne (by omega), upd_eq], thw_up (thw_0 hw) (by omega), by omega, fun v' P' F' N' W' hW' => ⟨hY, fun p hp' => by rw [hW' p hp', upd_ne (by omega), upd_ne (by omega)], fun q => ?_, fun q => ⟨fun q2 => ?_, fun q2 => ?_⟩⟩⟩⟩⟩, fun z => by omega⟩
    · simp only [th_sp, if_pos (Or.inl z : W (50 + 14 * b + 4) = nI 0 ∨ W (50 + 14 * b + 4) = nI 4)] at hp
      exact ih (b + 1) s A P F N Y u4 h29 (by omega) hp
    · simp only [th_sp, if_pos (Or.inr z2 : W (50 + 14 * b + 4) = nI 0 ∨ W (50 + 14 * b + 4) = nI 4)] at hp
      exact ih (b + 1) s A P F N Y u4 h29 (by omega) hp
    · simp only [th_sp, if_neg (show ¬ (W (50 + 14 * b + 4) = nI 0 ∨ W (50 + 14 * b + 4) = nI 4) from fun y => y.elim z z2), if_neg (show ¬ th_in wk (th_close n (Int32.ofInt (-1)) 0 (upd (th_0 W) (50 + 14 * b + 4) (nI 0))) from fun y => y.1 q)] at hp
      exact ih (b + 1) _ _ _ _ _ _ _ (by rw [upd_ne (by omega)]; exact h29) (by omega) (fun v1 P1 F1 N1 Y1 => by rw [upd_upd]; exact hp v1 P1 F1 N1 Y1)
    · simp only [th_sp, if_neg (show ¬ (W (50 + 14 * b + 4) = nI 0 ∨ W (50 + 14 * b + 4) = nI 4) from fun y => y.elim z z2), if_neg (show ¬ th_in wk (th_close n (Int32.ofInt (-1)) 0 (upd (th_0 W) (50 + 14 * b + 4) (nI 0))) from fun y => y.2 q2)] at hp
      exact ih (b + 1) _ _ _ _ _ _ _ (by rw [upd_ne (by omega)]; exact h29) (by omega) (fun v1 P1 F1 N1 Y1 => by rw [upd_upd]; exact hp v1 P1 F1 N1 Y1)
    · simp only [th_sp, if_neg (show ¬ (W (50 + 14 * b + 4) = nI 0 ∨ W (50 + 14 * b + 4) = nI 4) from fun y => y.elim z z2), if_pos (show th_in wk (th_close n (Int32.ofInt (-1)) 0 (upd (th_0 W) (50 + 14 * b + 4) (nI 0))) from ⟨q, q2⟩)] at hp
      exact ih (b + 1) _ _ _ _ _ _ _ (by rw [upd_ne (by omega)]; exact h29) (by omega) (fun v1 P1 F1 N1 Y1 => by rw [upd_upd]; exact hp v1 P1 F1 N1 Y1)
def th_spare (n : Nat) (W : xw) : Int32 := if th_close n (Int32.ofInt (-1)) 0 (th_0 W) = Int32.ofInt (-1) then Int32.ofInt (-1) else th_sp n (th_close n (Int32.ofInt (-1)) 0 (th_0 W)) W n 0 (nI 0)
theorem xl_258 (ho : ok n ns W) (h29 : A 29 = Int32.ofInt (-1)) (hw : thw W) (hp : ∀ (v' : Int32) (P' F' N' Y' : xw), Q (some (.int (th_spare n W))) (xq_s g J (xt I (upd A 30 v') W P' F' N' Y' X B))) : xq_wp (d + 10) 258 (xq_s g J (xt I A W P F N Y X B)) 0 [.ref 126, xq_un, xq_un, xq_un, xq_un] [] Q := by
  unfold th_spare at hp
  refine xu_258 (n := n) (ns := ns) (fun Y' hY => ⟨ok_0 ho, h29, upd_eq, thw_0 hw, by omega, fun v' P' F' N' W' hW' => ⟨hY, fun p hp' => by rw [hW' p hp', upd_ne (by omega)], fun z => ?_, fun z => ?_⟩⟩)
  · have z : th_close n (Int32.ofInt (-1)) 0 (th_0 W) = Int32.ofInt (-1) := z
    rw [if_pos z] at hp
    exact hp v' P' F' N' Y'
  · have z : ¬ th_close n (Int32.ofInt (-1)) 0 (th_0 W) = Int32.ofInt (-1) := z
    rw [if_neg z] at hp
    exact xl_258_16 (d := d + 2) ho hw n 0 _ _ _ _ _ _ _ (by rw [upd_ne (by omega)]; exact h29) (by omega) (fun v1 P1 F1 N1 Y1 => by rw [upd_upd]; exact hp v1 P1 F1 N1 Y1)
/-- fewest -/
theorem xl_259_14 {wk : Int32} (ho : ok n ns W) (hw : thw W) : ∀ (c k : Nat) (A P F N Y : xw) (u3 : Value), A 29 = Int32.ofInt (-1) → k + c = 100 → (∀ (v' : Int32) (P' F' N' Y' : xw), Q (some (.int (th_fw n wk W c k))) (xq_s g J (xt I (upd A 30 v') W P' F' N' Y' X B))) → xq_wp (d + 8) 259 (xq_s g J (xt I A W P F N Y X B)) 14 [.ref 126, .int wk, .int (nI k), u3] [] Q := by
  intro c
  induction c with
  | zero =>
    intro k A P F N Y u3 h29 e hp
    refine xu_259_14 (n := n) (ns := ns) ⟨by omega, fun _ => ?_, fun z => by omega⟩
    have := hp (A 30) P F N Y
    rw [upd_self] at this
    exact this
  | succ c ih =>
    intro k A P F N Y u3 h29 e hp
    refine xu_259_14 (n := n) (ns := ns) ⟨by omega, fun z => by omega, fun _ => fun Y' hY => ⟨ok_told (i := 0) (ok_0 ho) (by omega) (show k ≤ 99 by omega), h29, by rw [upd_ne (by omega), upd_eq], thw_up (thw_0 hw) (by omega), by omega, fun v' P' F' N' W' hW' => ⟨hY, fun p hp' => by rw [hW' p hp', upd_ne (by omega), upd_ne (by omega)], fun q => ?_, fun q => ⟨fun q2 => ?_, fun q2 => ?_⟩⟩⟩⟩
    · simp only [th_fw, if_neg (show ¬ th_in wk (th_close n (Int32.ofInt (-1)) 0 (upd (th_0 W) 10 (nI k))) from fun y => y.1 q)] at hp
      exact ih (k + 1) _ _ _ _ _ _ (by rw [upd_ne (by omega)]; exact h29) (by omega) (fun v1 P1 F1 N1 Y1 => by rw [upd_upd]; exact hp v1 P1 F1 N1 Y1)
    · simp only [th_fw, if_neg (show ¬ th_in wk (th_close n (Int32.ofInt (-1)) 0 (upd (th_0 W) 10 (nI k))) from fun y => y.2 q2)] at hp
      exact ih (k + 1) _ _ _ _ _ _ (by rw [upd_ne (by omega)]; exact h29) (by omega) (fun v1 P1 F1 N1 Y1 => by rw [upd_upd]; exact hp v1 P1 F1 N1 Y1)
    · simp only [th_fw, if_pos (show th_in wk (th_close n (Int32.ofInt (-1)) 0 (upd (th_0 W) 10 (nI k))) from ⟨q, q2⟩)] at hp
      exact hp v' P' F' N' Y'
theorem xl_259 {wk : Int32} (ho : ok n ns W) (h29 : A 29 = Int32.ofInt (-1)) (hw : thw W) (hp : ∀ (v' : Int32) (P' F' N' Y' : xw), Q (some (.int (if wk < W 2 then Int32.ofInt (-1) else th_fw n wk W 100 0))) (xq_s g J (xt I (upd A 30 v') W P' F' N' Y' X B))) : xq_wp (d + 8) 259 (xq_s g J (xt I A W P F N Y X B)) 0 [.ref 126, .int wk, xq_un, xq_un] [] Q := by
  refine xu_259 ⟨fun z => ?_, fun z => ?_⟩
  · rw [if_pos z] at hp
    have := hp (A 30) P F N Y
    rw [upd_self] at this
    exact this
  · rw [if_neg z] at hp
    exact xl_259_14 (d := d) ho hw 100 0 A P F N Y _ h29 (by omega) hp
/-- without -/
theorem xl_261 {v : Nat} {u2 : Value} (ho : ok n ns W) (h29 : A 29 = Int32.ofInt (-1)) (hw : thw W) (hv : v < 4) (hp : ∀ (v' : Int32) (P' F' N' Y' : xw), Q (some (.int (th_close n (Int32.ofInt (-1)) 0 (upd (th_0 W) (24 + v) (nI 0))))) (xq_s g J (xt I (upd A 30 v') W P' F' N' Y' X B))) : xq_wp (d + 8) 261 (xq_s g J (xt I A W P F N Y X B)) 11 [.ref 126, .int (nI v), u2] [] Q :=
  xu_261 (n := n) (ns := ns) (fun Y' hY => ⟨by omega, ok_open (ok_0 ho) hv (by omega), h29, by rw [upd_ne (by omega), upd_eq], thw_up (thw_0 hw) (by omega), by omega, fun v' P' F' N' W' hW' => ⟨hY, fun p hp' => by rw [hW' p hp', upd_ne (by omega), upd_ne (by omega)], hp v' P' F' N' Y'⟩⟩)
end xk_thm
