/-! text: the model's next token -/
def ms (I : Nat → xw) (e c s : Nat) (v : Int32) : Nat → xw := xq_w (xq_w (xq_w (xq_w I 126 19 (nI e)) 126 20 (nI c)) 126 21 (nI s)) 126 22 v
def mF (I I' : Nat → xw) : Prop := (∀ a, ¬ a = 126 → I' a = I a) ∧ ∀ k, ¬ (19 ≤ k ∧ k < 23) → I' 126 k = I 126 k
/-- what the model reads its tokens from: text r, the tape -/
def mG (r l : Nat) (tp : Nat → Nat) (I : Nat → xw) : Prop := r < 4 ∧ l ≤ 400 ∧ I 126 13 = nI r ∧ I 126 18 = nI l ∧ ∀ p, p < l → I 135 p = nI (tp p) ∧ tp p < 256
section xk_lx
variable {d : Nat} {g : xq_V} {J : Nat → Nat → Int64} {I I0 I1 : Nat → xw} {Q : Option Value → xq_S → Prop} {r l t j s z e c : Nat} {tp st sz : Nat → Nat} {v : Int32}
theorem ms_ext (h : mF I I1) (h1 : I1 126 19 = nI e) (h2 : I1 126 20 = nI c) (h3 : I1 126 21 = nI s) : I1 = ms I e c s (I1 126 22) := by
  unfold ms
  funext b k
  by_cases eb : b = 126
  · subst eb
    by_cases k1 : k = 22
    · subst k1; rw [xw_v]
    · rw [xw_x k1]
      by_cases k2 : k = 21
      · subst k2; rw [xw_v]; exact h3
      · rw [xw_x k2]
        by_cases k3 : k = 20
        · subst k3; rw [xw_v]; exact h2
        · rw [xw_x k3]
          by_cases k4 : k = 19
          · subst k4; rw [xw_v]; exact h1
          · rw [xw_x k4]; exact h.2 k (by omega)
  · rw [xw_i eb, xw_i eb, xw_i eb, xw_i eb, h.1 b eb]
theorem mF_w {k : Nat} (h : mF I I1) (hk : 19 ≤ k ∧ k < 23) : mF I (xq_w I1 126 k v) := ⟨fun a ha => by rw [xw_i ha]; exact h.1 a ha, fun i hi => by rw [xw_x (by omega)]; exact h.2 i hi⟩
theorem mG_fr (h : mG r l tp I) (hf : mF I I1) : mG r l tp I1 := by
  obtain ⟨h1, h2, h3, h4, h5⟩ := h
  refine ⟨h1, h2, by rw [hf.2 13 (by omega)]; exact h3, by rw [hf.2 18 (by omega)]; exact h4, ?_⟩
  rw [hf.1 135 (by omega)]; exact h5
theorem wc_t {p : Nat × Nat} {L : List (Nat × Nat)} (h : wdB tp s z p.1 = true) : wc tp s z (p :: L) = p.2 := by rw [wc, if_pos h]
theorem wc_f {p : Nat × Nat} {L : List (Nat × Nat)} (h : ¬ wdB tp s z p.1 = true) : wc tp s z (p :: L) = wc tp s z L := by rw [wc, if_neg h]
theorem xl_173 (hG : mG r l tp I) (h1 : I 126 19 = nI (s + z)) (h2 : I 126 21 = nI s) (h3 : s + z ≤ l) (hp : Q (some (.int (nI (wc tp s z (kw r))))) (xq_s g J I)) : xq_wp (d + 2) 173 (xq_s g J I) 0 [.ref 126] [] Q := by
  obtain ⟨hr, h4, h13, h18, h5⟩ := hG
  have : r = 0 ∨ r = 1 ∨ r = 2 ∨ r = 3 := by omega
  rcases this with q | q | q | q <;> subst q
  · refine tm_173_0 (d := d + 1) ⟨h13, ?_⟩
    have key : ∀ K, wc tp s z [(0, 8), (1, 9), (3, 10), (2, 11), (4, 12), (5, 5)] = K → xq_wp (d + 1 + 1) 173 (xq_s g J I) 11 [.ref 126] [.int (nI K)] Q := fun K e => tm_173_e174 (d := d + 2) (by rw [← e]; exact hp)
    exact tm_174 (d := d) h1 h2 h3 h4 h5 ⟨fun q0 => key _ (wc_t (p := (0, 8)) q0), fun q0 => ⟨fun q1 => key _ ((wc_f (p := (0, 8)) q0).trans (wc_t (p := (1, 9)) q1)), fun q1 => ⟨fun q2 => key _ ((wc_f (p := (0, 8)) q0).trans ((wc_f (p := (1, 9)) q1).trans (wc_t (p := (3, 10)) q2))), fun q2 => ⟨fun q3 => key _ ((wc_f (p := (0, 8)) q0).trans ((wc_f (p := (1, 9)) q1).trans ((wc_f (p := (3, 10)) q2).trans (wc_t (p := (2, 11)) q3)))), fun q3 => ⟨fun q4 => key _ ((wc_f (p := (0, 8)) q0).trans ((wc_f (p := (1, 9)) q1).trans ((wc_f (p := (3, 10)) q2).trans ((wc_f (p := (2, 11)) q3).trans (wc_t (p := (4, 12)) q4))))), fun q4 => ⟨fun q5 => key _ ((wc_f (p := (0, 8)) q0).trans ((wc_f (p := (1, 9)) q1).trans ((wc_f (p := (3, 10)) q2).trans ((wc_f (p := (2, 11)) q3).trans ((wc_f (p := (4, 12)) q4).trans (wc_t (p := (5, 5)) q5)))))), fun q5 => key _ ((wc_f (p := (0, 8)) q0).trans ((wc_f (p := (1, 9)) q1).trans ((wc_f (p := (3, 10)) q2).trans ((wc_f (p := (2, 11)) q3).trans ((wc_f (p := (4, 12)) q4).trans ((wc_f (p := (5, 5)) q5).trans (rfl)))))))⟩⟩⟩⟩⟩⟩
  · refine tm_173_1 (d := d + 1) ⟨h13, h13, ?_⟩
    have key : ∀ K, wc tp s z [(6, 20), (7, 21), (8, 22), (9, 23)] = K → xq_wp (d + 1 + 1) 173 (xq_s g J I) 24 [.ref 126] [.int (nI K)] Q := fun K e => tm_173_e176 (d := d + 2) (by rw [← e]; exact hp)
    exact tm_176 (d := d) h1 h2 h3 h4 h5 ⟨fun q0 => key _ (wc_t (p := (6, 20)) q0), fun q0 => ⟨fun q1 => key _ ((wc_f (p := (6, 20)) q0).trans (wc_t (p := (7, 21)) q1)), fun q1 => ⟨fun q2 => key _ ((wc_f (p := (6, 20)) q0).trans ((wc_f (p := (7, 21)) q1).trans (wc_t (p := (8, 22)) q2))), fun q2 => ⟨fun q3 => key _ ((wc_f (p := (6, 20)) q0).trans ((wc_f (p := (7, 21)) q1).trans ((wc_f (p := (8, 22)) q2).trans (wc_t (p := (9, 23)) q3)))), fun q3 => key _ ((wc_f (p := (6, 20)) q0).trans ((wc_f (p := (7, 21)) q1).trans ((wc_f (p := (8, 22)) q2).trans ((wc_f (p := (9, 23)) q3).trans (rfl)))))⟩⟩⟩⟩
  · refine tm_173_2 (d := d + 1) ⟨h13, h13, h13, ?_⟩
    have key : ∀ K, wc tp s z [(19, 3), (21, 4), (5, 5), (20, 6), (10, 7), (11, 41), (12, 42), (13, 43), (14, 44), (15, 45), (16, 46), (17, 47), (18, 48)] = K → xq_wp (d + 1 + 1) 173 (xq_s g J I) 37 [.ref 126] [.int (nI K)] Q := fun K e => tm_173_e177 (d := d + 2) (by rw [← e]; exact hp)
    exact tm_177 (d := d) h1 h2 h3 h4 h5 ⟨fun q0 => key _ (wc_t (p := (19, 3)) q0), fun q0 => ⟨fun q1 => key _ ((wc_f (p := (19, 3)) q0).trans (wc_t (p := (21, 4)) q1)), fun q1 => ⟨fun q2 => key _ ((wc_f (p := (19, 3)) q0).trans ((wc_f (p := (21, 4)) q1).trans (wc_t (p := (5, 5)) q2))), fun q2 => ⟨fun q3 => key _ ((wc_f (p := (19, 3)) q0).trans ((wc_f (p := (21, 4)) q1).trans ((wc_f (p := (5, 5)) q2).trans (wc_t (p := (20, 6)) q3)))), fun q3 => ⟨fun q4 => key _ ((wc_f (p := (19, 3)) q0).trans ((wc_f (p := (21, 4)) q1).trans ((wc_f (p := (5, 5)) q2).trans ((wc_f (p := (20, 6)) q3).trans (wc_t (p := (10, 7)) q4))))), fun q4 => ⟨fun q5 => key _ ((wc_f (p := (19, 3)) q0).trans ((wc_f (p := (21, 4)) q1).trans ((wc_f (p := (5, 5)) q2).trans ((wc_f (p := (20, 6)) q3).trans ((wc_f (p := (10, 7)) q4).trans (wc_t (p := (11, 41)) q5)))))), fun q5 => ⟨fun q6 => key _ ((wc_f (p := (19, 3)) q0).trans ((wc_f (p := (21, 4)) q1).trans ((wc_f (p := (5, 5)) q2).trans ((wc_f (p := (20, 6)) q3).trans ((wc_f (p := (10, 7)) q4).trans ((wc_f (p := (11, 41)) q5).trans (wc_t (p := (12, 42)) q6))))))), fun q6 => ⟨fun q7 => key _ ((wc_f (p := (19, 3)) q0).trans ((wc_f (p := (21, 4)) q1).trans ((wc_f (p := (5, 5)) q2).trans ((wc_f (p := (20, 6)) q3).trans ((wc_f (p := (10, 7)) q4).trans ((wc_f (p := (11, 41)) q5).trans ((wc_f (p := (12, 42)) q6).trans (wc_t (p := (13, 43)) q7)))))))), fun q7 => ⟨fun q8 => key _ ((wc_f (p := (19, 3)) q0).trans ((wc_f (p := (21, 4)) q1).trans ((wc_f (p := (5, 5)) q2).trans ((wc_f (p := (20, 6)) q3).trans ((wc_f (p := (10, 7)) q4).trans ((wc_f (p := (11, 41)) q5).trans ((wc_f (p := (12, 42)) q6).trans ((wc_f (p := (13, 43)) q7).trans (wc_t (p := (14, 44)) q8))))))))), fun q8 => ⟨fun q9 => key _ ((wc_f (p := (19, 3)) q0).trans ((wc_f (p := (21, 4)) q1).trans ((wc_f (p := (5, 5)) q2).trans ((wc_f (p := (20, 6)) q3).trans ((wc_f (p := (10, 7)) q4).trans ((wc_f (p := (11, 41)) q5).trans ((wc_f (p := (12, 42)) q6).trans ((wc_f (p := (13, 43)) q7).trans ((wc_f (p := (14, 44)) q8).trans (wc_t (p := (15, 45)) q9)))))))))), fun q9 => ⟨fun q10 => key _ ((wc_f (p := (19, 3)) q0).trans ((wc_f (p := (21, 4)) q1).trans ((wc_f (p := (5, 5)) q2).trans ((wc_f (p := (20, 6)) q3).trans ((wc_f (p := (10, 7)) q4).trans ((wc_f (p := (11, 41)) q5).trans ((wc_f (p := (12, 42)) q6).trans ((wc_f (p := (13, 43)) q7).trans ((wc_f (p := (14, 44)) q8).trans ((wc_f (p := (15, 45)) q9).trans (wc_t (p := (16, 46)) q10))))))))))), fun q10 => ⟨fun q11 => key _ ((wc_f (p := (19, 3)) q0).trans ((wc_f (p := (21, 4)) q1).trans ((wc_f (p := (5, 5)) q2).trans ((wc_f (p := (20, 6)) q3).trans ((wc_f (p := (10, 7)) q4).trans ((wc_f (p := (11, 41)) q5).trans ((wc_f (p := (12, 42)) q6).trans ((wc_f (p := (13, 43)) q7).trans ((wc_f (p := (14, 44)) q8).trans ((wc_f (p := (15, 45)) q9).trans ((wc_f (p := (16, 46)) q10).trans (wc_t (p := (17, 47)) q11)))))))))))), fun q11 => ⟨fun q12 => key _ ((wc_f (p := (19, 3)) q0).trans ((wc_f (p := (21, 4)) q1).trans ((wc_f (p := (5, 5)) q2).trans ((wc_f (p := (20, 6)) q3).trans ((wc_f (p := (10, 7)) q4).trans ((wc_f (p := (11, 41)) q5).trans ((wc_f (p := (12, 42)) q6).trans ((wc_f (p := (13, 43)) q7).trans ((wc_f (p := (14, 44)) q8).trans ((wc_f (p := (15, 45)) q9).trans ((wc_f (p := (16, 46)) q10).trans ((wc_f (p := (17, 47)) q11).trans (wc_t (p := (18, 48)) q12))))))))))))), fun q12 => key _ ((wc_f (p := (19, 3)) q0).trans ((wc_f (p := (21, 4)) q1).trans ((wc_f (p := (5, 5)) q2).trans ((wc_f (p := (20, 6)) q3).trans ((wc_f (p := (10, 7)) q4).trans ((wc_f (p := (11, 41)) q5).trans ((wc_f (p := (12, 42)) q6).trans ((wc_f (p := (13, 43)) q7).trans ((wc_f (p := (14, 44)) q8).trans ((wc_f (p := (15, 45)) q9).trans ((wc_f (p := (16, 46)) q10).trans ((wc_f (p := (17, 47)) q11).trans ((wc_f (p := (18, 48)) q12).trans (rfl))))))))))))))⟩⟩⟩⟩⟩⟩⟩⟩⟩⟩⟩⟩⟩
  · refine tm_173_3 (d := d + 1) ⟨h13, h13, h13, ?_⟩
    have key : ∀ K, wc tp s z [(23, 24), (24, 25), (25, 26), (26, 27), (27, 28), (28, 29), (29, 30), (30, 31), (22, 32), (31, 33)] = K → xq_wp (d + 1 + 1) 173 (xq_s g J I) 44 [.ref 126] [.int (nI K)] Q := fun K e => tm_173_e178 (d := d + 2) (by rw [← e]; exact hp)
    exact tm_178 (d := d) h1 h2 h3 h4 h5 ⟨fun q0 => key _ (wc_t (p := (23, 24)) q0), fun q0 => ⟨fun q1 => key _ ((wc_f (p := (23, 24)) q0).trans (wc_t (p := (24, 25)) q1)), fun q1 => ⟨fun q2 => key _ ((wc_f (p := (23, 24)) q0).trans ((wc_f (p := (24, 25)) q1).trans (wc_t (p := (25, 26)) q2))), fun q2 => ⟨fun q3 => key _ ((wc_f (p := (23, 24)) q0).trans ((wc_f (p := (24, 25)) q1).trans ((wc_f (p := (25, 26)) q2).trans (wc_t (p := (26, 27)) q3)))), fun q3 => ⟨fun q4 => key _ ((wc_f (p := (23, 24)) q0).trans ((wc_f (p := (24, 25)) q1).trans ((wc_f (p := (25, 26)) q2).trans ((wc_f (p := (26, 27)) q3).trans (wc_t (p := (27, 28)) q4))))), fun q4 => ⟨fun q5 => key _ ((wc_f (p := (23, 24)) q0).trans ((wc_f (p := (24, 25)) q1).trans ((wc_f (p := (25, 26)) q2).trans ((wc_f (p := (26, 27)) q3).trans ((wc_f (p := (27, 28)) q4).trans (wc_t (p := (28, 29)) q5)))))), fun q5 => ⟨fun q6 => key _ ((wc_f (p := (23, 24)) q0).trans ((wc_f (p := (24, 25)) q1).trans ((wc_f (p := (25, 26)) q2).trans ((wc_f (p := (26, 27)) q3).trans ((wc_f (p := (27, 28)) q4).trans ((wc_f (p := (28, 29)) q5).trans (wc_t (p := (29, 30)) q6))))))), fun q6 => ⟨fun q7 => key _ ((wc_f (p := (23, 24)) q0).trans ((wc_f (p := (24, 25)) q1).trans ((wc_f (p := (25, 26)) q2).trans ((wc_f (p := (26, 27)) q3).trans ((wc_f (p := (27, 28)) q4).trans ((wc_f (p := (28, 29)) q5).trans ((wc_f (p := (29, 30)) q6).trans (wc_t (p := (30, 31)) q7)))))))), fun q7 => ⟨fun q8 => key _ ((wc_f (p := (23, 24)) q0).trans ((wc_f (p := (24, 25)) q1).trans ((wc_f (p := (25, 26)) q2).trans ((wc_f (p := (26, 27)) q3).trans ((wc_f (p := (27, 28)) q4).trans ((wc_f (p := (28, 29)) q5).trans ((wc_f (p := (29, 30)) q6).trans ((wc_f (p := (30, 31)) q7).trans (wc_t (p := (22, 32)) q8))))))))), fun q8 => ⟨fun q9 => key _ ((wc_f (p := (23, 24)) q0).trans ((wc_f (p := (24, 25)) q1).trans ((wc_f (p := (25, 26)) q2).trans ((wc_f (p := (26, 27)) q3).trans ((wc_f (p := (27, 28)) q4).trans ((wc_f (p := (28, 29)) q5).trans ((wc_f (p := (29, 30)) q6).trans ((wc_f (p := (30, 31)) q7).trans ((wc_f (p := (22, 32)) q8).trans (wc_t (p := (31, 33)) q9)))))))))), fun q9 => key _ ((wc_f (p := (23, 24)) q0).trans ((wc_f (p := (24, 25)) q1).trans ((wc_f (p := (25, 26)) q2).trans ((wc_f (p := (26, 27)) q3).trans ((wc_f (p := (27, 28)) q4).trans ((wc_f (p := (28, 29)) q5).trans ((wc_f (p := (29, 30)) q6).trans ((wc_f (p := (30, 31)) q7).trans ((wc_f (p := (22, 32)) q8).trans ((wc_f (p := (31, 33)) q9).trans (rfl)))))))))))⟩⟩⟩⟩⟩⟩⟩⟩⟩⟩
theorem kd_5 {c : Nat} : kd c = 5 ↔ (c = 32 ∨ c = 10) := by
  unfold kd
  refine ⟨fun h => ?_, fun h => ?_⟩
  · repeat' split at h
    all_goals omega
  · rw [if_neg (by omega), if_neg (by omega), if_pos h]
theorem kd_3 {c : Nat} : kd c = 3 ↔ ((40 ≤ c ∧ c ≤ 43) ∨ c = 45 ∨ c = 47 ∨ (59 ≤ c ∧ c ≤ 62)) := by
  unfold kd
  refine ⟨fun h => ?_, fun h => ?_⟩
  · repeat' split at h
    all_goals omega
  · rw [if_neg (by omega), if_neg (by omega), if_neg (by omega), if_pos h]
/-- what the next token leaves -/
theorem xl_fin (hf : mF I I1) (h1 : I1 126 19 = nI (enF l t st sz j)) (h2 : I1 126 20 = nI (tcF r tp t st sz j)) (h3 : I1 126 21 = nI (ssF l t st j)) (h4 : tcF r tp t st sz j = 2 → I1 126 22 = nI (vlF tp st sz j)) (hp : ∀ v : Int32, (tcF r tp t st sz j = 2 → v = nI (vlF tp st sz j)) → Q none (xq_s g J (ms I (enF l t st sz j) (tcF r tp t st sz j) (ssF l t st j) v))) : Q none (xq_s g J I1) := by
  rw [ms_ext hf h1 h2 h3]
  exact hp _ h4
theorem xl_170_76 {u2 : Value} (hG : mG r l tp I) (hP : tk1 tp l st sz j) (hj : j < t) (hk : kd (tp (st j)) = 2) (hp : ∀ v : Int32, (tcF r tp t st sz j = 2 → v = nI (vlF tp st sz j)) → Q none (xq_s g J (ms I (enF l t st sz j) (tcF r tp t st sz j) (ssF l t st j) v))) : ∀ (n a : Nat) (I1 : Nat → xw), a + n = st j + sz j → st j ≤ a → mF I I1 → I1 126 19 = nI a → I1 126 21 = nI (st j) → xq_wp (d + 3) 170 (xq_s g J I1) 76 [.ref 126, .int (nI c), u2] [] Q := by
  obtain ⟨a1, a2, a3, a4, a5, a6, a7, a8⟩ := hP
  have hl := hG.2.1
  have hr := hG.1
  intro n
  induction n with
  | zero =>
    intro a I1 e ha hf h19 h21
    have hG1 := mG_fr hG hf
    have ea : a = st j + sz j := by omega
    have etc : tcF r tp t st sz j = wc tp (st j) (sz j) (kw r) := by rw [tcF, if_pos hj, if_pos hk]
    have w := wc_r (tp := tp) (s := st j) (z := sz j) hr
    have fin : xq_wp (d + 2) 173 (xq_s g J I1) 0 [.ref 126] [] (fun v x1 => xq_wp (d + 1 + 2) 170 x1 108 [.ref 126, .int (nI c), u2] (v.toList ++ [.ref 126]) Q) := by
      refine xl_173 (d := d) hG1 (s := st j) (z := sz j) (by rw [← ea]; exact h19) h21 (by omega) (tm_170_108 (d := d + 3) ?_)
      refine xl_fin (mF_w hf (by omega)) ?_ ?_ ?_ (fun q => by omega) hp
      · rw [xw_x (by omega), enF, if_pos hj, ← ea]; exact h19
      · rw [xw_v, etc]
      · rw [xw_x (by omega), ssF, if_pos hj]; exact h21
    rcases a7 (by omega) with q | q
    · exact tm_170_76 (d := d + 1) (e := 0) ⟨h19, hG1.2.2.2.1, by omega, by omega, fun y => by omega, fun _ => fin⟩
    · by_cases y : a < l
      · obtain ⟨t1, t2⟩ := hG1.2.2.2.2 a y
        exact tm_170_76 (d := d + 1) (e := tp a) ⟨h19, hG1.2.2.2.1, by omega, by omega, fun _ => ⟨by omega, t1, t2, fun k => absurd (by rw [← ea, k, hk]) q, fun _ => fin⟩, fun k => absurd y k⟩
      · exact tm_170_76 (d := d + 1) (e := 0) ⟨h19, hG1.2.2.2.1, by omega, by omega, fun k => absurd k y, fun _ => fin⟩
  | succ n ih =>
    intro a I1 e ha hf h19 h21
    have hG1 := mG_fr hG hf
    obtain ⟨t1, t2⟩ := hG1.2.2.2.2 a (by omega)
    have ka := a5 a ha (by omega)
    exact tm_170_76 (d := d + 1) (e := tp a) ⟨h19, hG1.2.2.2.1, by omega, by omega, fun _ => ⟨by omega, t1, t2, fun _ => ⟨h19, ih (a + 1) _ (by omega) (by omega) (mF_w hf (by omega)) xw_v (by rw [xw_x (by omega)]; exact h21)⟩, fun k => absurd (ka.trans hk) k⟩, fun k => absurd (by omega) k⟩
theorem xl_170_126 {u2 : Value} (hG : mG r l tp I) (hP : tk1 tp l st sz j) (hj : j < t) (hk : kd (tp (st j)) = 1) (hp : ∀ v : Int32, (tcF r tp t st sz j = 2 → v = nI (vlF tp st sz j)) → Q none (xq_s g J (ms I (enF l t st sz j) (tcF r tp t st sz j) (ssF l t st j) v))) : ∀ (n a : Nat) (I1 : Nat → xw), a + n = st j + sz j → st j ≤ a → mF I I1 → I1 126 19 = nI a → I1 126 21 = nI (st j) → I1 126 22 = nI (dc tp (st j) (min (a - st j) 4)) → xq_wp (d + 3) 170 (xq_s g J I1) 126 [.ref 126, .int (nI c), u2] [] Q := by
  obtain ⟨a1, a2, a3, a4, a5, a6, a7, a8⟩ := hP
  have hl := hG.2.1
  have dl : ∀ q, q ≤ 4 → q ≤ sz j → dc tp (st j) q < 10000 := fun q q4 qs => by
    have := dc_lt (tp := tp) (fun p hp => kd_1 hp) (s := st j) q (fun p p1 p2 => by rw [a5 p p1 (by omega)]; exact hk)
    have p4 : 10 ^ q ≤ 10 ^ 4 := Nat.pow_le_pow_right (by omega) q4
    omega
  intro n
  induction n with
  | zero =>
    intro a I1 e ha hf h19 h21 h22
    have hG1 := mG_fr hG hf
    have ea : a = st j + sz j := by omega
    have etc : tcF r tp t st sz j = if 4 < sz j then 1 else 2 := by rw [tcF, if_pos hj, if_neg (by omega), if_pos hk]
    have f5 : (a - st j) < 5 → Q none (xq_s g J (xq_w I1 126 20 (nI 2))) := fun q => by
      refine xl_fin (mF_w hf (by omega)) ?_ ?_ ?_ (fun _ => ?_) hp
      · rw [xw_x (by omega), enF, if_pos hj, ← ea]; exact h19
      · rw [xw_v, etc, if_neg (by omega)]
      · rw [xw_x (by omega), ssF, if_pos hj]; exact h21
      · rw [xw_x (by omega), h22, vlF, show min (a - st j) 4 = sz j by omega]
    have f6 : ¬ (a - st j) < 5 → Q none (xq_s g J (xq_w I1 126 20 (nI 1))) := fun q => by
      refine xl_fin (mF_w hf (by omega)) ?_ ?_ ?_ (fun k => ?_) hp
      · rw [xw_x (by omega), enF, if_pos hj, ← ea]; exact h19
      · rw [xw_v, etc, if_pos (by omega)]
      · rw [xw_x (by omega), ssF, if_pos hj]; exact h21
      · rw [etc, if_pos (by omega)] at k; omega
    by_cases y : a < l
    · obtain ⟨t1, t2⟩ := hG1.2.2.2.2 a y
      have q : ¬ kd (tp a) = 1 := fun k => by
        rcases a7 (by omega) with q | q
        · omega
        · rw [← ea, k, hk] at q; exact q rfl
      exact tm_170_126 (d := d + 1) (e := tp a) (s := st j) (v := 0) ⟨h19, hG1.2.2.2.1, by omega, by omega, fun _ => ⟨by omega, t1, t2, fun k => absurd k q, fun _ => ⟨h19, h21, by omega, by omega, f5, f6⟩⟩, fun k => absurd y k⟩
    · exact tm_170_126 (d := d + 1) (e := 0) (s := st j) (v := 0) ⟨h19, hG1.2.2.2.1, by omega, by omega, fun k => absurd k y, fun _ => ⟨h19, h21, by omega, by omega, f5, f6⟩⟩
  | succ n ih =>
    intro a I1 e ha hf h19 h21 h22
    have hG1 := mG_fr hG hf
    obtain ⟨t1, t2⟩ := hG1.2.2.2.2 a (by omega)
    have ka := (a5 a ha (by omega)).trans hk
    have di := kd_1 ka
    refine tm_170_126 (d := d + 1) (e := tp a) (s := st j) (v := dc tp (st j) (min (a - st j) 4)) ⟨h19, hG1.2.2.2.1, by omega, by omega, fun _ => ⟨by omega, t1, t2, fun _ => ⟨h19, h21, by omega, fun q => ⟨h22, h19, hG1.2.2.2.1, t1, by omega, h19, ih (a + 1) _ (by omega) (by omega) (mF_w (mF_w hf (by omega)) (by omega)) xw_v ?_ ?_⟩, fun q => ⟨h19, ih (a + 1) _ (by omega) (by omega) (mF_w hf (by omega)) xw_v ?_ ?_⟩⟩, fun k => absurd ka k⟩, fun k => absurd (by omega) k⟩
    · rw [xw_x (by omega), xw_x (by omega)]; exact h21
    · rw [xw_x (by omega), xw_v, show min (a - st j) 4 = a - st j by omega, show min (a + 1 - st j) 4 = a - st j + 1 by omega, dc, show st j + (a - st j) = a by omega]
      congr 1
      omega
    · rw [xw_x (by omega)]; exact h21
    · rw [xw_x (by omega), h22, show min (a - st j) 4 = 4 by omega, show min (a + 1 - st j) 4 = 4 by omega]
/-- the next token -/
theorem xl_170 (hG : mG r l tp I) (hP : tkP tp l t st sz) (hj : j ≤ t) (h19 : I 126 19 = nI (pe st sz j)) (hp : ∀ v : Int32, (tcF r tp t st sz j = 2 → v = nI (vlF tp st sz j)) → Q none (xq_s g J (ms I (enF l t st sz j) (tcF r tp t st sz j) (ssF l t st j) v))) : xq_wp (d + 3) 170 (xq_s g J I) 0 [.ref 126, xq_un, xq_un] [] Q := by
  have hl := hG.2.1
  have hb : pe st sz j ≤ ssF l t st j ∧ ssF l t st j ≤ l ∧ (∀ p, pe st sz j ≤ p → p < ssF l t st j → kd (tp p) = 5) := by
    rw [ssF]
    by_cases e : j < t
    · rw [if_pos e]
      obtain ⟨a1, a2, a3, a4, -⟩ := hP.1 j e
      exact ⟨a1, by omega, a4⟩
    · rw [if_neg e]
      have : j = t := by omega
      subst this
      exact ⟨hP.2.1, Nat.le_refl _, hP.2.2⟩
  -- behind the blanks
  have tok : ∀ I1 : Nat → xw, mF I I1 → I1 126 19 = nI (ssF l t st j) → xq_wp (d + 1 + 2) 170 (xq_s g J I1) 39 [.ref 126, xq_un, xq_un] [] Q := by
    intro I1 hf h19
    have hG1 := mG_fr hG hf
    by_cases e : j < t
    · have hP1 := hP.1 j e
      obtain ⟨a1, a2, a3, a4, a5, a6, a7, a8⟩ := hP1
      rw [ssF, if_pos e] at h19
      obtain ⟨t1, t2⟩ := hG1.2.2.2.2 (st j) (by omega)
      refine tm_170_39 (d := d + 1) (a := st j) (c := tp (st j)) ⟨h19, hG1.2.2.2.1, by omega, by omega, fun _ => ⟨by omega, t1, fun k => absurd k (nI_m1 (by omega)), fun _ => ⟨t2, fun k => ?_, fun k => ⟨fun k2 => ?_, fun k2 => ?_⟩⟩⟩, fun k => absurd (by omega) k⟩
      · rw [h19]
        exact xl_170_76 (d := d) hG (hP.1 j e) e k hp (sz j) (st j) _ rfl (Nat.le_refl _) (mF_w hf (by omega)) (by rw [xw_x (by omega)]; exact h19) xw_v
      · rw [h19]
        exact xl_170_126 (d := d) hG (hP.1 j e) e k2 hp (sz j) (st j) _ rfl (Nat.le_refl _) (mF_w (mF_w hf (by omega)) (by omega)) (by rw [xw_x (by omega), xw_x (by omega)]; exact h19) (by rw [xw_x (by omega), xw_v]) (by rw [xw_v, show min (st j - st j) 4 = 0 by omega, dc])
      · rw [h19]
        have z1 := a8 (by have := kd_r (tp (st j)); omega)
        have f3 : kd (tp (st j)) = 3 → Q none (xq_s g J (xq_w (xq_w (xq_w I1 126 21 (nI (st j))) 126 19 (nI (st j + 1))) 126 20 (nI (100 + tp (st j))))) := fun q => by
          refine xl_fin (mF_w (mF_w (mF_w hf (by omega)) (by omega)) (by omega)) ?_ ?_ ?_ (fun y => ?_) hp
          · rw [xw_x (by omega), xw_v, enF, if_pos e, z1]
          · rw [xw_v, tcF, if_pos e, if_neg (by omega), if_neg (by omega), if_pos q]
          · rw [xw_x (by omega), xw_x (by omega), xw_v, ssF, if_pos e]
          · rw [tcF, if_pos e, if_neg (by omega), if_neg (by omega), if_pos q] at y; omega
        have f4 : ¬ kd (tp (st j)) = 3 → Q none (xq_s g J (xq_w (xq_w (xq_w I1 126 21 (nI (st j))) 126 19 (nI (st j + 1))) 126 20 (nI 1))) := fun q => by
          refine xl_fin (mF_w (mF_w (mF_w hf (by omega)) (by omega)) (by omega)) ?_ ?_ ?_ (fun y => ?_) hp
          · rw [xw_x (by omega), xw_v, enF, if_pos e, z1]
          · rw [xw_v, tcF, if_pos e, if_neg (by omega), if_neg (by omega), if_neg q]
          · rw [xw_x (by omega), xw_x (by omega), xw_v, ssF, if_pos e]
          · rw [tcF, if_pos e, if_neg (by omega), if_neg (by omega), if_neg q] at y; omega
        have e3 := kd_3 (c := tp (st j))
        refine tm_170_214 (d := d + 3) (a := st j) ⟨by rw [xw_x (by omega)]; exact h19, by omega, ?_⟩
        repeat' (first
          | exact f3 (e3.mpr (by omega))
          | exact f4 (fun y => by have := e3.mp y; omega)
          | refine And.intro ?_ ?_
          | intro _)
    · have ej : j = t := by omega
      rw [ssF, if_neg e] at h19
      refine tm_170_39 (d := d + 1) (a := l) (c := 0) ⟨h19, hG1.2.2.2.1, by omega, by omega, fun k => by omega, fun _ => ?_⟩
      refine xl_fin (mF_w (mF_w hf (by omega)) (by omega)) ?_ ?_ ?_ (fun y => ?_) hp
      · rw [xw_x (by omega), xw_x (by omega), enF, if_neg e]; exact h19
      · rw [xw_v, tcF, if_neg e]
      · rw [xw_x (by omega), xw_v, ssF, if_neg e]; exact h19
      · rw [tcF, if_neg e] at y; omega
  have lp : ∀ (n a : Nat) (I1 : Nat → xw), a + n = ssF l t st j → pe st sz j ≤ a → mF I I1 → I1 126 19 = nI a → xq_wp (d + 3) 170 (xq_s g J I1) 0 [.ref 126, xq_un, xq_un] [] Q := by
    intro n
    induction n with
    | zero =>
      intro a I1 ea ha hf h19
      have hG1 := mG_fr hG hf
      have ea : a = ssF l t st j := by omega
      have tk := tok I1 hf (by rw [← ea]; exact h19)
      by_cases y : a < l
      · obtain ⟨t1, t2⟩ := hG1.2.2.2.2 a y
        have nb : ¬ kd (tp a) = 5 := by
          by_cases e : j < t
          · obtain ⟨a1, a2, a3, a4, a5, a6, -⟩ := hP.1 j e
            rw [ea, ssF, if_pos e]; exact a6
          · rw [ssF, if_neg e] at ea; omega
        rw [kd_5] at nb
        exact tm_170_0 (d := d + 2) (c := tp a) ⟨h19, hG1.2.2.2.1, by omega, by omega, fun _ => ⟨by omega, t1, by omega, fun k => by omega, fun _ => ⟨h19, hG1.2.2.2.1, t1, fun k => by omega, fun _ => tk⟩⟩, fun k => absurd y k⟩
      · exact tm_170_0 (d := d + 2) (c := 0) ⟨h19, hG1.2.2.2.1, by omega, by omega, fun k => absurd k y, fun _ => ⟨h19, hG1.2.2.2.1, tk⟩⟩
    | succ n ih =>
      intro a I1 ea ha hf h19
      have hG1 := mG_fr hG hf
      obtain ⟨t1, t2⟩ := hG1.2.2.2.2 a (by omega)
      have b := kd_5.mp (hb.2.2 a ha (by omega))
      have nx := ih (a + 1) (xq_w I1 126 19 (nI (a + 1))) (by omega) (by omega) (mF_w hf (by omega)) xw_v
      exact tm_170_0 (d := d + 2) (c := tp a) ⟨h19, hG1.2.2.2.1, by omega, by omega, fun _ => ⟨by omega, t1, by omega, fun _ => ⟨h19, nx⟩, fun _ => ⟨h19, hG1.2.2.2.1, t1, fun _ => ⟨h19, nx⟩, fun k => by omega⟩⟩, fun k => absurd (by omega) k⟩
  exact lp (ssF l t st j - pe st sz j) (pe st sz j) I (by omega) (Nat.le_refl _) ⟨fun _ _ => rfl, fun _ _ => rfl⟩ h19
end xk_lx
