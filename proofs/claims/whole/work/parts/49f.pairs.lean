/-! the pairs: chain -/
def cin (m : Int32) (f : xw) : Nat → Nat → Int32 → Int32
  | 0, _, a => a
  | c + 1, e, a => cin m f c (e + 1) (if (m >>> (nI e &&& 31)) &&& nI 1 = nI 1 then xq_max a (f e + nI 1) else a)
def cch (W : xw) : Nat → xw
  | 0 => fun _ => nI 0
  | c + 1 => upd (cch W c) c (cin (W (50 + 14 * c + 3)) (cch W c) c 0 (nI 1))
section xk_pr4
variable {g : xq_V} {J : Nat → Nat → Int64} {I I' : Nat → xw} {n ns : Nat} {Q : Option Value → xq_S → Prop} {d : Nat} {W : xw}
theorem zl_140_22 {b c : Nat} {m : Int32} {f : xw} (hc : c < 14) (em : I 6 c = m) (hp : ∀ (C' : xw) (u : Value), (∀ j, j < c → C' j = f j) → ∀ a, C' c = a → a = cin m f c 0 (nI 1) → xq_wp (d + 1) 140 (xq_s g J (xh55 I C')) 2 [.ref 53, .int (nI b), .int (nI (c + 1)), u] [] Q) : ∀ (t e : Nat) (C : xw), e + t = c → (∀ j, j < c → C j = f j) → cin m f t e (C c) = cin m f c 0 (nI 1) → xq_wp (d + 1) 140 (xq_s g J (xh55 I C)) 22 [.ref 53, .int (nI b), .int (nI c), .int (nI e)] [] Q := by
  intro t
  induction t with
  | zero => intro e C he hf ha; exact zc_140_22 (d := d) ⟨by omega, by omega, fun z => by omega, fun _ => hp C _ hf _ rfl ha⟩
  | succ t ih =>
    intro e C he hf ha
    simp only [cin] at ha
    refine zc_140_22 (d := d) ⟨by omega, by omega, fun _ => ⟨hc, fun z => ⟨by omega, ?_⟩, fun z => ?_⟩, fun z => by omega⟩
    · rw [em] at z
      rw [if_pos z, ← hf e (by omega)] at ha
      exact ih (e + 1) _ (by omega) (fun j hj => by rw [upd_ne (by omega)]; exact hf j hj) (by rw [upd_eq]; exact ha)
    · rw [em] at z
      rw [if_neg z] at ha
      exact ih (e + 1) C (by omega) hf ha
theorem cch_lt {c j : Nat} (h : j < c) : cch W (c + 1) j = cch W c j := by
  rw [cch, upd_ne (by omega)]
theorem zl_140 {b : Nat} (hb : b < 14) (h6 : ∀ c, c ≤ b → I 6 c = W (50 + 14 * c + 3)) (hp : ∀ C' : xw, Q (some (.int (cch W (b + 1) b))) (xq_s g J (xh55 I C'))) : ∀ (t c : Nat) (C : xw) (u : Value), c + t = b + 1 → (∀ j, j < c → C j = cch W c j) → xq_wp (d + 1) 140 (xq_s g J (xh55 I C)) 2 [.ref 53, .int (nI b), .int (nI c), u] [] Q := by
  intro t
  induction t with
  | zero =>
    intro c C u e hf
    have : c = b + 1 := by omega
    subst this
    refine zc_140_2 (d := d + 1) ⟨by omega, by omega, fun _ => ⟨hb, ?_⟩, fun z => by omega⟩
    rw [hf b (by omega)]
    exact hp C
  | succ t ih =>
    intro c C u e hf
    refine zc_140_2 (d := d + 1) ⟨by omega, by omega, fun z => by omega, fun _ => ⟨fun _ => ?_, fun z => by omega⟩⟩
    refine zl_140_22 (d := d) (m := W (50 + 14 * c + 3)) (f := cch W c) (by omega) (h6 c (by omega)) (fun C' u' hf' a ea ha => ih (c + 1) C' u' (by omega) (fun j hj => ?_)) c 0 _ (by omega) (fun j hj => by rw [upd_ne (by omega)]; exact hf j hj) (by rw [upd_eq])
    by_cases ej : j = c
    · subst ej; rw [cch, upd_eq, ea, ha]
    · rw [cch_lt (by omega)]; exact hf' j (by omega)
theorem zl_270_26 {b c : Nat} {m : Int32} {f : xw} (hc : c < 14) (em : I 127 (50 + 14 * c + 3) = m) (hp : ∀ (C' : xw) (u : Value), (∀ j, j < c → C' j = f j) → ∀ a, C' c = a → a = cin m f c 0 (nI 1) → xq_wp (d + 1) 270 (xq_s g J (xh142 I C')) 12 [.ref 126, .int (nI b), .int (nI (c + 1)), u] [] Q) : ∀ (t e : Nat) (C : xw), e + t = c → (∀ j, j < c → C j = f j) → cin m f t e (C c) = cin m f c 0 (nI 1) → xq_wp (d + 1) 270 (xq_s g J (xh142 I C)) 26 [.ref 126, .int (nI b), .int (nI c), .int (nI e)] [] Q := by
  intro t
  induction t with
  | zero => intro e C he hf ha; exact zm_270_26 (d := d) ⟨by omega, by omega, fun z => by omega, fun _ => hp C _ hf _ rfl ha⟩
  | succ t ih =>
    intro e C he hf ha
    simp only [cin] at ha
    refine zm_270_26 (d := d) ⟨by omega, by omega, fun _ => ⟨by omega, fun z => ⟨hc, by omega, ?_⟩, fun z => ?_⟩, fun z => by omega⟩
    · rw [em] at z
      rw [if_pos z, ← hf e (by omega)] at ha
      exact ih (e + 1) _ (by omega) (fun j hj => by rw [upd_ne (by omega)]; exact hf j hj) (by rw [upd_eq]; exact ha)
    · rw [em] at z
      rw [if_neg z] at ha
      exact ih (e + 1) C (by omega) hf ha
theorem zl_270 {b : Nat} (hb : b < 14) (hp : ∀ C' : xw, Q (some (.int (cch (I 127) (b + 1) b))) (xq_s g J (xh142 I C'))) : ∀ (t c : Nat) (C : xw) (u : Value), c + t = b + 1 → (∀ j, j < c → C j = cch (I 127) c j) → xq_wp (d + 1) 270 (xq_s g J (xh142 I C)) 12 [.ref 126, .int (nI b), .int (nI c), u] [] Q := by
  intro t
  induction t with
  | zero =>
    intro c C u e hf
    have : c = b + 1 := by omega
    subst this
    refine zm_270_12 (d := d + 1) ⟨by omega, by omega, fun _ => ⟨hb, ?_⟩, fun z => by omega⟩
    rw [hf b (by omega)]
    exact hp C
  | succ t ih =>
    intro c C u e hf
    refine zm_270_12 (d := d + 1) ⟨by omega, by omega, fun z => by omega, fun _ => ⟨by omega, ?_⟩⟩
    refine zl_270_26 (d := d) (m := I 127 (50 + 14 * c + 3)) (f := cch (I 127) c) (by omega) rfl (fun C' u' hf' a ea ha => ih (c + 1) C' u' (by omega) (fun j hj => ?_)) c 0 _ (by omega) (fun j hj => by rw [upd_ne (by omega)]; exact hf j hj) (by rw [upd_eq])
    by_cases ej : j = c
    · subst ej; rw [cch, upd_eq, ea, ha]
    · rw [cch_lt (by omega)]; exact hf' j (by omega)
theorem up_self (I : Nat → xw) (a : Nat) : va_up I a (I a) = I := by
  funext j
  by_cases e : j = a
  · subst e; rw [xv_eq]
  · rw [xv_ne e]
theorem P22 : xq_P22 126 Inv := by
  intro b
  refine pair_of (fun g J I hi => ?_)
  have hi' := hi
  obtain ⟨n, ns, ⟨ho, hw, hbk, hC, h32, h29⟩, hT, hrest⟩ := hi'
  have n14 := ho.1.2.1
  have e0 : I 2 0 = nI n := (CR_G hC).1.trans ho.1.1
  have es : ∀ a, va_up I a (I a) = I := up_self I
  by_cases hb : ¬ b < nI 0 ∧ b < nI n
  · obtain ⟨k, hk, ek⟩ := i_nat hb.1 hb.2 (by omega)
    subst ek
    obtain ⟨q1, q2, q3⟩ := i_in hk (by omega)
    refine zc_139 (d := 89) ⟨fun z => absurd z q1, fun _ => ⟨fun _ => ?_, fun z => absurd (by rw [e0]; exact q3) z⟩⟩
    refine xq_wp.go (k := 2) (fun F => rfl) ?_
    have e1 : xq_s g J I = xq_s g J (xh55 I (I 55)) := by rw [xh55, es]
    rw [e1]
    refine zl_140 (d := 88) (W := I 127) (by omega) (fun c hc => ((CR_G hC).2.2.1 c (by omega)).2.2) (fun C' => xq_wp.ret (k := 2) (fun F => rfl) ⟨_, g, J, xh55 I C', rfl, rfl, ⟨_, rfl⟩, ?_⟩) (k + 1) 0 _ _ (by omega) (fun j hj => by omega)
    have o : ∀ a, ¬ a = 55 → xh55 I C' a = I a := fun a ha => xv_ne ha
    refine zm_270 (d := 88) ⟨fun z => absurd z q1, fun _ => ⟨fun z => ?_, fun _ => ?_⟩⟩
    · rw [o 127 (by omega), ho.1.1] at z; exact absurd z q2
    · refine xq_wp.go (k := 2) (fun F => rfl) ?_
      have e2 : xq_s g J (xh55 I C') = xq_s g J (xh142 (xh55 I C') (xh55 I C' 142)) := by rw [xh142, up_self]
      rw [e2]
      refine zl_270 (d := 89) (by omega) (fun C2 => ⟨?_, g, J, _, rfl, ?_⟩) (k + 1) 0 _ _ (by omega) (fun j hj => by omega)
      · rw [o 127 (by omega)]
      · have o2 : ∀ a, ¬ a = 55 → ¬ a = 142 → xh142 (xh55 I C') C2 a = I a := fun a h1 h2 => by rw [xh142, xv_ne h2, o a h1]
        obtain ⟨n2, ns2, hA2, hT2, hP2, hR2, hS2, hH2, hK2, hJ2⟩ := hi
        refine iv_scr2 ⟨n2, ns2, hA2, hT2, hP2, hR2, hS2, hH2, hK2, hJ2⟩ (fun a h1 h2 => o2 a h1 h2)
  · refine zc_139 (d := 89) ⟨fun z => ⟨_, g, J, I, rfl, rfl, ⟨_, rfl⟩, ?_⟩, fun z => ⟨fun z2 => absurd ⟨z, by rw [← e0]; exact z2⟩ hb, fun z2 => ⟨_, g, J, I, rfl, rfl, ⟨_, rfl⟩, ?_⟩⟩⟩
    all_goals
      refine zm_270 (d := 88) ⟨fun z => ⟨rfl, g, J, I, rfl, hi⟩, fun z => ⟨fun z2 => ⟨rfl, g, J, I, rfl, hi⟩, fun z2 => ?_⟩⟩
      rw [ho.1.1] at z2
      exact absurd (i_out (fun y => hb ⟨z, y⟩) (by omega)) z2
end xk_pr4
