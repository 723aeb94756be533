/-! the class's rows that a week writes: the site's nine, the works' two, the book's five, the law's stack and what it knows -/
def xidl (q : Bool) : List Nat := if q then [18, 19, 20, 21, 22, 23, 24, 25, 26, 32, 33, 27, 28, 29, 30, 31, 12, 13] else [35, 36, 37, 38, 39, 40, 41, 42, 43, 46, 52, 47, 48, 49, 50, 51, 12, 13]
def xid (q : Bool) (i : Nat) : Nat := (xidl q).getD i 0
def xc (q : Bool) (I : Nat → xw) (R : Nat → xw) : Nat → xw := va_up (va_up (va_up (va_up (va_up (va_up (va_up (va_up (va_up (va_up (va_up (va_up (va_up (va_up (va_up (va_up (va_up (va_up I (xid q 0) (R 0)) (xid q 1) (R 1)) (xid q 2) (R 2)) (xid q 3) (R 3)) (xid q 4) (R 4)) (xid q 5) (R 5)) (xid q 6) (R 6)) (xid q 7) (R 7)) (xid q 8) (R 8)) (xid q 9) (R 9)) (xid q 10) (R 10)) (xid q 11) (R 11)) (xid q 12) (R 12)) (xid q 13) (R 13)) (xid q 14) (R 14)) (xid q 15) (R 15)) (xid q 16) (R 16)) (xid q 17) (R 17)
def xcR (q : Bool) (I : Nat → xw) : Nat → xw := fun i => I (xid q i)
theorem xv_eq {α : Type} {f : Nat → α} {k : Nat} {v : α} : va_up f k v k = v := by simp only [va_up, if_true]
theorem xv_ne {α : Type} {f : Nat → α} {k j : Nat} {v : α} (h : ¬ j = k) : va_up f k v j = f j := by simp only [va_up, if_neg h]
theorem xc_out {q : Bool} {I R : Nat → xw} {a : Nat} (h : ∀ i, i < 18 → ¬ a = xid q i) : xc q I R a = I a := by
  unfold xc
  rw [xv_ne (h 17 (by omega)), xv_ne (h 16 (by omega)), xv_ne (h 15 (by omega)), xv_ne (h 14 (by omega)), xv_ne (h 13 (by omega)), xv_ne (h 12 (by omega)), xv_ne (h 11 (by omega)), xv_ne (h 10 (by omega)), xv_ne (h 9 (by omega)), xv_ne (h 8 (by omega)), xv_ne (h 7 (by omega)), xv_ne (h 6 (by omega)), xv_ne (h 5 (by omega)), xv_ne (h 4 (by omega)), xv_ne (h 3 (by omega)), xv_ne (h 2 (by omega)), xv_ne (h 1 (by omega)), xv_ne (h 0 (by omega))]
theorem xc_in {q : Bool} {I R : Nat → xw} : ∀ i, i < 18 → xc q I R (xid q i) = R i := by
  intro i hi
  match i, hi with
  | 0, _ => cases q <;> rfl
  | 1, _ => cases q <;> rfl
  | 2, _ => cases q <;> rfl
  | 3, _ => cases q <;> rfl
  | 4, _ => cases q <;> rfl
  | 5, _ => cases q <;> rfl
  | 6, _ => cases q <;> rfl
  | 7, _ => cases q <;> rfl
  | 8, _ => cases q <;> rfl
  | 9, _ => cases q <;> rfl
  | 10, _ => cases q <;> rfl
  | 11, _ => cases q <;> rfl
  | 12, _ => cases q <;> rfl
  | 13, _ => cases q <;> rfl
  | 14, _ => cases q <;> rfl
  | 15, _ => cases q <;> rfl
  | 16, _ => cases q <;> rfl
  | 17, _ => cases q <;> rfl
  | k + 18, h => exact absurd h (by omega)
theorem xid_inj0 {q : Bool} : ∀ i, i < 18 → ∀ j, j < 18 → xid q i = xid q j → i = j := by
  cases q <;> decide
theorem xid_inj {q : Bool} (i j : Nat) (hi : i < 18) (hj : j < 18) (e : xid q i = xid q j) : i = j := xid_inj0 i hi j hj e
theorem xc_ext {q : Bool} {I R : Nat → xw} {f : Nat → xw} (h1 : ∀ i, i < 18 → f (xid q i) = R i) (h2 : ∀ a, (∀ i, i < 18 → ¬ a = xid q i) → f a = I a) : f = xc q I R := by
  funext a
  by_cases h : ∃ i, i < 18 ∧ a = xid q i
  · obtain ⟨i, hi, e⟩ := h
    subst e
    rw [h1 i hi, xc_in i hi]
  · have h : ∀ i, i < 18 → ¬ a = xid q i := fun i hi e => h ⟨i, hi, e⟩
    rw [h2 a h, xc_out h]
theorem xc_w (q : Bool) (i : Nat) {I R : Nat → xw} {j : Nat} {v : Int32} (hi : decide (i < 18) = true := by rfl) : xq_w (xc q I R) (xid q i) j v = xc q I (xq_w R i j v) := by
  have hi := of_decide_eq_true hi
  refine xc_ext (fun k hk => ?_) (fun a ha => ?_)
  · by_cases e : k = i
    · subst e
      rw [xq_w, xv_eq, xc_in _ hi, xq_w, xv_eq]
    · rw [xq_w, xv_ne (fun z => e (xid_inj _ _ hk hi z)), xc_in _ hk, xq_w, xv_ne e]
  · rw [xq_w, xv_ne (ha i hi), xc_out ha]
theorem xc_self {q : Bool} {I : Nat → xw} : I = xc q I (xcR q I) := xc_ext (fun _ _ => rfl) (fun _ _ => rfl)
theorem xc_xc {q : Bool} {I R R' : Nat → xw} : xc q (xc q I R) R' = xc q I R' := xc_ext (fun i hi => xc_in i hi) (fun a ha => by rw [xc_out ha, xc_out ha])
