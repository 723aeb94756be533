/-! weeks, undo: the ring of sites -/
section yk_rg
variable {d : Nat} {g : xq_V} {J : Nat → Nat → Int64} {I : Nat → Nat → Int32} {Q : Option Value → xq_S → Prop} {c : Nat} {ln : Int32}
theorem sh_59 {I : Nat → xw} : shS (xq_s g J I) 59 := by
  refine ⟨fun j hj => ?_, fun j hj => ?_⟩
  · match j, hj with
    | 0, _ | 1, _ | 2, _ | 3, _ | 4, _ | 5, _ | 6, _ | 7, _ | 8, _ => exact ⟨by show _ < g.1 + 143; omega, rfl⟩
    | j + 9, h => exact absurd h (by omega)
  · match j, hj with
    | 0, _ | 1, _ | 2, _ | 3, _ | 4, _ | 5, _ | 6, _ | 7, _ => rfl
    | j + 8, h => exact absurd h (by omega)
theorem sh_68 {I : Nat → xw} : shS (xq_s g J I) 68 := by
  refine ⟨fun j hj => ?_, fun j hj => ?_⟩
  · match j, hj with
    | 0, _ | 1, _ | 2, _ | 3, _ | 4, _ | 5, _ | 6, _ | 7, _ | 8, _ => exact ⟨by show _ < g.1 + 143; omega, rfl⟩
    | j + 9, h => exact absurd h (by omega)
  · match j, hj with
    | 0, _ | 1, _ | 2, _ | 3, _ | 4, _ | 5, _ | 6, _ | 7, _ => rfl
    | j + 8, h => exact absurd h (by omega)
theorem sh_77 {I : Nat → xw} : shS (xq_s g J I) 77 := by
  refine ⟨fun j hj => ?_, fun j hj => ?_⟩
  · match j, hj with
    | 0, _ | 1, _ | 2, _ | 3, _ | 4, _ | 5, _ | 6, _ | 7, _ | 8, _ => exact ⟨by show _ < g.1 + 143; omega, rfl⟩
    | j + 9, h => exact absurd h (by omega)
  · match j, hj with
    | 0, _ | 1, _ | 2, _ | 3, _ | 4, _ | 5, _ | 6, _ | 7, _ => rfl
    | j + 8, h => exact absurd h (by omega)
theorem sh_86 {I : Nat → xw} : shS (xq_s g J I) 86 := by
  refine ⟨fun j hj => ?_, fun j hj => ?_⟩
  · match j, hj with
    | 0, _ | 1, _ | 2, _ | 3, _ | 4, _ | 5, _ | 6, _ | 7, _ | 8, _ => exact ⟨by show _ < g.1 + 143; omega, rfl⟩
    | j + 9, h => exact absurd h (by omega)
  · match j, hj with
    | 0, _ | 1, _ | 2, _ | 3, _ | 4, _ | 5, _ | 6, _ | 7, _ => rfl
    | j + 8, h => exact absurd h (by omega)
theorem sh_95 {I : Nat → xw} : shS (xq_s g J I) 95 := by
  refine ⟨fun j hj => ?_, fun j hj => ?_⟩
  · match j, hj with
    | 0, _ | 1, _ | 2, _ | 3, _ | 4, _ | 5, _ | 6, _ | 7, _ | 8, _ => exact ⟨by show _ < g.1 + 143; omega, rfl⟩
    | j + 9, h => exact absurd h (by omega)
  · match j, hj with
    | 0, _ | 1, _ | 2, _ | 3, _ | 4, _ | 5, _ | 6, _ | 7, _ => rfl
    | j + 8, h => exact absurd h (by omega)
theorem min5 (h : c ≤ 5) : xq_min (nI 5) (nI c + nI 1) = nI (min 5 (c + 1)) := by
  have : c = 0 ∨ c = 1 ∨ c = 2 ∨ c = 3 ∨ c = 4 ∨ c = 5 := by omega
  rcases this with e | e | e | e | e | e <;> (subst e; decide)
theorem yl_70_0 (hc : c ≤ 5) (e3 : I 56 3 = nI c) (e2 : I 56 2 = nI 0) (hp : ∀ I' : Nat → xw, (∀ a, ¬ a = 56 → ¬ a = 58 → a < 59 + 9 * 0 ∨ 59 + 9 * 0 + 8 < a → I' a = I a) → I' 56 3 = nI (min 5 (c + 1)) → I' 56 2 = nI ((0 + 1) % 5) → I' 58 0 = ln → (∀ j, ¬ j = 0 → I' 58 j = I 58 j) → (∀ n W, n ≤ 14 → cSt n (xcR true I) W → cSt n (fun i => I' (59 + 9 * 0 + i)) W) → Q none (xq_s g J I')) : xq_wp (d + 1) 70 (xq_s g J I) 0 [.ref 56, .ref 18, .int ln] [] Q := by
  refine zc_70_0 ⟨e2, cp_71 sh_59 sh_18 (by omega) (fun I1 o a8 a9 a10 a11 a12 a13 a14 b1 b2 b3 b4 b5 b6 b7 b8 => ?_)⟩
  have o' : ∀ t, t < 59 ∨ 59 + 8 < t → I1 t = I t := o
  have o56 : I1 56 = I 56 := o' 56 (by omega)
  refine zc_70_13_0 (c := c) ⟨by rw [o56]; exact e2, by rw [o56]; exact e2, by rw [o56]; exact e3, hp _ (fun a a1 a2 a3 => ?_) ?_ ?_ ?_ (fun j hj => ?_) (fun n W hn h => ?_)⟩
  · rw [xw_i a1, xw_i a1, xw_i a2]; exact o' a (by omega)
  · rw [xw_v, min5 hc]
  · rw [xw_x (by omega), xw_v]; decide
  · rw [xw_i (by omega), xw_i (by omega), xw_v]
  · rw [xw_i (by omega), xw_i (by omega), xw_x hj]; exact congrFun (o' 58 (by omega)) j
  · have w : ∀ i, xq_w (xq_w (xq_w I1 58 0 ln) 56 2 (xq_rem (nI 1) (nI 5))) 56 3 (xq_min (nI 5) (nI c + nI 1)) (59 + 9 * 0 + i) = I1 (59 + i) := fun i => by rw [xw_i (by omega), xw_i (by omega), xw_i (by omega)]
    refine cSt_ext h hn (fun j j1 j2 => (congrFun (w 0) j).trans ?_) (fun j hj => (congrFun (w 1) j).trans (b1 j hj)) (fun j hj => (congrFun (w 2) j).trans (b2 j hj)) (fun i j i1 i2 hj => ?_) (fun j hj => (congrFun (w 8) j).trans (b8 j hj))
    · have : j = 8 ∨ j = 9 ∨ j = 10 ∨ j = 11 ∨ j = 12 ∨ j = 13 ∨ j = 14 := by omega
      rcases this with e | e | e | e | e | e | e <;> subst e
      · exact a8
      · exact a9
      · exact a10
      · exact a11
      · exact a12
      · exact a13
      · exact a14
    · have : i = 3 ∨ i = 4 ∨ i = 5 ∨ i = 6 ∨ i = 7 := by omega
      rcases this with e | e | e | e | e <;> subst e
      · exact (congrFun (w 3) j).trans (b3 j hj)
      · exact (congrFun (w 4) j).trans (b4 j hj)
      · exact (congrFun (w 5) j).trans (b5 j hj)
      · exact (congrFun (w 6) j).trans (b6 j hj)
      · exact (congrFun (w 7) j).trans (b7 j hj)
theorem yl_70_1 (hc : c ≤ 5) (e3 : I 56 3 = nI c) (e2 : I 56 2 = nI 1) (hp : ∀ I' : Nat → xw, (∀ a, ¬ a = 56 → ¬ a = 58 → a < 59 + 9 * 1 ∨ 59 + 9 * 1 + 8 < a → I' a = I a) → I' 56 3 = nI (min 5 (c + 1)) → I' 56 2 = nI ((1 + 1) % 5) → I' 58 1 = ln → (∀ j, ¬ j = 1 → I' 58 j = I 58 j) → (∀ n W, n ≤ 14 → cSt n (xcR true I) W → cSt n (fun i => I' (59 + 9 * 1 + i)) W) → Q none (xq_s g J I')) : xq_wp (d + 1) 70 (xq_s g J I) 0 [.ref 56, .ref 18, .int ln] [] Q := by
  refine zc_70_1 ⟨e2, cp_71 sh_68 sh_18 (by omega) (fun I1 o a8 a9 a10 a11 a12 a13 a14 b1 b2 b3 b4 b5 b6 b7 b8 => ?_)⟩
  have o' : ∀ t, t < 68 ∨ 68 + 8 < t → I1 t = I t := o
  have o56 : I1 56 = I 56 := o' 56 (by omega)
  refine zc_70_13_1 (c := c) ⟨by rw [o56]; exact e2, by rw [o56]; exact e2, by rw [o56]; exact e3, hp _ (fun a a1 a2 a3 => ?_) ?_ ?_ ?_ (fun j hj => ?_) (fun n W hn h => ?_)⟩
  · rw [xw_i a1, xw_i a1, xw_i a2]; exact o' a (by omega)
  · rw [xw_v, min5 hc]
  · rw [xw_x (by omega), xw_v]; decide
  · rw [xw_i (by omega), xw_i (by omega), xw_v]
  · rw [xw_i (by omega), xw_i (by omega), xw_x hj]; exact congrFun (o' 58 (by omega)) j
  · have w : ∀ i, xq_w (xq_w (xq_w I1 58 1 ln) 56 2 (xq_rem (nI 2) (nI 5))) 56 3 (xq_min (nI 5) (nI c + nI 1)) (59 + 9 * 1 + i) = I1 (68 + i) := fun i => by rw [xw_i (by omega), xw_i (by omega), xw_i (by omega)]
    refine cSt_ext h hn (fun j j1 j2 => (congrFun (w 0) j).trans ?_) (fun j hj => (congrFun (w 1) j).trans (b1 j hj)) (fun j hj => (congrFun (w 2) j).trans (b2 j hj)) (fun i j i1 i2 hj => ?_) (fun j hj => (congrFun (w 8) j).trans (b8 j hj))
    · have : j = 8 ∨ j = 9 ∨ j = 10 ∨ j = 11 ∨ j = 12 ∨ j = 13 ∨ j = 14 := by omega
      rcases this with e | e | e | e | e | e | e <;> subst e
      · exact a8
      · exact a9
      · exact a10
      · exact a11
      · exact a12
      · exact a13
      · exact a14
    · have : i = 3 ∨ i = 4 ∨ i = 5 ∨ i = 6 ∨ i = 7 := by omega
      rcases this with e | e | e | e | e <;> subst e
      · exact (congrFun (w 3) j).trans (b3 j hj)
      · exact (congrFun (w 4) j).trans (b4 j hj)
      · exact (congrFun (w 5) j).trans (b5 j hj)
      · exact (congrFun (w 6) j).trans (b6 j hj)
      · exact (congrFun (w 7) j).trans (b7 j hj)
theorem yl_70_2 (hc : c ≤ 5) (e3 : I 56 3 = nI c) (e2 : I 56 2 = nI 2) (hp : ∀ I' : Nat → xw, (∀ a, ¬ a = 56 → ¬ a = 58 → a < 59 + 9 * 2 ∨ 59 + 9 * 2 + 8 < a → I' a = I a) → I' 56 3 = nI (min 5 (c + 1)) → I' 56 2 = nI ((2 + 1) % 5) → I' 58 2 = ln → (∀ j, ¬ j = 2 → I' 58 j = I 58 j) → (∀ n W, n ≤ 14 → cSt n (xcR true I) W → cSt n (fun i => I' (59 + 9 * 2 + i)) W) → Q none (xq_s g J I')) : xq_wp (d + 1) 70 (xq_s g J I) 0 [.ref 56, .ref 18, .int ln] [] Q := by
  refine zc_70_2 ⟨e2, cp_71 sh_77 sh_18 (by omega) (fun I1 o a8 a9 a10 a11 a12 a13 a14 b1 b2 b3 b4 b5 b6 b7 b8 => ?_)⟩
  have o' : ∀ t, t < 77 ∨ 77 + 8 < t → I1 t = I t := o
  have o56 : I1 56 = I 56 := o' 56 (by omega)
  refine zc_70_13_2 (c := c) ⟨by rw [o56]; exact e2, by rw [o56]; exact e2, by rw [o56]; exact e3, hp _ (fun a a1 a2 a3 => ?_) ?_ ?_ ?_ (fun j hj => ?_) (fun n W hn h => ?_)⟩
  · rw [xw_i a1, xw_i a1, xw_i a2]; exact o' a (by omega)
  · rw [xw_v, min5 hc]
  · rw [xw_x (by omega), xw_v]; decide
  · rw [xw_i (by omega), xw_i (by omega), xw_v]
  · rw [xw_i (by omega), xw_i (by omega), xw_x hj]; exact congrFun (o' 58 (by omega)) j
  · have w : ∀ i, xq_w (xq_w (xq_w I1 58 2 ln) 56 2 (xq_rem (nI 3) (nI 5))) 56 3 (xq_min (nI 5) (nI c + nI 1)) (59 + 9 * 2 + i) = I1 (77 + i) := fun i => by rw [xw_i (by omega), xw_i (by omega), xw_i (by omega)]
    refine cSt_ext h hn (fun j j1 j2 => (congrFun (w 0) j).trans ?_) (fun j hj => (congrFun (w 1) j).trans (b1 j hj)) (fun j hj => (congrFun (w 2) j).trans (b2 j hj)) (fun i j i1 i2 hj => ?_) (fun j hj => (congrFun (w 8) j).trans (b8 j hj))
    · have : j = 8 ∨ j = 9 ∨ j = 10 ∨ j = 11 ∨ j = 12 ∨ j = 13 ∨ j = 14 := by omega
      rcases this with e | e | e | e | e | e | e <;> subst e
      · exact a8
      · exact a9
      · exact a10
      · exact a11
      · exact a12
      · exact a13
      · exact a14
    · have : i = 3 ∨ i = 4 ∨ i = 5 ∨ i = 6 ∨ i = 7 := by omega
      rcases this with e | e | e | e | e <;> subst e
      · exact (congrFun (w 3) j).trans (b3 j hj)
      · exact (congrFun (w 4) j).trans (b4 j hj)
      · exact (congrFun (w 5) j).trans (b5 j hj)
      · exact (congrFun (w 6) j).trans (b6 j hj)
      · exact (congrFun (w 7) j).trans (b7 j hj)
theorem yl_70_3 (hc : c ≤ 5) (e3 : I 56 3 = nI c) (e2 : I 56 2 = nI 3) (hp : ∀ I' : Nat → xw, (∀ a, ¬ a = 56 → ¬ a = 58 → a < 59 + 9 * 3 ∨ 59 + 9 * 3 + 8 < a → I' a = I a) → I' 56 3 = nI (min 5 (c + 1)) → I' 56 2 = nI ((3 + 1) % 5) → I' 58 3 = ln → (∀ j, ¬ j = 3 → I' 58 j = I 58 j) → (∀ n W, n ≤ 14 → cSt n (xcR true I) W → cSt n (fun i => I' (59 + 9 * 3 + i)) W) → Q none (xq_s g J I')) : xq_wp (d + 1) 70 (xq_s g J I) 0 [.ref 56, .ref 18, .int ln] [] Q := by
  refine zc_70_3 ⟨e2, cp_71 sh_86 sh_18 (by omega) (fun I1 o a8 a9 a10 a11 a12 a13 a14 b1 b2 b3 b4 b5 b6 b7 b8 => ?_)⟩
  have o' : ∀ t, t < 86 ∨ 86 + 8 < t → I1 t = I t := o
  have o56 : I1 56 = I 56 := o' 56 (by omega)
  refine zc_70_13_3 (c := c) ⟨by rw [o56]; exact e2, by rw [o56]; exact e2, by rw [o56]; exact e3, hp _ (fun a a1 a2 a3 => ?_) ?_ ?_ ?_ (fun j hj => ?_) (fun n W hn h => ?_)⟩
  · rw [xw_i a1, xw_i a1, xw_i a2]; exact o' a (by omega)
  · rw [xw_v, min5 hc]
  · rw [xw_x (by omega), xw_v]; decide
  · rw [xw_i (by omega), xw_i (by omega), xw_v]
  · rw [xw_i (by omega), xw_i (by omega), xw_x hj]; exact congrFun (o' 58 (by omega)) j
  · have w : ∀ i, xq_w (xq_w (xq_w I1 58 3 ln) 56 2 (xq_rem (nI 4) (nI 5))) 56 3 (xq_min (nI 5) (nI c + nI 1)) (59 + 9 * 3 + i) = I1 (86 + i) := fun i => by rw [xw_i (by omega), xw_i (by omega), xw_i (by omega)]
    refine cSt_ext h hn (fun j j1 j2 => (congrFun (w 0) j).trans ?_) (fun j hj => (congrFun (w 1) j).trans (b1 j hj)) (fun j hj => (congrFun (w 2) j).trans (b2 j hj)) (fun i j i1 i2 hj => ?_) (fun j hj => (congrFun (w 8) j).trans (b8 j hj))
    · have : j = 8 ∨ j = 9 ∨ j = 10 ∨ j = 11 ∨ j = 12 ∨ j = 13 ∨ j = 14 := by omega
      rcases this with e | e | e | e | e | e | e <;> subst e
      · exact a8
      · exact a9
      · exact a10
      · exact a11
      · exact a12
      · exact a13
      · exact a14
    · have : i = 3 ∨ i = 4 ∨ i = 5 ∨ i = 6 ∨ i = 7 := by omega
      rcases this with e | e | e | e | e <;> subst e
      · exact (congrFun (w 3) j).trans (b3 j hj)
      · exact (congrFun (w 4) j).trans (b4 j hj)
      · exact (congrFun (w 5) j).trans (b5 j hj)
      · exact (congrFun (w 6) j).trans (b6 j hj)
      · exact (congrFun (w 7) j).trans (b7 j hj)
theorem yl_70_4 (hc : c ≤ 5) (e3 : I 56 3 = nI c) (e2 : I 56 2 = nI 4) (hp : ∀ I' : Nat → xw, (∀ a, ¬ a = 56 → ¬ a = 58 → a < 59 + 9 * 4 ∨ 59 + 9 * 4 + 8 < a → I' a = I a) → I' 56 3 = nI (min 5 (c + 1)) → I' 56 2 = nI ((4 + 1) % 5) → I' 58 4 = ln → (∀ j, ¬ j = 4 → I' 58 j = I 58 j) → (∀ n W, n ≤ 14 → cSt n (xcR true I) W → cSt n (fun i => I' (59 + 9 * 4 + i)) W) → Q none (xq_s g J I')) : xq_wp (d + 1) 70 (xq_s g J I) 0 [.ref 56, .ref 18, .int ln] [] Q := by
  refine zc_70_4 ⟨e2, cp_71 sh_95 sh_18 (by omega) (fun I1 o a8 a9 a10 a11 a12 a13 a14 b1 b2 b3 b4 b5 b6 b7 b8 => ?_)⟩
  have o' : ∀ t, t < 95 ∨ 95 + 8 < t → I1 t = I t := o
  have o56 : I1 56 = I 56 := o' 56 (by omega)
  refine zc_70_13_4 (c := c) ⟨by rw [o56]; exact e2, by rw [o56]; exact e2, by rw [o56]; exact e3, hp _ (fun a a1 a2 a3 => ?_) ?_ ?_ ?_ (fun j hj => ?_) (fun n W hn h => ?_)⟩
  · rw [xw_i a1, xw_i a1, xw_i a2]; exact o' a (by omega)
  · rw [xw_v, min5 hc]
  · rw [xw_x (by omega), xw_v]; decide
  · rw [xw_i (by omega), xw_i (by omega), xw_v]
  · rw [xw_i (by omega), xw_i (by omega), xw_x hj]; exact congrFun (o' 58 (by omega)) j
  · have w : ∀ i, xq_w (xq_w (xq_w I1 58 4 ln) 56 2 (xq_rem (nI 5) (nI 5))) 56 3 (xq_min (nI 5) (nI c + nI 1)) (59 + 9 * 4 + i) = I1 (95 + i) := fun i => by rw [xw_i (by omega), xw_i (by omega), xw_i (by omega)]
    refine cSt_ext h hn (fun j j1 j2 => (congrFun (w 0) j).trans ?_) (fun j hj => (congrFun (w 1) j).trans (b1 j hj)) (fun j hj => (congrFun (w 2) j).trans (b2 j hj)) (fun i j i1 i2 hj => ?_) (fun j hj => (congrFun (w 8) j).trans (b8 j hj))
    · have : j = 8 ∨ j = 9 ∨ j = 10 ∨ j = 11 ∨ j = 12 ∨ j = 13 ∨ j = 14 := by omega
      rcases this with e | e | e | e | e | e | e <;> subst e
      · exact a8
      · exact a9
      · exact a10
      · exact a11
      · exact a12
      · exact a13
      · exact a14
    · have : i = 3 ∨ i = 4 ∨ i = 5 ∨ i = 6 ∨ i = 7 := by omega
      rcases this with e | e | e | e | e <;> subst e
      · exact (congrFun (w 3) j).trans (b3 j hj)
      · exact (congrFun (w 4) j).trans (b4 j hj)
      · exact (congrFun (w 5) j).trans (b5 j hj)
      · exact (congrFun (w 6) j).trans (b6 j hj)
      · exact (congrFun (w 7) j).trans (b7 j hj)
theorem yl_70 {r : Nat} (hr : r < 5) (hc : c ≤ 5) (e3 : I 56 3 = nI c) (e2 : I 56 2 = nI r) (hp : ∀ I' : Nat → xw, (∀ a, ¬ a = 56 → ¬ a = 58 → a < 59 + 9 * r ∨ 59 + 9 * r + 8 < a → I' a = I a) → I' 56 3 = nI (min 5 (c + 1)) → I' 56 2 = nI ((r + 1) % 5) → I' 58 r = ln → (∀ j, ¬ j = r → I' 58 j = I 58 j) → (∀ n W, n ≤ 14 → cSt n (xcR true I) W → cSt n (fun i => I' (59 + 9 * r + i)) W) → Q none (xq_s g J I')) : xq_wp (d + 1) 70 (xq_s g J I) 0 [.ref 56, .ref 18, .int ln] [] Q :=
  match r, hr with
  | 0, _ => yl_70_0 hc e3 e2 hp
  | 1, _ => yl_70_1 hc e3 e2 hp
  | 2, _ => yl_70_2 hc e3 e2 hp
  | 3, _ => yl_70_3 hc e3 e2 hp
  | 4, _ => yl_70_4 hc e3 e2 hp
  | r + 5, h => absurd h (by omega)
theorem yl_152_0 (h1 : 1 ≤ c) (e3 : I 56 3 = nI c) (e2 : I 56 2 = nI 0) (hp : ∀ I' : Nat → xw, (∀ a, ¬ a = 56 → a < 18 ∨ 26 < a → I' a = I a) → I' 56 3 = nI (c - 1) → I' 56 2 = nI ((0 + 4) % 5) → (∀ n W, n ≤ 14 → cSt n (fun i => I (59 + 9 * ((0 + 4) % 5) + i)) W → cSt n (xcR true I') W) → Q (some (.int (I 58 ((0 + 4) % 5)))) (xq_s g J I')) : xq_wp (d + 1) 152 (xq_s g J I) 0 [.ref 56, .ref 18] [] Q := by
  refine zc_152_0 (r := 0) ⟨e2, by omega, e3, h1, by decide, cp_71 sh_18 sh_95 (by omega) (fun I1 o a8 a9 a10 a11 a12 a13 a14 b1 b2 b3 b4 b5 b6 b7 b8 => ?_)⟩
  have o' : ∀ t, t < 18 ∨ 18 + 8 < t → I1 t = xq_w (xq_w I 56 2 (xq_rem (nI (0 + 5 - 1)) (nI 5))) 56 3 (nI (c - 1)) t := o
  have f2 : I1 56 2 = nI 4 := by rw [o' 56 (by omega), xw_x (by omega), xw_v]; decide
  refine zc_152_37_4 (d := d + 1) ⟨f2, ?_⟩
  have e58 : I1 58 4 = I 58 4 := by rw [o' 58 (by omega), xw_i (by omega), xw_i (by omega)]
  rw [e58]
  refine hp I1 (fun a a1 a2 => ?_) ?_ f2 (fun n W hn h => ?_)
  · rw [o' a (by omega), xw_i a1, xw_i a1]
  · rw [o' 56 (by omega), xw_v]
  · have w : ∀ i, xq_w (xq_w I 56 2 (xq_rem (nI (0 + 5 - 1)) (nI 5))) 56 3 (nI (c - 1)) (95 + i) = I (59 + 9 * ((0 + 4) % 5) + i) := fun i => by rw [xw_i (by omega), xw_i (by omega)]
    refine cSt_ext h hn (fun j j1 j2 => Eq.trans ?_ (congrFun (w 0) j)) (fun j hj => (b1 j hj).trans (congrFun (w 1) j)) (fun j hj => (b2 j hj).trans (congrFun (w 2) j)) (fun i j i1 i2 hj => ?_) (fun j hj => (b8 j hj).trans (congrFun (w 8) j))
    · have : j = 8 ∨ j = 9 ∨ j = 10 ∨ j = 11 ∨ j = 12 ∨ j = 13 ∨ j = 14 := by omega
      rcases this with e | e | e | e | e | e | e <;> subst e
      · exact a8
      · exact a9
      · exact a10
      · exact a11
      · exact a12
      · exact a13
      · exact a14
    · have : i = 3 ∨ i = 4 ∨ i = 5 ∨ i = 6 ∨ i = 7 := by omega
      rcases this with e | e | e | e | e <;> subst e
      · exact (b3 j hj).trans (congrFun (w 3) j)
      · exact (b4 j hj).trans (congrFun (w 4) j)
      · exact (b5 j hj).trans (congrFun (w 5) j)
      · exact (b6 j hj).trans (congrFun (w 6) j)
      · exact (b7 j hj).trans (congrFun (w 7) j)
theorem yl_152_1 (h1 : 1 ≤ c) (e3 : I 56 3 = nI c) (e2 : I 56 2 = nI 1) (hp : ∀ I' : Nat → xw, (∀ a, ¬ a = 56 → a < 18 ∨ 26 < a → I' a = I a) → I' 56 3 = nI (c - 1) → I' 56 2 = nI ((1 + 4) % 5) → (∀ n W, n ≤ 14 → cSt n (fun i => I (59 + 9 * ((1 + 4) % 5) + i)) W → cSt n (xcR true I') W) → Q (some (.int (I 58 ((1 + 4) % 5)))) (xq_s g J I')) : xq_wp (d + 1) 152 (xq_s g J I) 0 [.ref 56, .ref 18] [] Q := by
  refine zc_152_1 (r := 1) ⟨e2, by omega, e3, h1, by decide, cp_71 sh_18 sh_59 (by omega) (fun I1 o a8 a9 a10 a11 a12 a13 a14 b1 b2 b3 b4 b5 b6 b7 b8 => ?_)⟩
  have o' : ∀ t, t < 18 ∨ 18 + 8 < t → I1 t = xq_w (xq_w I 56 2 (xq_rem (nI (1 + 5 - 1)) (nI 5))) 56 3 (nI (c - 1)) t := o
  have f2 : I1 56 2 = nI 0 := by rw [o' 56 (by omega), xw_x (by omega), xw_v]; decide
  refine zc_152_37_0 (d := d + 1) ⟨f2, ?_⟩
  have e58 : I1 58 0 = I 58 0 := by rw [o' 58 (by omega), xw_i (by omega), xw_i (by omega)]
  rw [e58]
  refine hp I1 (fun a a1 a2 => ?_) ?_ f2 (fun n W hn h => ?_)
  · rw [o' a (by omega), xw_i a1, xw_i a1]
  · rw [o' 56 (by omega), xw_v]
  · have w : ∀ i, xq_w (xq_w I 56 2 (xq_rem (nI (1 + 5 - 1)) (nI 5))) 56 3 (nI (c - 1)) (59 + i) = I (59 + 9 * ((1 + 4) % 5) + i) := fun i => by rw [xw_i (by omega), xw_i (by omega)]
    refine cSt_ext h hn (fun j j1 j2 => Eq.trans ?_ (congrFun (w 0) j)) (fun j hj => (b1 j hj).trans (congrFun (w 1) j)) (fun j hj => (b2 j hj).trans (congrFun (w 2) j)) (fun i j i1 i2 hj => ?_) (fun j hj => (b8 j hj).trans (congrFun (w 8) j))
    · have : j = 8 ∨ j = 9 ∨ j = 10 ∨ j = 11 ∨ j = 12 ∨ j = 13 ∨ j = 14 := by omega
      rcases this with e | e | e | e | e | e | e <;> subst e
      · exact a8
      · exact a9
      · exact a10
      · exact a11
      · exact a12
      · exact a13
      · exact a14
    · have : i = 3 ∨ i = 4 ∨ i = 5 ∨ i = 6 ∨ i = 7 := by omega
      rcases this with e | e | e | e | e <;> subst e
      · exact (b3 j hj).trans (congrFun (w 3) j)
      · exact (b4 j hj).trans (congrFun (w 4) j)
      · exact (b5 j hj).trans (congrFun (w 5) j)
      · exact (b6 j hj).trans (congrFun (w 6) j)
      · exact (b7 j hj).trans (congrFun (w 7) j)
theorem yl_152_2 (h1 : 1 ≤ c) (e3 : I 56 3 = nI c) (e2 : I 56 2 = nI 2) (hp : ∀ I' : Nat → xw, (∀ a, ¬ a = 56 → a < 18 ∨ 26 < a → I' a = I a) → I' 56 3 = nI (c - 1) → I' 56 2 = nI ((2 + 4) % 5) → (∀ n W, n ≤ 14 → cSt n (fun i => I (59 + 9 * ((2 + 4) % 5) + i)) W → cSt n (xcR true I') W) → Q (some (.int (I 58 ((2 + 4) % 5)))) (xq_s g J I')) : xq_wp (d + 1) 152 (xq_s g J I) 0 [.ref 56, .ref 18] [] Q := by
  refine zc_152_2 (r := 2) ⟨e2, by omega, e3, h1, by decide, cp_71 sh_18 sh_68 (by omega) (fun I1 o a8 a9 a10 a11 a12 a13 a14 b1 b2 b3 b4 b5 b6 b7 b8 => ?_)⟩
  have o' : ∀ t, t < 18 ∨ 18 + 8 < t → I1 t = xq_w (xq_w I 56 2 (xq_rem (nI (2 + 5 - 1)) (nI 5))) 56 3 (nI (c - 1)) t := o
  have f2 : I1 56 2 = nI 1 := by rw [o' 56 (by omega), xw_x (by omega), xw_v]; decide
  refine zc_152_37_1 (d := d + 1) ⟨f2, ?_⟩
  have e58 : I1 58 1 = I 58 1 := by rw [o' 58 (by omega), xw_i (by omega), xw_i (by omega)]
  rw [e58]
  refine hp I1 (fun a a1 a2 => ?_) ?_ f2 (fun n W hn h => ?_)
  · rw [o' a (by omega), xw_i a1, xw_i a1]
  · rw [o' 56 (by omega), xw_v]
  · have w : ∀ i, xq_w (xq_w I 56 2 (xq_rem (nI (2 + 5 - 1)) (nI 5))) 56 3 (nI (c - 1)) (68 + i) = I (59 + 9 * ((2 + 4) % 5) + i) := fun i => by rw [xw_i (by omega), xw_i (by omega)]
    refine cSt_ext h hn (fun j j1 j2 => Eq.trans ?_ (congrFun (w 0) j)) (fun j hj => (b1 j hj).trans (congrFun (w 1) j)) (fun j hj => (b2 j hj).trans (congrFun (w 2) j)) (fun i j i1 i2 hj => ?_) (fun j hj => (b8 j hj).trans (congrFun (w 8) j))
    · have : j = 8 ∨ j = 9 ∨ j = 10 ∨ j = 11 ∨ j = 12 ∨ j = 13 ∨ j = 14 := by omega
      rcases this with e | e | e | e | e | e | e <;> subst e
      · exact a8
      · exact a9
      · exact a10
      · exact a11
      · exact a12
      · exact a13
      · exact a14
    · have : i = 3 ∨ i = 4 ∨ i = 5 ∨ i = 6 ∨ i = 7 := by omega
      rcases this with e | e | e | e | e <;> subst e
      · exact (b3 j hj).trans (congrFun (w 3) j)
      · exact (b4 j hj).trans (congrFun (w 4) j)
      · exact (b5 j hj).trans (congrFun (w 5) j)
      · exact (b6 j hj).trans (congrFun (w 6) j)
      · exact (b7 j hj).trans (congrFun (w 7) j)
theorem yl_152_3 (h1 : 1 ≤ c) (e3 : I 56 3 = nI c) (e2 : I 56 2 = nI 3) (hp : ∀ I' : Nat → xw, (∀ a, ¬ a = 56 → a < 18 ∨ 26 < a → I' a = I a) → I' 56 3 = nI (c - 1) → I' 56 2 = nI ((3 + 4) % 5) → (∀ n W, n ≤ 14 → cSt n (fun i => I (59 + 9 * ((3 + 4) % 5) + i)) W → cSt n (xcR true I') W) → Q (some (.int (I 58 ((3 + 4) % 5)))) (xq_s g J I')) : xq_wp (d + 1) 152 (xq_s g J I) 0 [.ref 56, .ref 18] [] Q := by
  refine zc_152_3 (r := 3) ⟨e2, by omega, e3, h1, by decide, cp_71 sh_18 sh_77 (by omega) (fun I1 o a8 a9 a10 a11 a12 a13 a14 b1 b2 b3 b4 b5 b6 b7 b8 => ?_)⟩
  have o' : ∀ t, t < 18 ∨ 18 + 8 < t → I1 t = xq_w (xq_w I 56 2 (xq_rem (nI (3 + 5 - 1)) (nI 5))) 56 3 (nI (c - 1)) t := o
  have f2 : I1 56 2 = nI 2 := by rw [o' 56 (by omega), xw_x (by omega), xw_v]; decide
  refine zc_152_37_2 (d := d + 1) ⟨f2, ?_⟩
  have e58 : I1 58 2 = I 58 2 := by rw [o' 58 (by omega), xw_i (by omega), xw_i (by omega)]
  rw [e58]
  refine hp I1 (fun a a1 a2 => ?_) ?_ f2 (fun n W hn h => ?_)
  · rw [o' a (by omega), xw_i a1, xw_i a1]
  · rw [o' 56 (by omega), xw_v]
  · have w : ∀ i, xq_w (xq_w I 56 2 (xq_rem (nI (3 + 5 - 1)) (nI 5))) 56 3 (nI (c - 1)) (77 + i) = I (59 + 9 * ((3 + 4) % 5) + i) := fun i => by rw [xw_i (by omega), xw_i (by omega)]
    refine cSt_ext h hn (fun j j1 j2 => Eq.trans ?_ (congrFun (w 0) j)) (fun j hj => (b1 j hj).trans (congrFun (w 1) j)) (fun j hj => (b2 j hj).trans (congrFun (w 2) j)) (fun i j i1 i2 hj => ?_) (fun j hj => (b8 j hj).trans (congrFun (w 8) j))
    · have : j = 8 ∨ j = 9 ∨ j = 10 ∨ j = 11 ∨ j = 12 ∨ j = 13 ∨ j = 14 := by omega
      rcases this with e | e | e | e | e | e | e <;> subst e
      · exact a8
      · exact a9
      · exact a10
      · exact a11
      · exact a12
      · exact a13
      · exact a14
    · have : i = 3 ∨ i = 4 ∨ i = 5 ∨ i = 6 ∨ i = 7 := by omega
      rcases this with e | e | e | e | e <;> subst e
      · exact (b3 j hj).trans (congrFun (w 3) j)
      · exact (b4 j hj).trans (congrFun (w 4) j)
      · exact (b5 j hj).trans (congrFun (w 5) j)
      · exact (b6 j hj).trans (congrFun (w 6) j)
      · exact (b7 j hj).trans (congrFun (w 7) j)
theorem yl_152_4 (h1 : 1 ≤ c) (e3 : I 56 3 = nI c) (e2 : I 56 2 = nI 4) (hp : ∀ I' : Nat → xw, (∀ a, ¬ a = 56 → a < 18 ∨ 26 < a → I' a = I a) → I' 56 3 = nI (c - 1) → I' 56 2 = nI ((4 + 4) % 5) → (∀ n W, n ≤ 14 → cSt n (fun i => I (59 + 9 * ((4 + 4) % 5) + i)) W → cSt n (xcR true I') W) → Q (some (.int (I 58 ((4 + 4) % 5)))) (xq_s g J I')) : xq_wp (d + 1) 152 (xq_s g J I) 0 [.ref 56, .ref 18] [] Q := by
  refine zc_152_4 (r := 4) ⟨e2, by omega, e3, h1, by decide, cp_71 sh_18 sh_86 (by omega) (fun I1 o a8 a9 a10 a11 a12 a13 a14 b1 b2 b3 b4 b5 b6 b7 b8 => ?_)⟩
  have o' : ∀ t, t < 18 ∨ 18 + 8 < t → I1 t = xq_w (xq_w I 56 2 (xq_rem (nI (4 + 5 - 1)) (nI 5))) 56 3 (nI (c - 1)) t := o
  have f2 : I1 56 2 = nI 3 := by rw [o' 56 (by omega), xw_x (by omega), xw_v]; decide
  refine zc_152_37_3 (d := d + 1) ⟨f2, ?_⟩
  have e58 : I1 58 3 = I 58 3 := by rw [o' 58 (by omega), xw_i (by omega), xw_i (by omega)]
  rw [e58]
  refine hp I1 (fun a a1 a2 => ?_) ?_ f2 (fun n W hn h => ?_)
  · rw [o' a (by omega), xw_i a1, xw_i a1]
  · rw [o' 56 (by omega), xw_v]
  · have w : ∀ i, xq_w (xq_w I 56 2 (xq_rem (nI (4 + 5 - 1)) (nI 5))) 56 3 (nI (c - 1)) (86 + i) = I (59 + 9 * ((4 + 4) % 5) + i) := fun i => by rw [xw_i (by omega), xw_i (by omega)]
    refine cSt_ext h hn (fun j j1 j2 => Eq.trans ?_ (congrFun (w 0) j)) (fun j hj => (b1 j hj).trans (congrFun (w 1) j)) (fun j hj => (b2 j hj).trans (congrFun (w 2) j)) (fun i j i1 i2 hj => ?_) (fun j hj => (b8 j hj).trans (congrFun (w 8) j))
    · have : j = 8 ∨ j = 9 ∨ j = 10 ∨ j = 11 ∨ j = 12 ∨ j = 13 ∨ j = 14 := by omega
      rcases this with e | e | e | e | e | e | e <;> subst e
      · exact a8
      · exact a9
      · exact a10
      · exact a11
      · exact a12
      · exact a13
      · exact a14
    · have : i = 3 ∨ i = 4 ∨ i = 5 ∨ i = 6 ∨ i = 7 := by omega
      rcases this with e | e | e | e | e <;> subst e
      · exact (b3 j hj).trans (congrFun (w 3) j)
      · exact (b4 j hj).trans (congrFun (w 4) j)
      · exact (b5 j hj).trans (congrFun (w 5) j)
      · exact (b6 j hj).trans (congrFun (w 6) j)
      · exact (b7 j hj).trans (congrFun (w 7) j)
theorem yl_152 {r : Nat} (hr : r < 5) (h1 : 1 ≤ c) (e3 : I 56 3 = nI c) (e2 : I 56 2 = nI r) (hp : ∀ I' : Nat → xw, (∀ a, ¬ a = 56 → a < 18 ∨ 26 < a → I' a = I a) → I' 56 3 = nI (c - 1) → I' 56 2 = nI ((r + 4) % 5) → (∀ n W, n ≤ 14 → cSt n (fun i => I (59 + 9 * ((r + 4) % 5) + i)) W → cSt n (xcR true I') W) → Q (some (.int (I 58 ((r + 4) % 5)))) (xq_s g J I')) : xq_wp (d + 1) 152 (xq_s g J I) 0 [.ref 56, .ref 18] [] Q :=
  match r, hr with
  | 0, _ => yl_152_0 h1 e3 e2 hp
  | 1, _ => yl_152_1 h1 e3 e2 hp
  | 2, _ => yl_152_2 h1 e3 e2 hp
  | 3, _ => yl_152_3 h1 e3 e2 hp
  | 4, _ => yl_152_4 h1 e3 e2 hp
  | r + 5, h => absurd h (by omega)
end yk_rg
