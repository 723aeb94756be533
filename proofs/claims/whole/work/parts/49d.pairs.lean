/-! the pairs: can, blame -/
def cnS (n : Nat) (W : xw) : Nat → Nat → Int32 → Int32
  | 0, _, s => s
  | c + 1, b, s => cnS n W c (b + 1) (s ||| (if sp_canB n W b = true then nI 1 <<< (nI b &&& 31) else nI 0))
def bsS (W : xw) (k : Nat) : Nat → Nat → Int32 → Int32
  | 0, _, s => s
  | c + 1, b, s => bsS W k c (b + 1) (s + W (50 + 14 * b + (7 + k)))
def blS (n : Nat) (W : xw) : Nat → Nat → Int32 → Int32 → Int32 × Int32
  | 0, _, mo, wh => (mo, wh)
  | c + 1, k, mo, wh => if mo < bsS W k n 0 (nI 0) then blS n W c (k + 1) (bsS W k n 0 (nI 0)) (nI k) else blS n W c (k + 1) mo wh
def xh55 (I : Nat → xw) (C : xw) : Nat → xw := va_up I 55 C
def xh142 (I : Nat → xw) (C : xw) : Nat → xw := va_up I 142 C
section xk_pr3
variable {g : xq_V} {J : Nat → Nat → Int64} {I I' : Nat → xw} {n ns : Nat} {Q : Option Value → xq_S → Prop} {d : Nat} {R : Nat → xw} {A W P F N C : xw}
theorem xh55_55 {j : Nat} {v : Int32} : xq_w (xh55 I C) 55 j v = xh55 I (upd C j v) := by
  funext a; simp only [xq_w, xh55, va_up]; repeat' split
  all_goals simp_all
theorem xh142_142 {j : Nat} {v : Int32} : xq_w (xh142 I C) 142 j v = xh142 I (upd C j v) := by
  funext a; simp only [xq_w, xh142, va_up]; repeat' split
  all_goals simp_all
theorem zl_134 (ho : ok n ns W) (h : CR true n ns I R W) : ∀ (c b : Nat) (s : Int32), b + c = n → Q (some (.int (cnS n W c b s))) (xq_s g J (xc true I R)) → xq_wp (d + 2) 134 (xq_s g J (xc true I R)) 4 [.ref 0, .int s, .int (nI b)] [] Q := by
  have n14 := ho.1.2.1
  have e0 : I 2 0 = nI n := (CR_G h).1.trans ho.1.1
  intro c
  induction c with
  | zero => intro b s e hp; exact zc_134 (d := d) (n := n) ⟨e0, by omega, by omega, fun z => by omega, fun _ => hp⟩
  | succ c ih =>
    intro b s e hp
    have ec := CR_can ho h (show b < n by omega)
    simp only [cnS] at hp
    refine zc_134 (d := d) (n := n) ⟨e0, by omega, by omega, fun _ => ⟨by omega, fun y => ?_, fun y => ?_⟩, fun z => by omega⟩
    · rw [ec, sp_b20] at y
      rw [if_neg (by rw [y]; decide), or_0] at hp
      exact ih (b + 1) s (by omega) hp
    · rw [ec] at y
      rw [if_pos (sp_b21 y)] at hp
      exact ih (b + 1) _ (by omega) hp
theorem zl_264 (ho : ok n ns W) : ∀ (c b : Nat) (s : Int32), b + c = n → Q (some (.int (cnS n W c b s))) (xq_s g J (xm I A W P F N)) → xq_wp (d + 3) 264 (xq_s g J (xm I A W P F N)) 4 [.ref 126, .int s, .int (nI b)] [] Q := by
  have n14 := ho.1.2.1
  intro c
  induction c with
  | zero => intro b s e hp; exact zm_264 (d := d) (n := n) ⟨ho.1.1, by omega, by omega, fun z => by omega, fun _ => hp⟩
  | succ c ih =>
    intro b s e hp
    simp only [cnS] at hp
    refine zm_264 (d := d) (n := n) ⟨ho.1.1, by omega, by omega, fun _ => ⟨ho.1.1, n14, by omega, fun y => ?_, fun y => ?_⟩, fun z => by omega⟩
    · rw [sp_b20] at y
      rw [if_neg (by rw [y]; decide)] at hp
      exact ih (b + 1) _ (by omega) hp
    · rw [if_pos (sp_b21 y)] at hp
      exact ih (b + 1) _ (by omega) hp
theorem P20 : xq_P20 126 Inv := by
  refine rd_pair (fun g J I n ns hi ho hC => ⟨cnS n (I 127) n 0 (nI 0), fun Q hp => ?_, fun Q hp => ?_⟩)
  · have e : xq_s g J I = xq_s g J (xc true I (xcR true I)) := by rw [← xc_self]
    rw [e] at hp ⊢
    exact xq_wp.go (k := 4) (fun F => rfl) (zl_134 (d := 88) ho hC n 0 (nI 0) (by omega) hp)
  · have e : xq_s g J I = xq_s g J (xm I (I 126) (I 127) (I 136) (I 137) (I 138)) := by rw [xm_self]
    rw [e] at hp ⊢
    exact xq_wp.go (k := 4) (fun F => rfl) (zl_264 (d := 87) ho n 0 (nI 0) (by omega) hp)
theorem zl_144 {k : Nat} (ho : ok n ns (I 127)) (h : CR true n ns I (xcR true I) (I 127)) (hk : k < 5) : ∀ (c b : Nat) (s : Int32), b + c = n → Q (some (.int (bsS (I 127) k c b s))) (xq_s g J I) → xq_wp d 144 (xq_s g J I) 5 [.ref 18, .int (nI k), .int (nI n), .int s, .int (nI b)] [] Q := by
  have n14 := ho.1.2.1
  intro c
  induction c with
  | zero => intro b s e hp; exact zc_144 (d := d) ⟨by omega, by omega, fun z => by omega, fun _ => hp⟩
  | succ c ih =>
    intro b s e hp
    have e8 : I 26 (b * 5 + k) = I 127 (50 + 14 * b + (7 + k)) := CR_8 h rfl b k (by omega) hk
    refine zc_144 (d := d) ⟨by omega, by omega, fun _ => ⟨by omega, ?_⟩, fun z => by omega⟩
    rw [e8]
    exact ih (b + 1) _ (by omega) hp
theorem zl_143 {w : Int32} (ho : ok n ns (I 127)) (h : CR true n ns I (xcR true I) (I 127)) : ∀ (c k : Nat) (mo wh : Int32) (u : Value), k + c = 5 → Q (some (.int (if w = nI 0 then (blS n (I 127) c k mo wh).2 else if w = nI 1 then (blS n (I 127) c k mo wh).1 else Int32.ofInt (-1)))) (xq_s g J I) → xq_wp (d + 1) 143 (xq_s g J I) 7 [.ref 0, .int w, .int mo, .int wh, .int (nI k), u] [] Q := by
  have e0 : I 2 0 = nI n := (CR_G h).1.trans ho.1.1
  intro c
  induction c with
  | zero =>
    intro k mo wh u e hp
    refine zc_143 (d := d) ⟨by omega, fun z => by omega, fun _ => ⟨fun z => ?_, fun z => ⟨fun z2 => ?_, fun z2 => ?_⟩⟩⟩
    · rw [if_pos z] at hp; exact hp
    · rw [if_neg z, if_pos z2] at hp; exact hp
    · rw [if_neg z, if_neg z2] at hp; exact hp
  | succ c ih =>
    intro k mo wh u e hp
    refine zc_143 (d := d) ⟨by omega, fun _ => ?_, fun z => by omega⟩
    rw [e0]
    refine xq_wp.go (k := 4) (fun F => rfl) (zl_144 (d := d) ho h (show k < 5 by omega) n 0 (nI 0) (by omega) ?_)
    refine zc_143_35 (d := d + 1) ⟨fun z => ?_, fun z => ?_⟩
    · simp only [blS, if_pos z] at hp
      exact ih (k + 1) _ _ _ (by omega) hp
    · simp only [blS, if_neg z] at hp
      exact ih (k + 1) _ _ _ (by omega) hp
theorem zl_269_30 {w mo wh : Int32} {k : Nat} (ho : ok n ns (I 127)) (hk : k < 5) : ∀ (c b : Nat) (s : Int32), b + c = n → (∀ u6 : Value, xq_wp (d + 1) 269 (xq_s g J I) 63 [.ref 126, .int w, .int wh, .int mo, .int (nI k), .int (bsS (I 127) k c b s), u6] [] Q) → xq_wp (d + 1) 269 (xq_s g J I) 30 [.ref 126, .int w, .int wh, .int mo, .int (nI k), .int s, .int (nI b)] [] Q := by
  have n14 := ho.1.2.1
  intro c
  induction c with
  | zero => intro b s e hp; exact zm_269_30 (d := d) (n := n) ⟨ho.1.1, by omega, by omega, fun z => by omega, fun _ => hp _⟩
  | succ c ih =>
    intro b s e hp
    exact zm_269_30 (d := d) (n := n) ⟨ho.1.1, by omega, by omega, fun _ => ⟨by omega, ih (b + 1) _ (by omega) hp⟩, fun z => by omega⟩
theorem zl_269 {w : Int32} (ho : ok n ns (I 127)) : ∀ (c k : Nat) (mo wh : Int32) (u5 u6 : Value), k + c = 5 → Q (some (.int (if w = nI 0 then (blS n (I 127) c k mo wh).2 else (blS n (I 127) c k mo wh).1))) (xq_s g J I) → xq_wp (d + 1) 269 (xq_s g J I) 18 [.ref 126, .int w, .int wh, .int mo, .int (nI k), u5, u6] [] Q := by
  intro c
  induction c with
  | zero =>
    intro k mo wh u5 u6 e hp
    refine zm_269_18 (d := d + 1) ⟨by omega, fun z => by omega, fun _ => ⟨fun z => ?_, fun z => ?_⟩⟩
    · rw [if_pos z] at hp; exact hp
    · rw [if_neg z] at hp; exact hp
  | succ c ih =>
    intro k mo wh u5 u6 e hp
    refine zm_269_18 (d := d + 1) ⟨by omega, fun _ => ?_, fun z => by omega⟩
    refine zl_269_30 (d := d) ho (show k < 5 by omega) n 0 (nI 0) (by omega) (fun u6' => zm_269_63 (d := d + 1) ⟨fun z => ?_, fun z => ?_⟩)
    · simp only [blS, if_pos z] at hp
      exact ih (k + 1) _ _ _ _ (by omega) hp
    · simp only [blS, if_neg z] at hp
      exact ih (k + 1) _ _ _ _ (by omega) hp
theorem P24 : xq_P24 126 Inv := by
  intro w
  refine rd_pair (fun g J I n ns hi ho hC => ⟨if w = nI 0 then (blS n (I 127) 5 0 (nI 0) (Int32.ofInt (-1))).2 else if w = nI 1 then (blS n (I 127) 5 0 (nI 0) (Int32.ofInt (-1))).1 else Int32.ofInt (-1), fun Q hp => ?_, fun Q hp => ?_⟩)
  · exact xq_wp.go (k := 6) (fun F => rfl) (zl_143 (d := 89) ho hC 5 0 (nI 0) (Int32.ofInt (-1)) _ (by omega) hp)
  · refine zm_269 (d := 89) ⟨fun z => ?_, fun z => ⟨fun z2 => ?_, fun z2 => zl_269 (d := 89) ho 5 0 (nI 0) (Int32.ofInt (-1)) _ _ (by omega) ?_⟩⟩
    · rw [if_neg (fun y => by rw [y] at z; exact absurd z (by decide)), if_neg (fun y => by rw [y] at z; exact absurd z (by decide))] at hp
      exact hp
    · rw [if_neg (fun y => by rw [y] at z2; exact absurd z2 (by decide)), if_neg (fun y => by rw [y] at z2; exact absurd z2 (by decide))] at hp
      exact hp
    · obtain ⟨t, t1, t2, t3⟩ := i_rng z z2 (by omega) (by omega)
      by_cases e : w = nI 0
      · rw [if_pos e] at hp ⊢; exact hp
      · rw [if_neg e] at hp ⊢
        rw [if_pos (by rw [t3, show t = 1 from by rcases Nat.eq_zero_or_pos t with y | y; exact absurd (by rw [t3, y]) e; omega])] at hp
        exact hp
end xk_pr3
