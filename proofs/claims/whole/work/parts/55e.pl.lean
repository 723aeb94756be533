/-! plan: the runs -/
section xk_plr
variable {d : Nat} {g : xq_V} {J : Nat → Nat → Int64} {I : Nat → Nat → Int32} {Q : Option Value → xq_S → Prop} {q : Bool} {n ns dn a p : Nat} {W W0 : xw} {R : Nat → xw}
theorem xl_245 (ha : a ≤ 60) : ∀ (t k : Nat) (s : xw × Int32 × Int32) (x : Nat) (A P F N : xw), k + t = a → ok n ns s.1 → s.1 2 = nI x → x + t ≤ 20000 → A 29 = Int32.ofInt (-1) → A 32 = s.2.1 → (∀ A' P' F' N' : xw, (∀ j, ¬ j = 30 → ¬ j = 32 → A' j = A j) → A' 32 = (wkT q n t s).2.1 → Q none (xq_s g J (xm I A' (wkT q n t s).1 P' F' N'))) → xq_wp (d + 7) 245 (xq_s g J (xm I A s.1 P F N)) 2 [.ref 126, .int (nI a), .int (sp_b2 q), .int (nI k)] [] Q := by
  intro t
  induction t with
  | zero =>
    intro k s x A P F N hk ho e hx h29 h32 hp
    exact xu_245_2 (d := d) (n := n) (ns := ns) ⟨by omega, by omega, fun h => absurd h (by omega), fun _ => hp A P F N (fun _ _ _ => rfl) h32⟩
  | succ t ih =>
    intro k s x A P F N hk ho e hx h29 h32 hp
    have n14 := ho.1.2.1
    refine xu_245_2 (d := d) (n := n) (ns := ns) ⟨by omega, by omega, fun _ => ⟨ho, fun v' P' F' N' => ?_⟩, fun h => absurd (show k < a by omega) h⟩
    rw [h29, upd_ne (show ¬ 32 = 30 by omega), h32]
    have o1 : ok n ns (wk1 q n s).1 := ok_sweek ho (show x < 20000 by omega) e
    have e1 : (wk1 q n s).1 2 = nI (x + 1) := by show (sp_week q (Int32.ofInt (-1)) n s.1).1 2 = _; rw [wk_week ho, e, nI_add]
    have lm : (sp_lmany (sp_week q (Int32.ofInt (-1)) n s.1).1 n 0 (nI 0) = (sp_week q (Int32.ofInt (-1)) n s.1).1 0) ↔ lmN (sp_week q (Int32.ofInt (-1)) n s.1).1 n = n := by
      rw [lmany_N, show (sp_week q (Int32.ofInt (-1)) n s.1).1 0 = nI n from o1.1.1]
      have := lmN_le (W := (sp_week q (Int32.ofInt (-1)) n s.1).1) n
      exact xn_eq (by omega) (by omega)
    have go : ∀ A1 : xw, (∀ j, ¬ j = 30 → ¬ j = 32 → A1 j = A j) → A1 32 = (wk1 q n s).2.1 → xq_wp (d + 7) 245 (xq_s g J (xm I A1 (sp_week q (Int32.ofInt (-1)) n s.1).1 P' F' N')) 2 [.ref 126, .int (nI a), .int (sp_b2 q), .int (nI (k + 1))] [] Q := fun A1 b1 b2 => ih (k + 1) (wk1 q n s) (x + 1) A1 P' F' N' (by omega) o1 e1 (by omega) (by rw [b1 29 (by omega) (by omega)]; exact h29) b2 (fun A' P2 F2 N2 c1 c2 => hp A' P2 F2 N2 (fun j j1 j2 => (c1 j j1 j2).trans (b1 j j1 j2)) c2)
    refine ⟨fun y => ⟨o1.1.1, n14, fun y2 => go _ (fun j j1 j2 => by rw [upd_ne j2, upd_ne j1]) ?_, fun y2 => go _ (fun j j1 j2 => by rw [upd_ne j1]) ?_⟩, fun y => go _ (fun j j1 j2 => by rw [upd_ne j1]) ?_⟩
    · rw [upd_eq, wk_week ho]
      show _ = if s.2.1 = Int32.ofInt (-1) ∧ lmN (sp_week q (Int32.ofInt (-1)) n s.1).1 n = n then s.1 2 else s.2.1
      rw [if_pos ⟨y, lm.mp y2⟩]
      exact Int32.add_sub_cancel _ _
    · rw [upd_ne (by omega), h32]
      show _ = if s.2.1 = Int32.ofInt (-1) ∧ lmN (sp_week q (Int32.ofInt (-1)) n s.1).1 n = n then s.1 2 else s.2.1
      rw [if_neg (fun z => y2 (lm.mpr z.2))]
    · rw [upd_ne (by omega), h32]
      show _ = if s.2.1 = Int32.ofInt (-1) ∧ lmN (sp_week q (Int32.ofInt (-1)) n s.1).1 n = n then s.1 2 else s.2.1
      rw [if_neg (fun z => y z.1)]
theorem xl_244 {s : xw × Int32 × Int32} {x : Nat} {A P F N : xw} (ho : ok n ns s.1) (e : s.1 2 = nI x) (hx : x + 60 ≤ 20000) (h29 : A 29 = Int32.ofInt (-1)) (h32 : A 32 = s.2.1) (hd : dn < 8) (ha : a ≤ plb dn) (hp13 : p ≤ 13) (hp : ∀ A' P' F' N' : xw, (∀ j, ¬ j = 30 → ¬ j = 32 → A' j = A j) → A' 32 = (st1 q n dn a p s).2.1 → Q none (xq_s g J (xm I A' (st1 q n dn a p s).1 P' F' N'))) : xq_wp (d + 8) 244 (xq_s g J (xm I A s.1 P F N)) 0 [.ref 126, .int (nI (24 + dn)), .int (nI a), .int (nI p), .int (sp_b2 q)] [] Q := by
  have n14 := ho.1.2.1
  have : dn = 0 ∨ dn = 1 ∨ dn = 2 ∨ dn = 3 ∨ dn = 4 ∨ dn = 5 ∨ dn = 6 ∨ dn = 7 := by omega
  have self : ∀ (W' : xw), W' = (st1 q n dn a p s).1 → (st1 q n dn a p s).2.1 = s.2.1 → Q none (xq_s g J (xm I A W' P F N)) := fun W' e1 e2 => by rw [e1]; exact hp A P F N (fun _ _ _ => rfl) (h32.trans e2.symm)
  rcases this with z | z | z | z | z | z | z | z <;> subst z
  · have ha : a ≤ 60 := ha
    refine xu_244_0 (d := d + 7) (xu_245 (d := d + 7) (xl_245 (d := d) ha a 0 s x A P F N (by omega) ho e (by omega) h29 h32 (fun A' P' F' N' b1 b2 => xu_244_ret (d := d + 8) (hp A' P' F' N' b1 b2))))
  · refine xu_244_1 (d := d + 7) ?_
    by_cases hv : a < n ∧ p < n
    · refine xl_164 (d := d + 5) ho hv.1 hv.2 (fun fr hf ef => xu_244_pop (d := d + 8) (self _ ?_ rfl))
      show _ = if a < n ∧ p < n then rkW n (frN s.1 a n) p s.1 else s.1
      rw [if_pos hv, fr_eq ho hf ef n hf (Nat.le_refl _)]
    · have e0 : s.1 = (st1 q n 1 a p s).1 := by
        show _ = if a < n ∧ p < n then rkW n (frN s.1 a n) p s.1 else s.1
        rw [if_neg hv]
      have fin := xu_244_pop (d := d + 8) (q := q) (a := a) (p := p) (w := nI 0) (self _ e0 rfl)
      refine xu_164x (d := d + 5) ⟨fun _ => fin, fun z1 => ⟨fun _ => fin, fun z2 => ⟨fun _ => fin, fun z3 => ⟨fun _ => fin, fun z4 => ?_⟩⟩⟩⟩
      exfalso
      rw [ho.1.1] at z2 z4
      have q1 : ¬ ¬ nI a < nI n := fun y => z2 (i_out y (by omega))
      have q2 : ¬ ¬ nI p < nI n := fun y => z4 (i_out y (by omega))
      have ha : a ≤ 13 := ha
      exact hv ⟨(xn_lt (by omega) (by omega)).mp (Classical.byContradiction q1), (xn_lt (by omega) (by omega)).mp (Classical.byContradiction q2)⟩
  · exact xu_244_2 (d := d + 7) (self _ rfl rfl)
  · exact xu_244_3 (d := d + 7) (self _ rfl rfl)
  · have ha : a ≤ 3 := ha
    exact xu_244_4 (d := d + 8) ⟨by omega, self _ rfl rfl⟩
  · have ha : a ≤ 3 := ha
    exact xu_244_5 (d := d + 8) ⟨by omega, self _ rfl rfl⟩
  · exact xu_244_6 (d := d + 8) (self _ rfl rfl)
  · exact xu_244_7 (d := d + 8) (self _ rfl rfl)
theorem xl_243 {S : Nat} (hS : S ≤ 100) (h60 : W0 1960 = nI S) : ∀ (t i : Nat) (s : xw × Int32 × Int32) (x : Nat) (A P F N : xw), i + t = S → ok n ns s.1 → s.1 2 = nI x → x + 60 * t ≤ 20000 → A 29 = Int32.ofInt (-1) → A 32 = s.2.1 → (∀ j, i ≤ j → j < i + t → plM W0 j) → (∀ p, 1075 ≤ p → s.1 p = W0 p) → (∀ A' P' F' N' : xw, (∀ j, ¬ j = 30 → ¬ j = 32 → A' j = A j) → A' 32 = (plT q n W0 t i s).2.1 → Q none (xq_s g J (xm I A' (plT q n W0 t i s).1 P' F' N'))) → xq_wp (d + 9) 243 (xq_s g J (xm I A s.1 P F N)) 2 [.ref 126, .int (sp_b2 q), .int (nI i)] [] Q := by
  intro t
  induction t with
  | zero =>
    intro i s x A P F N hi ho e hx h29 h32 hM hW hp
    exact xu_243_2 (d := d + 8) (s := S) ⟨by rw [hW _ (by omega)]; exact h60, by omega, by omega, fun h => absurd h (by omega), fun _ => hp A P F N (fun _ _ _ => rfl) h32⟩
  | succ t ih =>
    intro i s x A P F N hi ho e hx h29 h32 hM hW hp
    refine xu_243_2 (d := d + 8) (s := S) ⟨by rw [hW _ (by omega)]; exact h60, by omega, by omega, fun _ => ⟨by omega, by omega, by omega, ?_⟩, fun h => absurd (show i < S by omega) h⟩
    obtain ⟨dn, a, p, hd, ha, hp13, f1, f2, f3, e1, e2, e3⟩ := hM i (Nat.le_refl _) (by omega)
    rw [hW _ (by omega), hW _ (by omega), hW _ (by omega), f1, f2, f3]
    obtain ⟨b1, b2, b3, b4⟩ := st1_K (q := q) (p := p) ho e (by omega) hd ha
    have w : (if dn = 0 then a else 0) ≤ 60 := by
      split
      · rename_i z; subst z; exact ha
      · omega
    have ep : plT q n W0 (t + 1) i s = plT q n W0 t (i + 1) (st1 q n dn a p s) := by rw [plT, e1, e2, e3, show 24 + dn - 24 = dn by omega]
    rw [ep] at hp
    refine xl_244 (d := d) ho e (by omega) h29 h32 hd ha hp13 (fun A1 P1 F1 N1 c1 c2 => xu_243_59 (d := d + 9) ?_)
    exact ih (i + 1) (st1 q n dn a p s) (x + (if dn = 0 then a else 0)) A1 P1 F1 N1 (by omega) b1 b2 (by omega) (by rw [c1 29 (by omega) (by omega)]; exact h29) c2 (fun j j1 j2 => hM j (by omega) (by omega)) (fun p' hp' => (b4 p' hp').trans (hW p' hp')) (fun A' P' F' N' g1 g2 => hp A' P' F' N' (fun j j1 j2 => (g1 j j1 j2).trans (c1 j j1 j2)) g2)
theorem xl_242_4 {S : Nat} {A P F N : xw} (hS : S ≤ 100) (h60 : W 1960 = nI S) (hbad : ∀ sm, nI 9999 < W 2 + nI sm → sm = wsN W S 0 → Q (some (.int (Int32.ofInt (-1)))) (xq_s g J (xm I A W P F N))) (hgo : ∀ sm, ¬ nI 9999 < W 2 + nI sm → sm = wsN W S 0 → xq_wp d 243 (xq_s g J (xm I A W P F N)) 0 [.ref 126, .int (nI 1), xq_un] [] (fun v x1 => xq_wp (d + 1) 242 x1 81 [.ref 126, .int (nI sm), .int (nI S)] (v.toList ++ []) Q)) : ∀ (t i sm : Nat), i + t = S → (∀ j, i ≤ j → j < i + t → plM W j) → sm + wsN W t i = wsN W S 0 → xq_wp (d + 1) 242 (xq_s g J (xm I A W P F N)) 4 [.ref 126, .int (nI sm), .int (nI i)] [] Q := by
  intro t
  induction t with
  | zero =>
    intro i sm hi hM hs
    have : i = S := by omega
    subst this
    refine xu_242_4 (d := d) (s := i) (kd := 0) (a := 0) ⟨h60, by omega, by omega, fun h => absurd h (by omega), fun _ => ⟨fun y => hbad sm y hs, fun y => hgo sm y hs⟩⟩
  | succ t ih =>
    intro i sm hi hM hs
    obtain ⟨dn, a, p, hd, ha, hp13, f1, f2, f3, e1, e2, e3⟩ := hM i (Nat.le_refl _) (by omega)
    rw [wsN, e1, e2] at hs
    refine xu_242_4 (d := d) (s := S) (kd := 24 + dn) (a := a) ⟨h60, by omega, by omega, fun _ => ⟨by omega, f1, by omega, fun y => ⟨by omega, f2, ih (i + 1) (sm + a) (by omega) (fun j j1 j2 => hM j (by omega) (by omega)) ?_⟩, fun y => ih (i + 1) (sm + 0) (by omega) (fun j j1 j2 => hM j (by omega) (by omega)) ?_⟩, fun h => absurd (show i < S by omega) h⟩
    · rw [if_pos y] at hs; omega
    · rw [if_neg y] at hs; omega
end xk_plr
