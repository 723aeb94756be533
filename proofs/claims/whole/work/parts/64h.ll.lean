/-! text: THE LAW's lines -/
def lz (ls : List (Nat × Nat × Nat)) (q : Nat) : Nat := if q = 0 then 0 else (ls.getD (q - 1) (0, 0, 0)).2.2
def lK1 (a : LA) (ls : List (Nat × Nat × Nat)) (q : Nat) : Prop := (ls.getD q (0, 0, 0)).1 = lz ls q ∧ (ls.getD q (0, 0, 0)).1 < (ls.getD q (0, 0, 0)).2.1 ∧ (ls.getD q (0, 0, 0)).2.1 ≤ (ls.getD q (0, 0, 0)).2.2 ∧ (ls.getD q (0, 0, 0)).2.2 ≤ a.length ∧ lg 3 false ((a.take (ls.getD q (0, 0, 0)).2.1).drop (ls.getD q (0, 0, 0)).1) ∧ ((ls.getD q (0, 0, 0)).2.2 = (ls.getD q (0, 0, 0)).2.1 ∨ lg 22 true ((a.take (ls.getD q (0, 0, 0)).2.2).drop (ls.getD q (0, 0, 0)).2.1))
/-- lines, as they lie in the steps -/
def lK (p : LL) : Prop := p.2.length ≤ 16 ∧ lz p.2 p.2.length = p.1.length ∧ (∀ s, s ∈ p.1 → lv1 s) ∧ ∀ q, q < p.2.length → lK1 p.1 p.2 q
/-- what the lines leave in the class -/
def lC (p : LL) (Y : Nat → xw) : Prop := Y 117 0 = nI p.2.length ∧ Y 117 1 = nI (cds p.1).length ∧ (∀ q, q < (cds p.1).length → Y 118 q = nI ((cds p.1).getD q 0)) ∧ ∀ q, q < p.2.length → Y 119 q = nI (cds (p.1.take (p.2.getD q (0, 0, 0)).2.2)).length
section xk_ll
variable {tc vl : Nat → Nat} {t i j k f c c' : Nat} {a b e : LA} {ty : Bool}
theorem gd_l {α : Type} {l : List α} {x d0 : α} {q : Nat} (h : q < l.length) : (l ++ [x]).getD q d0 = l.getD q d0 := by
  rw [List.getD_eq_getElem?_getD, List.getD_eq_getElem?_getD, List.getElem?_append_left h]
theorem gd_e {α : Type} {l : List α} {x d0 : α} : (l ++ [x]).getD l.length d0 = x := by
  rw [List.getD_eq_getElem?_getD, List.getElem?_append_right (Nat.le_refl _), Nat.sub_self]; rfl
theorem lz_l {ls : List (Nat × Nat × Nat)} {x : Nat × Nat × Nat} {q : Nat} (h : q ≤ ls.length) : lz (ls ++ [x]) q = lz ls q := by
  unfold lz
  by_cases z : q = 0
  · rw [if_pos z, if_pos z]
  · rw [if_neg z, if_neg z, gd_l (by omega)]
theorem lz_e {ls : List (Nat × Nat × Nat)} {x : Nat × Nat × Nat} : lz (ls ++ [x]) (ls.length + 1) = x.2.2 := by
  unfold lz
  rw [if_neg (by omega), Nat.add_sub_cancel, gd_e]
theorem lK_s {p : LL} {x y : LA} (h : lK p) (hl : ¬ p.2.length = 16) (hx : lg 3 false x) (hy : y = [] ∨ lg 22 true y) : lK ((p.1 ++ x) ++ y, p.2 ++ [(p.1.length, (p.1 ++ x).length, ((p.1 ++ x) ++ y).length)]) := by
  obtain ⟨h1, h2, h3, h4⟩ := h
  refine ⟨?_, ?_, ?_, fun q hq => ?_⟩
  · show (p.2 ++ [_]).length ≤ 16
    rw [List.length_append, List.length_singleton]; omega
  · show lz (p.2 ++ [_]) (p.2 ++ [_]).length = ((p.1 ++ x) ++ y).length
    rw [List.length_append (as := p.2), List.length_singleton, lz_e]
  · refine lv_a (lv_a h3 hx.2.2.2) ?_
    rcases hy with z | z
    · rw [z]; intro s hs; exact absurd hs (by simp)
    · exact z.2.2.2
  · have hq : q < (p.2 ++ [(p.1.length, (p.1 ++ x).length, ((p.1 ++ x) ++ y).length)]).length := hq
    rw [List.length_append, List.length_singleton] at hq
    show lK1 ((p.1 ++ x) ++ y) (p.2 ++ [(p.1.length, (p.1 ++ x).length, ((p.1 ++ x) ++ y).length)]) q
    unfold lK1
    by_cases z : q = p.2.length
    · subst z
      rw [gd_e, lz_l (Nat.le_refl _), h2]
      dsimp only
      have l1 : (p.1 ++ x).length = p.1.length + x.length := List.length_append
      have l2 : ((p.1 ++ x) ++ y).length = (p.1 ++ x).length + y.length := List.length_append
      have := hx.1
      refine ⟨rfl, by omega, by omega, Nat.le_refl _, ?_, ?_⟩
      · rw [List.take_left, List.drop_left]; exact hx
      · rcases hy with z | z
        · left; rw [z, List.append_nil]
        · right; rw [List.take_length, List.drop_left]; exact z
    · have q1 : q < p.2.length := by omega
      rw [gd_l q1, lz_l (by omega)]
      obtain ⟨a1, a2, a3, a4, a5, a6⟩ := h4 q q1
      refine ⟨a1, a2, a3, ?_, ?_, ?_⟩
      · rw [List.append_assoc, List.length_append]; omega
      · rw [List.append_assoc, List.take_append_of_le_length (by omega)]; exact a5
      · rcases a6 with z | z
        · exact .inl z
        · right; rw [List.append_assoc, List.take_append_of_le_length a4]; exact z
end xk_ll
section yk_ll
variable {d : Nat} {g : xq_V} {J : Nat → Nat → Int64} {I X Z : Nat → xw} {Q : Option Value → xq_S → Prop} {t i j k o : Nat} {tc vl ss : Nat → Nat} {a b : LA} {n : Int32} {E : xw}
theorem lC_s {p : LL} {Y : Nat → xw} {x : LA} {l : Nat × Nat × Nat} (h : lK p) (hZ : lC p Z) (hY : cC (nI p.2.length) (Z 119) (cds (p.1 ++ x)) Y) (hl : l.2.2 = (p.1 ++ x).length) : lC (p.1 ++ x, p.2 ++ [l]) (xq_w (xq_w Y 119 p.2.length (nI (cds (p.1 ++ x)).length)) 117 0 (nI (p.2.length + 1))) := by
  obtain ⟨y1, y2, y3, y4⟩ := hY
  refine ⟨?_, ?_, fun q hq => ?_, fun q hq => ?_⟩
  · rw [xw_v]; show nI (p.2.length + 1) = nI (p.2 ++ [l]).length; rw [List.length_append, List.length_singleton]
  · rw [xw_x (by omega), xw_i (by omega)]; exact y3
  · rw [xw_i (by omega), xw_i (by omega)]; exact y4 q hq
  · have hq : q < (p.2 ++ [l]).length := hq
    rw [List.length_append, List.length_singleton] at hq
    rw [xw_i (by omega), xw_row]
    show _ = nI (cds ((p.1 ++ x).take ((p.2 ++ [l]).getD q (0, 0, 0)).2.2)).length
    by_cases z : q = p.2.length
    · subst z
      rw [upd_eq, gd_e, hl, List.take_length]
    · rw [upd_ne z, gd_l (by omega), y2, hZ.2.2.2 q (by omega), List.take_append_of_le_length (h.2.2.2 q (by omega)).2.2.2.1]
theorem kLL (hT : cT 2 I t tc vl ss) (hv : ∀ i, tc i = 2 → vl i ≤ 9999) : ∀ (f i : Nat) (p : LL) (Z : Nat → xw), t < i + f → i ≤ t → (cds p.1).length ≤ i → lK p → gF I Z → lC p Z → (∀ k j, spL tc vl f i p = some (.inl (k, j)) → ∀ (Y : Nat → xw) (j' : Nat), gF I Y → Q (some (.int (nI 0))) (xq_s g J (rs (xq_w (xq_w Y 104 8 (nI k)) 104 9 (nI (ss j))) j'))) → (∀ p', spL tc vl f i p = some (.inr p') → lK p' → (cds p'.1).length ≤ t → ∀ (Y : Nat → xw) (j' : Nat), gF I Y → lC p' Y → Q (some (.int (nI 1))) (xq_s g J (rs Y j'))) → xq_wp (d + 23) 50 (xq_s g J (rs Z i)) 12 [.ref 117, .ref 104, .int (nI p.2.length)] [] Q := by
  have h4 := hT.1
  intro f
  induction f with
  | zero => intro i p Z h1 h2; omega
  | succ f ih =>
    intro i p Z hf hi hl hK hF hC bad good
    have hX := cT_gF hT hF
    have h16 := hK.1
    rw [spL] at bad good
    refine tl_50_12 (d := d + 21) (nl := p.2.length) hX ⟨by omega, fun z => by omega, fun _ => ⟨hi, fun q0 => good p (by rw [if_pos q0]) hK (by omega) Z i hF hC, fun q0 => ⟨fun q7 => ⟨hC.1, by omega, fun q16 => bad 3 i (by rw [if_neg q0, if_neg (fun z => z q7), if_pos q16]) Z i hF, fun q16 => ⟨q0, ?_⟩⟩, fun q7 => bad 1 i (by rw [if_neg q0, if_pos q7]) Z i hF⟩⟩⟩
    rw [if_neg q0, if_neg (fun z => z q7), if_neg q16] at bad good
    have i1 := c_lt hX hi q0
    refine kS hT hv (d + 18) g J _ (nI p.2.length) (Z 119) (i + 1) p.1 Z i1 (by omega) hF ⟨hC.1, rfl, hC.2.1, hC.2.2.1⟩ (fun k j e Y j' gY => tl_50_66_0 (d := d + 23) (cT_ff hT gY) (bad k j (by rw [e]) Y j' gY)) (fun j b e hj Y g1 g2 => ?_)
    rw [e] at bad good
    dsimp only at bad good
    obtain ⟨x, x1, x2⟩ := lE_S hv _ _ _ _ e
    have hB := lB_S _ _ _ _ e
    have tail : ∀ (k : Nat) (c : LA) (Y : Nat → xw), spW tc vl j b = some (.inr (k, c)) → k ≤ t → gF I Y → cC (nI p.2.length) (Z 119) (cds c) Y → xq_wp (d + 23) 50 (xq_s g J (rs Y k)) 95 [.ref 117, .ref 104, .int (nI p.2.length)] [] Q := fun k c Y e2 hk g1 g2 => by
      rw [e2] at bad good
      dsimp only at bad good
      obtain ⟨y, y1, y2⟩ := lE_W hv e2
      have hB2 := lB_W e2
      subst x1
      subst y1
      refine tl_50_95 (d := d + 21) (n := (cds ((p.1 ++ x) ++ y)).length) (nl := p.2.length) (cT_gF hT g1) ⟨hk, fun q => ⟨g2.1, g2.2.2.1, by omega, g2.1, ?_⟩, fun q => bad 1 k (by rw [if_neg q]) Y k g1⟩
      rw [if_pos q] at bad good
      have hK2 := lK_s hK q16 x2 y2
      have hk1 := c_lt (cT_gF hT g1) hk (show ¬ tc k = 0 by omega)
      have g3 : cC (nI p.2.length) (Z 119) (cds (p.1 ++ (x ++ y))) Y := by rw [← List.append_assoc]; exact g2
      have hC2 := lC_s (l := (p.1.length, (p.1 ++ x).length, ((p.1 ++ x) ++ y).length)) hK hC g3 (by rw [List.append_assoc])
      rw [← List.append_assoc] at hC2
      have hF2 : gF I (xq_w (xq_w Y 119 p.2.length (nI (cds ((p.1 ++ x) ++ y)).length)) 117 0 (nI (p.2.length + 1))) := gF_w (gF_w g1 (by omega)) (by omega)
      have key := ih (k + 1) _ _ (by omega) hk1 (by show (cds ((p.1 ++ x) ++ y)).length ≤ k + 1; omega) hK2 hF2 hC2 bad good
      have e9 : (p.2 ++ [(p.1.length, (p.1 ++ x).length, ((p.1 ++ x) ++ y).length)]).length = p.2.length + 1 := by rw [List.length_append, List.length_singleton]
      dsimp only at key
      rw [e9] at key
      exact key
    refine tl_50_66_1 (d := d + 21) (cT_gF hT g1) ⟨hj, fun q3 => ⟨by omega, ?_⟩, fun q3 => tail j b Y (by unfold spW; rw [if_neg q3]) hj g1 g2⟩
    have j1 := c_lt (cT_gF hT g1) hj (show ¬ tc j = 0 by omega)
    have ew : spW tc vl j b = spA tc (spC tc vl 8) (j + 1) b := by unfold spW; rw [if_pos q3]
    refine kA (o := 0) (dd := fun d => d + 2 * 8 + 4) hT (lB_C 8) (kC hT hv 8 (Nat.le_refl 8)) d g J _ (nI p.2.length) (Z 119) (j + 1) b Y j1 (by omega) g1 g2 (fun k j e Y j' gY => tl_50_90_0 (d := d + 23) (cT_ff hT gY) (bad k j (by rw [ew, e]) Y j' gY)) (fun k c e2 hk Y g1 g2 => ?_)
    exact tl_50_90_1 (d := d + 23) (cT_gF hT g1) (tail k c Y (ew.trans e2) hk g1 g2)
/-- the class reads THE LAW -/
def lwX (tc vl : Nat → Nat) : Option ((Nat × Nat) ⊕ LL) := spL tc vl lF 0 ([], [])
theorem lK_0 : lK ([], []) := ⟨Nat.zero_le _, rfl, fun s hs => absurd hs (by simp), fun q hq => absurd hq (by show ¬ q < 0; omega)⟩
theorem yl_50 (hT : cT 2 I t tc vl ss) (hv : ∀ i, tc i = 2 → vl i ≤ 9999) (hF : gF I Z) (bad : ∀ k j, lwX tc vl = some (.inl (k, j)) → ∀ (Y : Nat → xw) (j' : Nat), gF I Y → Q (some (.int (nI 0))) (xq_s g J (rs (xq_w (xq_w Y 104 8 (nI k)) 104 9 (nI (ss j))) j'))) (good : ∀ p, lwX tc vl = some (.inr p) → lK p → (cds p.1).length ≤ t → ∀ (Y : Nat → xw) (j' : Nat), gF I Y → lC p Y → Q (some (.int (nI 1))) (xq_s g J (rs Y j'))) : xq_wp (d + 23) 50 (xq_s g J (rs Z 0)) 0 [.ref 117, .ref 104, xq_un] [] Q := by
  have h4 := hT.1
  have := lF_e
  refine tl_50 (d := d + 23) (cT_gF hT hF) ?_
  refine kLL hT hv lF 0 ([], []) _ (by omega) (by omega) (Nat.zero_le _) lK_0 (gF_w (gF_w hF (by omega)) (by omega)) ⟨?_, ?_, fun q hq => absurd hq (by show ¬ q < 0; omega), fun q hq => absurd hq (by show ¬ q < 0; omega)⟩ bad good
  · rw [xw_x (by omega), xw_v]; rfl
  · rw [xw_v]; rfl
end yk_ll
