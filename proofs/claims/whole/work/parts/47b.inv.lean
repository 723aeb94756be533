/-! the order in which it closes soonest; the image; all that holds between two calls -/
/-- all orders of these blocks, by number -/
def pm : Nat → List Nat → List (List Nat)
  | 0, _ => [[]]
  | c + 1, l => l.flatMap (fun b => (pm c (l.erase b)).map (fun r => b :: r))
def flN (W : xw) : Nat → List Nat
  | 0 => []
  | c + 1 => flN W c ++ (if W (50 + 14 * c + 4) = nI 4 then [] else [c])
/-- those that are laid, as the order has them -/
def laN (W : xw) : Nat → List Nat
  | 0 => []
  | c + 1 => laN W c ++ (if W (50 + 14 * sp_ix W (30 + c) + 4) = nI 4 then [sp_ix W (30 + c)] else [])
def thO (n : Nat) (W : xw) (l : List Nat) : xw := fun p => if 30 ≤ p ∧ p < 30 + n then nI (l.getD (p - 30) 0) else th_0 W p
def snS (n : Nat) (W : xw) (s : Int32 × List Nat) (r : List Nat) : Int32 × List Nat := if th_close n (Int32.ofInt (-1)) 0 (thO n W (r ++ laN W n)) = Int32.ofInt (-1) ∨ (¬ s.1 = Int32.ofInt (-1) ∧ ¬ th_close n (Int32.ofInt (-1)) 0 (thO n W (r ++ laN W n)) < s.1) then s else (th_close n (Int32.ofInt (-1)) 0 (thO n W (r ++ laN W n)), r ++ laN W n)
def sn (n : Nat) (W : xw) : Int32 × List Nat := if 1 ≤ (flN W n).length ∧ (flN W n).length ≤ 6 then (pm (flN W n).length (flN W n)).foldl (snS n W) (Int32.ofInt (-1), []) else (Int32.ofInt (-1), [])
def ivS (n : Nat) (I : Nat → xw) : Prop := I 34 4 = nI 0 ∨ (I 34 4 = nI 1 ∧ I 34 5 = (sn n (I 127)).1 ∧ (¬ (sn n (I 127)).1 = Int32.ofInt (-1) → ∀ k, k < n → I 45 k = nI ((sn n (I 127)).2.getD k 0)))
/-- THE IMAGE's yard in the yard's place -/
def kI (y : Nat) (I : Nat → xw) : Nat → xw := fun a => if 1 ≤ a ∧ a < 32 then I (y + (a - 1)) else I a
def shY (x : xq_S) (y : Nat) : Prop := y < xq_N x ∧ xq_K x y = (10, 5) ∧ xq_R x y 0 = some (y + 1) ∧ xq_R x y 1 = some (y + 8) ∧ xq_R x y 2 = some (y + 13) ∧ xq_R x y 3 = some (y + 17) ∧ xq_R x y 4 = some (y + 26) ∧ shG x (y + 1) ∧ shL x (y + 8) ∧ shP x (y + 13) ∧ shS x (y + 17) ∧ shB x (y + 26)
def ivK (g : xq_V) (I : Nat → xw) : Prop := (g.2.2.2.2.1 = none ∧ I 126 5 = nI 0) ∨ ∃ y n ns, g.2.2.2.2.1 = some y ∧ 143 ≤ y ∧ I 126 5 = nI 1 ∧ shY (xq_s g (fun _ _ => 0) I) y ∧ ok n ns (I 128) ∧ w9 (I 128) ∧ bkw (I 128) ∧ CR true n ns (kI y I) (xcR true (kI y I)) (I 128) ∧ plR (kI y I 14 0) (kI y I 15) (kI y I 16) (kI y I 17) (I 128)
def ivJ (g : xq_V) : Prop := ∃ e o, e ≤ 14 ∧ g.2.2.2.2.2 = some o ∧ ((o = 54 ∧ e = 0) ∨ (143 ≤ o ∧ o < g.1 + 143 ∧ g.2.2.1 o = (101, 2 ^ e))) ∧ g.1 ≤ e + (if g.2.2.2.2.1 = none then 0 else 31) ∧ g.2.1 ≤ 30394 + 2 ^ (e + 1) + (if g.2.2.2.2.1 = none then 0 else 1836)
def iv (g : xq_V) (I : Nat → xw) : Prop := ∃ n ns, ivA n ns I ∧ ivT I ∧ ivP I ∧ ivR I ∧ ivS n I ∧ ivH n ns I ∧ ivK g I ∧ ivJ g
def Inv (x : xq_S) : Prop := ∃ g J I, x = xq_s g J I ∧ iv g I
theorem Inv_fit : xq_Fit 126 Inv := by
  rintro x ⟨g, J, I, rfl, n, ns, -, -, -, -, -, -, -, e, o, he, -, -, h1, h2⟩
  have h1' : g.1 ≤ 45 := by
    split at h1 <;> omega
  have p : 2 ^ (e + 1) ≤ 32768 := Nat.pow_le_pow_right (n := 2) (by omega) (show e + 1 ≤ 15 by omega)
  have h2' : g.2.1 ≤ 70000 := by
    split at h2 <;> omega
  refine ⟨?_, rfl, ?_, ?_, ?_⟩
  · show 0 < g.1 + 143; omega
  · show g.1 + 143 ≤ room_1.cells
    exact Nat.le_trans (show g.1 + 143 ≤ 188 by omega) (by decide)
  · show g.2.1 ≤ room_1.slots
    exact Nat.le_trans h2' (by decide)
  · show g.1 + 143 ≤ 1000000
    omega
/-- a pair of calls, out of what their runs end in -/
theorem pair_of {mc mm : Nat} {As : List Value} {r : Value → Prop} (h : ∀ (g : xq_V) (J : Nat → Nat → Int64) (I : Nat → xw), iv g I → xq_wp 90 mc (xq_s g J I) 0 ((.ref 0 :: As) ++ List.replicate ((xq_mn mc).2.2.1 - (As.length + 1)) xq_un) [] (fun v x1 => ∃ (w : Value) (g1 : xq_V) (J1 : Nat → Nat → Int64) (I1 : Nat → xw), v = some w ∧ x1 = xq_s g1 J1 I1 ∧ r w ∧ xq_wp 90 mm (xq_s g1 J1 I1) 0 ((.ref 126 :: As) ++ List.replicate ((xq_mn mm).2.2.1 - (As.length + 1)) xq_un) [] (fun v2 x2 => v2 = some w ∧ Inv x2))) : xq_pair 126 Inv mc mm As r := by
  rintro x ⟨g, J, I, rfl, hi⟩
  obtain ⟨F1, v, x1, h1, w, g1, J1, I1, rfl, rfl, hr, F2, v2, x2, h2, rfl, hI⟩ := h g J I hi
  refine ⟨F1 + F2, w, xq_s g1 J1 I1, x2, hr, xq_moreN h1 F2, ?_, rfl, ?_, hI⟩
  · show 126 < g1.1 + 143; omega
  · rw [Nat.add_comm F1 F2]; exact xq_moreN h2 F1
section xk_ivf
variable {g : xq_V} {n ns : Nat} {I I' : Nat → xw}
/-- cells that count for what holds between calls (the model's fields aside) -/
def relc (a : Nat) : Prop := a < 12 ∨ (14 ≤ a ∧ a < 32) ∨ a = 34 ∨ a = 45 ∨ (53 ≤ a ∧ a < 55) ∨ (56 ≤ a ∧ a < 106) ∨ (110 ≤ a ∧ a < 126) ∨ a = 127 ∨ a = 128 ∨ a = 129 ∨ a = 135 ∨ 143 ≤ a
theorem ivK_fr (h : ivK g I) (e : ∀ a, relc a → I' a = I a) (e5 : I' 126 5 = I 126 5) (e32 : I' 32 4 = I 32 4) : ivK g I' := by
  rcases h with ⟨h1, h2⟩ | ⟨y, n, ns, h1, h2, h3, h4, h5, h6, h6b, h7, h8⟩
  · exact Or.inl ⟨h1, e5.trans h2⟩
  · right
    have ek : ∀ a, (1 ≤ a ∧ a < 32) → kI y I' a = kI y I a := fun a ha => by
      unfold kI; rw [if_pos ha, if_pos ha, e _ (by unfold relc; omega)]
    refine ⟨y, n, ns, h1, h2, e5.trans h3, h4, ?_, ?_, ?_, ?_, ?_⟩
    · rw [e 128 (by unfold relc; omega)]; exact h5
    · rw [e 128 (by unfold relc; omega)]; exact h6
    · rw [e 128 (by unfold relc; omega)]; exact h6b
    · rw [e 128 (by unfold relc; omega)]
      refine CR_cells h7 (fun a ha => ek a (by omega)) ?_
      show (if 1 ≤ 32 ∧ 32 < 32 then I' (y + (32 - 1)) else I' 32) 4 = (if 1 ≤ 32 ∧ 32 < 32 then I (y + (32 - 1)) else I 32) 4
      rw [if_neg (by omega), if_neg (by omega)]; exact e32
    · rw [e 128 (by unfold relc; omega), ek 14 (by omega), ek 15 (by omega), ek 16 (by omega), ek 17 (by omega)]; exact h8
/-- nothing that counts has changed -/
theorem iv_scr (h : iv g I) (e : ∀ a, relc a → I' a = I a) (eA : ∀ j, j = 4 ∨ j = 5 ∨ j = 18 ∨ j = 25 ∨ j = 27 ∨ j = 29 → I' 126 j = I 126 j) (e32 : I' 32 4 = I 32 4 ∧ I' 32 10 = I 32 10) (hT : ivT I') (e104 : I' 104 = I 104) : iv g I' := by
  obtain ⟨n, ns, hA, -, hP, hR, hS, hH, hK, hJ⟩ := h
  have e127 : I' 127 = I 127 := e 127 (by unfold relc; omega)
  refine ⟨n, ns, ?_, hT, ?_, ?_, ?_, ?_, ivK_fr hK e (eA 5 (by omega)) e32.1, hJ⟩
  · obtain ⟨a1, a2, a2b, a3, a4, a5⟩ := hA
    unfold ivA
    rw [e127]
    exact ⟨a1, a2, a2b, CR_cells a3 (fun a ha => e a (by unfold relc; omega)) e32.1, e32.2.trans a4, (eA 29 (by omega)).trans a5⟩
  · unfold ivP at hP ⊢
    rw [e127, e 14 (by unfold relc; omega), e 15 (by unfold relc; omega), e 16 (by unfold relc; omega), e 17 (by unfold relc; omega)]
    exact hP
  · unfold ivR at hR ⊢
    rw [e104, e 105 (by unfold relc; omega), e 135 (by unfold relc; omega), eA 18 (by omega), eA 25 (by omega), eA 27 (by omega)]
    exact hR
  · unfold ivS at hS ⊢
    rw [e127, e 34 (by unfold relc; omega), e 45 (by unfold relc; omega)]
    exact hS
  · obtain ⟨c, r, h1, h2, h3, h4, h5, h6⟩ := hH
    refine ⟨c, r, h1, h2, (eA 4 (by omega)).trans h3, ?_, ?_, fun j hj => ?_⟩
    · rw [e 56 (by unfold relc; omega)]; exact h4
    · rw [e 56 (by unfold relc; omega)]; exact h5
    · have q := h6 j hj
      have hm : (r + 5 - c + j) % 5 < 5 := Nat.mod_lt _ (by omega)
      generalize (r + 5 - c + j) % 5 = ρ at q hm ⊢
      rw [e 129 (by unfold relc; omega), e 58 (by unfold relc; omega), e127]
      have ec : cGb n I' (fun p => I 129 (250 * j + p)) = cGb n I (fun p => I 129 (250 * j + p)) := by
        unfold cGb; rw [e 2 (by unfold relc; omega), e 3 (by unfold relc; omega), e 4 (by unfold relc; omega), e 5 (by unfold relc; omega), e 6 (by unfold relc; omega)]
      rw [ec]
      obtain ⟨q1, q2, q3, q4, q5, q6⟩ := q
      have er : ∀ i, i < 9 → I' (59 + 9 * ρ + i) = I (59 + 9 * ρ + i) := fun i hi => e _ (by unfold relc; omega)
      exact ⟨q1, q2, q3, cSt_ext q4 hA.1.1.2.1 (fun j _ _ => congrFun (er 0 (by omega)) j) (fun j _ => congrFun (er 1 (by omega)) j) (fun j _ => congrFun (er 2 (by omega)) j) (fun i j i1 i2 _ => congrFun (er i (by omega)) j) (fun j _ => congrFun (er 8 (by omega)) j), q5, q6⟩
theorem iv_scr2 (h : iv g I) (e : ∀ a, ¬ a = 55 → ¬ a = 142 → I' a = I a) : iv g I' := by
  refine iv_scr h (fun a ha => ?_) (fun j _ => ?_) ⟨?_, ?_⟩ ?_ ?_
  · unfold relc at ha; exact e a (by omega) (by omega)
  · rw [e 126 (by omega) (by omega)]
  · rw [e 32 (by omega) (by omega)]
  · rw [e 32 (by omega) (by omega)]
  · obtain ⟨n, ns, -, hT, -⟩ := h
    unfold ivT tk at hT ⊢
    have a1 : xcR false I' 9 = xcR false I 9 := e 46 (by omega) (by omega)
    have a2 : xcR false I' 11 = xcR false I 11 := e 47 (by omega) (by omega)
    rw [a1, a2, e 46 (by omega) (by omega)]
    exact hT
  · exact e 104 (by omega) (by omega)
end xk_ivf
