/-! soonest: the model -/
/-- the best so far, as the model keeps it -/
def oB (n : Nat) (t : Int32 × List Nat) (A B : xw) : Prop := A 35 = t.1 ∧ (t.1 = Int32.ofInt (-1) ∨ ∃ j, j ≤ 19500 ∧ t.1 = nI j) ∧ (¬ t.1 = Int32.ofInt (-1) → ∀ k, k < n → B k = nI (t.2.getD k 0))
section xk_so
variable {d : Nat} {g : xq_V} {J : Nat → Nat → Int64} {I : Nat → Nat → Int32} {Q : Option Value → xq_S → Prop} {n ns m : Nat} {A W P F N Y X B : xw} {t : Int32 × List Nat}
theorem xl_256_10 {l : List Nat} {a0 s : Nat} {u4 : Value} (ho : ok n ns W) (hl : ∀ k, k < n → X k = nI (l.getD k 0)) (hp : xq_wp d 253 (xq_s g J (xt I A (thO n W l) P F N Y X B)) 0 [.ref 126, .int (Int32.ofInt (-1)), .int (nI 0), xq_un] [] (fun v x1 => xq_wp (d + 1) 256 x1 47 [.ref 126, .int (nI a0), .int (nI s), .int (nI n), u4] (v.toList ++ []) Q)) : ∀ (c i : Nat) (V : xw), i + c = n → (∀ p, V p = if 30 ≤ p ∧ p < 30 + i then X (p - 30) else th_0 W p) → xq_wp (d + 1) 256 (xq_s g J (xt I A V P F N Y X B)) 10 [.ref 126, .int (nI a0), .int (nI s), .int (nI i), u4] [] Q := by
  have n14 := ho.1.2.1
  intro c
  induction c with
  | zero =>
    intro i V e h
    have ei : i = n := by omega
    subst ei
    have eV : V = thO i W l := by
      funext p
      rw [h p, thO]
      by_cases q : 30 ≤ p ∧ p < 30 + i
      · rw [if_pos q, if_pos q, hl _ (by omega)]
      · rw [if_neg q, if_neg q]
    subst eV
    refine xo_256_10 (d := d) (n := i) ⟨?_, by omega, by omega, fun z => by omega, fun _ => hp⟩
    rw [thO_o (by omega), th_0, upd_ne (by omega)]; exact ho.1.1
  | succ c ih =>
    intro i V e h
    refine xo_256_10 (d := d) (n := n) ⟨?_, by omega, by omega, fun _ => ⟨by omega, by omega, ih (i + 1) _ (by omega) (fun p => ?_)⟩, fun z => by omega⟩
    · rw [h 0, if_neg (by omega), th_0, upd_ne (by omega)]; exact ho.1.1
    · by_cases q : p = 30 + i
      · subst q; rw [upd_eq, if_pos (by omega), show 30 + i - 30 = i by omega]
      · rw [upd_ne q, h p]
        by_cases q2 : 30 ≤ p ∧ p < 30 + i
        · rw [if_pos q2, if_pos (by omega)]
        · rw [if_neg q2, if_neg (by omega)]
theorem xl_256_82 {l : List Nat} {a0 s : Nat} {wk : Int32} (ho : ok n ns W) (hl : ∀ k, k < n → X k = nI (l.getD k 0)) (hp : ∀ B' : xw, (∀ k, k < n → B' k = nI (l.getD k 0)) → Q none (xq_s g J (xt I A W P F N Y X B'))) : ∀ (c i : Nat) (B : xw), i + c = n → (∀ k, k < i → B k = nI (l.getD k 0)) → xq_wp d 256 (xq_s g J (xt I A W P F N Y X B)) 82 [.ref 126, .int (nI a0), .int (nI s), .int wk, .int (nI i)] [] Q := by
  have n14 := ho.1.2.1
  intro c
  induction c with
  | zero =>
    intro i B e h
    exact xo_256_82 (d := d) (n := n) ⟨ho.1.1, by omega, by omega, fun z => by omega, fun _ => hp B (fun k hk => h k (by omega))⟩
  | succ c ih =>
    intro i B e h
    refine xo_256_82 (d := d) (n := n) ⟨ho.1.1, by omega, by omega, fun _ => ⟨by omega, ih (i + 1) _ (by omega) (fun k hk => ?_)⟩, fun z => by omega⟩
    by_cases q : k = i
    · subst q; rw [upd_eq]; exact hl k (by omega)
    · rw [upd_ne q]; exact h k (by omega)
/-- one order is tried -/
theorem xl_256_0 {r : List Nat} {a0 : Nat} (ho : ok n ns W) (hw : thw W) (h29 : A 29 = Int32.ofInt (-1)) (hr : r.Perm (flN W n)) (hX : ∀ k, k < n → X k = nI ((r ++ laN W n).getD k 0)) (hB : oB n t A B) (hp : ∀ (A' P' F' N' Y' B' : xw), (∀ j, ¬ j = 30 → ¬ j = 35 → A' j = A j) → oB n (snS n W t r) A' B' → Q none (xq_s g J (xt I A' W P' F' N' Y' X B'))) : xq_wp (d + 8) 256 (xq_s g J (xt I A W P F N Y X B)) 0 [.ref 126, .int (nI a0), .int (nI 0), xq_un, xq_un] [] Q := by
  have n14 := ho.1.2.1
  refine xo_256 (d := d + 7) (s := 0) ⟨by omega, fun _ => xl_252 (fun Y1 hY1 => xo_256_8 (d := d + 8) ?_), fun z => absurd rfl z⟩
  refine xl_256_10 (d := d + 7) (W := W) (l := r ++ laN W n) ho hX ?_ n 0 _ (by omega) (fun p => by rw [if_neg (by omega)]; rfl)
  refine xl_253 (d := d) (so_ok ho hr) h29 (by rw [thO_o (by omega), th_0, upd_eq]) (so_thw hw) (by omega) (fun v' P' F' N' W' hW' => xo_256_47 (d := d + 7) ?_)
  refine xl_254 (Wo := W) hY1 (fun p hp' => by rw [hW' p hp', thO_o (by omega), th_0, upd_ne (by omega)]) ?_
  obtain ⟨b1, b2, b3⟩ := hB
  have cv := th_close_val (blk := Int32.ofInt (-1)) (idle := 0) (so_ok ho hr) (so_thw (n := n) (l := r ++ laN W n) hw)
  have a35 : upd A 30 v' 35 = t.1 := by rw [upd_ne (by omega)]; exact b1
  have hS : snS n W t r = if th_close n (Int32.ofInt (-1)) 0 (thO n W (r ++ laN W n)) = Int32.ofInt (-1) ∨ (¬ t.1 = Int32.ofInt (-1) ∧ ¬ th_close n (Int32.ofInt (-1)) 0 (thO n W (r ++ laN W n)) < t.1) then t else (th_close n (Int32.ofInt (-1)) 0 (thO n W (r ++ laN W n)), r ++ laN W n) := rfl
  generalize th_close n (Int32.ofInt (-1)) 0 (thO n W (r ++ laN W n)) = wk at *
  have st : (wk = Int32.ofInt (-1) ∨ (¬ t.1 = Int32.ofInt (-1) ∧ ¬ wk < t.1)) → Q none (xq_s g J (xt I (upd A 30 v') W P' F' N' Y1 X B)) := fun q => by
    rw [if_pos q] at hS
    exact hp _ _ _ _ _ _ (fun j j1 j2 => upd_ne j1) (by rw [hS]; exact ⟨a35, b2, b3⟩)
  have ch : ¬ (wk = Int32.ofInt (-1) ∨ (¬ t.1 = Int32.ofInt (-1) ∧ ¬ wk < t.1)) → xq_wp (d + 8) 256 (xq_s g J (xt I (upd (upd A 30 v') 35 wk) W P' F' N' Y1 X B)) 82 [.ref 126, .int (nI a0), .int (nI 0), .int wk, .int (nI 0)] [] Q := fun q => by
    rw [if_neg q] at hS
    exact xl_256_82 ho hX (fun B' hB' => hp _ _ _ _ _ _ (fun j j1 j2 => by rw [upd_ne j2, upd_ne j1]) (by rw [hS]; exact ⟨upd_eq, cv, fun _ => hB'⟩)) n 0 B (by omega) (fun k hk => by omega)
  refine xo_256_52 (d := d + 8) ⟨fun z => st (Or.inl z), fun z => ⟨fun z2 => ch ?_, fun z2 => ⟨fun z3 => ch ?_, fun z3 => st (Or.inr ⟨?_, ?_⟩)⟩⟩⟩
  · rw [a35] at z2
    rintro (q | q)
    · exact z q
    · exact q.1 z2
  · rw [a35] at z3
    rintro (q | q)
    · exact z q
    · exact q.2 z3
  · rw [a35] at z2; exact z2
  · rw [a35] at z3; exact z3
theorem gD_l {l1 l2 : List Nat} {k : Nat} (h : k < l1.length) : (l1 ++ l2).getD k 0 = l1.getD k 0 := by
  rw [List.getD_eq_getElem?_getD, List.getD_eq_getElem?_getD, List.getElem?_append_left h]
theorem gD_r {l1 l2 : List Nat} {k : Nat} (h : l1.length ≤ k) : (l1 ++ l2).getD k 0 = l2.getD (k - l1.length) 0 := by
  rw [List.getD_eq_getElem?_getD, List.getD_eq_getElem?_getD, List.getElem?_append_right h]
/-- what an order's beginning holds -/
def oX (n m : Nat) (W : xw) (pre : List Nat) (X : xw) : Prop := (∀ k, k < pre.length → X k = nI (pre.getD k 0)) ∧ ∀ k, m ≤ k → k < n → X k = nI ((laN W n).getD (k - m) 0)
theorem oX_s {pre : List Nat} {b : Nat} (h : oX n m W pre X) (hm : pre.length < m) : oX n m W (pre ++ [b]) (upd X pre.length (nI b)) := by
  refine ⟨fun k hk => ?_, fun k k1 k2 => ?_⟩
  · rw [List.length_append] at hk
    simp only [List.length_cons, List.length_nil] at hk
    by_cases e : k = pre.length
    · subst e; rw [upd_eq, gD_r (Nat.le_refl _), Nat.sub_self]; rfl
    · rw [upd_ne e, gD_l (by omega)]; exact h.1 k (by omega)
  · rw [upd_ne (by omega)]; exact h.2 k k1 k2
theorem oX_fr {pre : List Nat} {X' : xw} (h : oX n m W pre X) (e : ∀ k, k < pre.length ∨ m ≤ k → X' k = X k) : oX n m W pre X' := ⟨fun k hk => (e k (Or.inl hk)).trans (h.1 k hk), fun k k1 k2 => (e k (Or.inr k1)).trans (h.2 k k1 k2)⟩
theorem xl_256 (ho : ok n ns W) (hw : thw W) (em : (flN W n).length = m) : ∀ (c s : Nat) (pre : List Nat) (t : Int32 × List Nat) (A P F N Y X B : xw) (Q : Option Value → xq_S → Prop), s < 2 ^ n → (bl n s).length = c → pre.length + c = m → oX n m W pre X → (pre ++ bl n s).Perm (flN W n) → oB n t A B → A 29 = Int32.ofInt (-1) → (∀ (A' P' F' N' Y' X' B' : xw), (∀ j, ¬ j = 30 → ¬ j = 35 → A' j = A j) → (∀ k, k < pre.length ∨ m ≤ k → X' k = X k) → oB n ((pm c (bl n s)).foldl (fun t r => snS n W t (pre ++ r)) t) A' B' → Q none (xq_s g J (xt I A' W P' F' N' Y' X' B'))) → xq_wp (d + 8 + c) 256 (xq_s g J (xt I A W P F N Y X B)) 0 [.ref 126, .int (nI pre.length), .int (nI s), xq_un, xq_un] [] Q := by
  have n14 := ho.1.2.1
  have hp14 : 2 ^ n ≤ 2 ^ 14 := Nat.pow_le_pow_right (by omega) n14
  have hfl := fl_la ho
  intro c
  induction c with
  | zero =>
    intro s pre t A P F N Y X B Q hs hc hm hX hpm hB h29 hp
    have es : s = 0 := by
      apply Nat.eq_of_testBit_eq
      intro x
      rw [Nat.zero_testBit]
      by_cases q : x < n
      · have : ¬ x ∈ bl n s := by rw [List.eq_nil_of_length_eq_zero hc]; exact List.not_mem_nil
        rw [bl_mem] at this
        cases e : s.testBit x
        · rfl
        · exact absurd ⟨q, e⟩ this
      · exact nb_lt hs (by omega)
    subst es
    rw [List.eq_nil_of_length_eq_zero hc, List.append_nil] at hpm
    refine xl_256_0 (d := d) (r := pre) ho hw h29 hpm (fun k hk => ?_) hB (fun A' P' F' N' Y' B' e1 e2 => hp A' P' F' N' Y' X B' e1 (fun _ _ => rfl) ?_)
    · rcases Nat.lt_or_ge k pre.length with q | q
      · rw [gD_l q]; exact hX.1 k q
      · rw [gD_r q, show k - pre.length = k - m by omega]; exact hX.2 k (by omega) hk
    · rw [show pm 0 (bl n 0) = [[]] from rfl, List.foldl_cons, List.foldl_nil, List.append_nil]; exact e2
  | succ c ih =>
    intro s pre t A P F N Y X B Q hs hc hm hX hpm hB h29 hp
    have s0 : ¬ s = 0 := fun e => by
      have : bl n 0 = [] := by
        rw [bl_eq]
        exact List.filter_eq_nil_iff.mpr (fun x _ => by rw [Nat.zero_testBit]; decide)
      rw [e, this] at hc
      exact absurd hc (by simp)
    have lp : ∀ (j b : Nat) (t : Int32 × List Nat) (A P F N Y X B : xw) (u4 : Value), b + j = n → oX n m W pre X → oB n t A B → A 29 = Int32.ofInt (-1) → (∀ (A' P' F' N' Y' X' B' : xw), (∀ j, ¬ j = 30 → ¬ j = 35 → A' j = A j) → (∀ k, k < pre.length ∨ m ≤ k → X' k = X k) → oB n (((bq s b j).flatMap (fun b => (pm c ((bl n s).erase b)).map (fun r => b :: r))).foldl (fun t r => snS n W t (pre ++ r)) t) A' B' → Q none (xq_s g J (xt I A' W P' F' N' Y' X' B'))) → xq_wp (d + 8 + c + 1) 256 (xq_s g J (xt I A W P F N Y X B)) 116 [.ref 126, .int (nI pre.length), .int (nI s), .int (nI b), u4] [] Q := by
      intro j
      induction j with
      | zero =>
        intro b t A P F N Y X B u4 e hX hB h29 hp
        exact xo_256_116 (d := d + 8 + c) (n := n) ⟨ho.1.1, by omega, by omega, fun z => by omega, fun _ => hp A P F N Y X B (fun _ _ _ => rfl) (fun _ _ => rfl) hB⟩
      | succ j jh =>
        intro b t A P F N Y X B u4 e hX hB h29 hp
        have s31 : s < 2 ^ 31 := by omega
        refine xo_256_116 (d := d + 8 + c) (n := n) ⟨ho.1.1, by omega, by omega, fun hb => ⟨fun z => ?_, fun z => ?_⟩, fun z => by omega⟩
        · rw [nb_b0 s31 (by omega)] at z
          rw [bq_s, if_neg (by rw [z]; decide)] at hp
          exact jh (b + 1) t A P F N Y X B u4 (by omega) hX hB h29 hp
        · rw [nb_b0 s31 (by omega)] at z
          have z : s.testBit b = true := by
            cases q : s.testBit b
            · exact absurd q z
            · rfl
          rw [bq_s, if_pos z] at hp
          have hbm : b ∈ bl n s := bl_mem.mpr ⟨hb, z⟩
          refine ⟨by omega, ?_⟩
          rw [nb_clr (by omega) (by omega) z, nI_add]
          have key := ih (s ^^^ 2 ^ b) (pre ++ [b]) t A P F N Y (upd X pre.length (nI b)) B (fun v x1 => xq_wp (d + 8 + c + 1) 256 x1 158 [.ref 126, .int (nI pre.length), .int (nI s), .int (nI b), u4] (v.toList ++ []) Q) (nb_xlt hs hb) (by rw [bl_er z, List.length_erase_of_mem hbm]; omega) (by rw [List.length_append]; simp only [List.length_cons, List.length_nil]; omega) (oX_s hX (by omega)) (by
            rw [bl_er z, List.append_assoc]
            exact ((List.perm_cons_erase hbm).symm.append_left pre).trans hpm) hB h29
          rw [show (pre ++ [b]).length = pre.length + 1 by rw [List.length_append]; rfl] at key
          refine key (fun A' P' F' N' Y' X' B' e1 e2 e3 => xo_256_158 (d := d + 8 + c + 1) ?_)
          have fX : ∀ k, k < pre.length ∨ m ≤ k → X' k = X k := fun k hk => by rw [e2 k (by omega), upd_ne (by omega)]
          refine jh (b + 1) _ A' P' F' N' Y' X' B' u4 (by omega) (oX_fr hX fX) e3 (by rw [e1 29 (by omega) (by omega)]; exact h29) (fun A2 P2 F2 N2 Y2 X2 B2 f1 f2 f3 => hp A2 P2 F2 N2 Y2 X2 B2 (fun j j1 j2 => (f1 j j1 j2).trans (e1 j j1 j2)) (fun k hk => (f2 k hk).trans (fX k hk)) ?_)
          rw [List.flatMap_cons, List.foldl_append, List.foldl_map]
          rw [bl_er z] at f3
          have ef : (fun (t : Int32 × List Nat) (r : List Nat) => snS n W t (pre ++ [b] ++ r)) = (fun t r => snS n W t (pre ++ (b :: r))) := by
            funext t r; rw [List.append_assoc]; rfl
          rw [ef] at f3
          exact f3
    refine xo_256 (d := d + 8 + c) ⟨by omega, fun z => absurd z s0, fun _ => lp n 0 t A P F N Y X B _ (by omega) hX hB h29 hp⟩
end xk_so
