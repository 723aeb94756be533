/-! soonest: the class -/
/-- the blocks that are free, in their row -/
def fR (l : List Nat) (F : xw) : Prop := ∀ k, k < l.length → F k = nI (l.getD k 0)
def bd (l : List Nat) : Prop := ∀ k, k < l.length → l.getD k 0 < 14
section yk_so
variable {d : Nat} {g : xq_V} {J : Nat → Nat → Int64} {I I' : Nat → Nat → Int32} {Q : Option Value → xq_S → Prop} {n ns c : Nat} {R R' : Nat → xw} {W W' : xw} {l : List Nat}
theorem gD_set {i v k : Nat} (h : i < l.length) : (l.set i v).getD k 0 = if k = i then v else l.getD k 0 := by
  rw [List.getD_eq_getElem?_getD, List.getD_eq_getElem?_getD, List.getElem?_set]
  by_cases e : i = k
  · subst e; rw [if_pos rfl, if_pos h, if_pos rfl]; rfl
  · rw [if_neg e, if_neg (fun z => e z.symm)]
theorem nxS_gD {i j k : Nat} (hi : i < l.length) (hj : j < l.length) : (nxS l i j).getD k 0 = if k = j then l.getD i 0 else if k = i then l.getD j 0 else l.getD k 0 := by
  rw [nxS, gD_set (by rw [List.length_set]; exact hj)]
  by_cases e : k = j
  · rw [if_pos e, if_pos e]
  · rw [if_neg e, if_neg e, gD_set hi]
theorem nxS_bd {i j : Nat} (hi : i < l.length) (hj : j < l.length) (h : bd l) : bd (nxS l i j) := by
  intro k hk
  rw [nxS_len] at hk
  rw [nxS_gD hi hj]
  split
  · exact h i hi
  · split
    · exact h j hj
    · exact h k hk
theorem yl_127 {i j : Nat} (hc : l.length ≤ 6) (hi : i < l.length) (hj : j < l.length) (hf : fR l (I 44)) (hp : ∀ I' : Nat → xw, (∀ a, ¬ a = 44 → I' a = I a) → fR (nxS l i j) (I' 44) → Q none (xq_s g J (xc false I' R))) : xq_wp d 127 (xq_s g J (xc false I R)) 0 [.ref 34, .int (nI i), .int (nI j), xq_un] [] Q := by
  refine yo_127 (d := d) ⟨by omega, by omega, hp _ (fun a ha => by rw [xw_i ha, xw_i ha]) (fun k hk => ?_)⟩
  rw [nxS_len] at hk
  rw [nxS_gD hi hj]
  by_cases e : k = j
  · subst e; rw [xw_v, if_pos rfl]; exact hf i hi
  · rw [xw_x e, if_neg e]
    by_cases e2 : k = i
    · subst e2; rw [xw_v, if_pos rfl]; exact hf j hj
    · rw [xw_x e2, if_neg e2]; exact hf k hk
theorem yl_126_78 {i : Nat} {u3 : Value} (hc : c ≤ 6) (hi : i + 1 < c) : ∀ (t a : Nat) (l : List Nat) (I : Nat → xw), l.length = c → i + 1 ≤ a → a ≤ c + i → c + i - a ≤ a + 2 * t → fR l (I 44) → (∀ I' : Nat → xw, (∀ a, ¬ a = 44 → I' a = I a) → fR (nxR t l a (c + i - a)) (I' 44) → Q (some (.int (nI 1))) (xq_s g J (xc false I' R))) → xq_wp (d + 1) 126 (xq_s g J (xc false I R)) 78 [.ref 34, .int (nI c), .int (nI i), u3, .int (nI a)] [] Q := by
  intro t
  induction t with
  | zero =>
    intro a l I hl h1 h2 h3 hf hp
    exact yo_126_78 (d := d) ⟨h2, by omega, by omega, fun z => by omega, fun _ => hp I (fun _ _ => rfl) hf⟩
  | succ t ih =>
    intro a l I hl h1 h2 h3 hf hp
    rw [nxR] at hp
    refine yo_126_78 (d := d) ⟨h2, by omega, by omega, fun z => ⟨h2, ?_⟩, fun z => ?_⟩
    · rw [if_pos z] at hp
      refine yl_127 (l := l) (by omega) (by omega) (by omega) hf (fun I1 e1 f1 => yo_126_101 (d := d + 1) ?_)
      refine ih (a + 1) _ I1 (by rw [nxS_len]; exact hl) (by omega) (by omega) (by omega) f1 (fun I' e2 f2 => hp I' (fun a ha => (e2 a ha).trans (e1 a ha)) ?_)
      rw [show c + i - (a + 1) = c + i - a - 1 by omega] at f2
      exact f2
    · rw [if_neg z] at hp
      exact hp I (fun _ _ => rfl) hf
theorem yl_126_41 {i : Nat} {u4 : Value} (hl : l.length = c) (hc : c ≤ 6) (hi : i + 1 < c) (hb : bd l) (hf : fR l (I 44)) (hp : ∀ I' : Nat → xw, (∀ a, ¬ a = 44 → I' a = I a) → fR (nxR c (nxS l i (nxJ l (l.getD i 0) c)) (i + 1) (c - 1)) (I' 44) → Q (some (.int (nI 1))) (xq_s g J (xc false I' R))) : ∀ (j : Nat), i ≤ j → j < c → nxJ l (l.getD i 0) (j + 1) = nxJ l (l.getD i 0) c → xq_wp (d + 1) 126 (xq_s g J (xc false I R)) 41 [.ref 34, .int (nI c), .int (nI i), .int (nI j), u4] [] Q := by
  have fin : ∀ j, i ≤ j → j < c → nxJ l (l.getD i 0) c = j → xq_wp d 127 (xq_s g J (xc false I R)) 0 [.ref 34, .int (nI i), .int (nI j), xq_un] [] (fun v x1 => xq_wp (d + 1) 126 x1 73 [.ref 34, .int (nI c), .int (nI i), .int (nI j), u4] (v.toList ++ []) Q) := by
    intro j h1 h2 e
    rw [e] at hp
    refine yl_127 (l := l) (by omega) (by omega) (by omega) hf (fun I1 e1 f1 => yo_126_73 (d := d + 1) ?_)
    refine yl_126_78 hc hi c (i + 1) _ I1 (by rw [nxS_len]; exact hl) (by omega) (by omega) (by omega) f1 (fun I' e2 f2 => hp I' (fun a ha => (e2 a ha).trans (e1 a ha)) ?_)
    rw [show c + i - (i + 1) = c - 1 by omega] at f2
    exact f2
  intro j
  induction j with
  | zero =>
    intro h1 h2 h3
    refine yo_126_41 (d := d) (x := 0) (y := 0) ⟨by omega, by omega, fun z => by omega, fun _ => fin 0 h1 h2 ?_⟩
    have : i = 0 := by omega
    subst this
    rw [← h3, nxJ, if_neg (Nat.lt_irrefl _)]
  | succ j ih =>
    intro h1 h2 h3
    have b1 := hb (j + 1) (by omega)
    have b2 := hb i (by omega)
    rw [nxJ] at h3
    refine yo_126_41 (d := d) (x := l.getD (j + 1) 0) (y := l.getD i 0) ⟨by omega, by omega, fun z => ⟨by omega, hf _ (by omega), by omega, hf _ (by omega), by omega, by omega, fun y => ⟨by omega, ?_⟩, fun y => ?_⟩, fun z => ?_⟩
    · rw [if_pos y] at h3
      exact ih (by omega) (by omega) h3
    · rw [if_neg y] at h3
      exact fin _ h1 h2 h3.symm
    · have e : i = j + 1 := by omega
      rw [← e, if_neg (Nat.lt_irrefl _), e] at h3
      exact fin _ h1 h2 (by rw [e]; exact h3.symm)
theorem yl_126 (hl : l.length = c) (h1 : 1 ≤ c) (hc : c ≤ 6) (hb : bd l) (hf : fR l (I 44)) (hp0 : nx c l = none → Q (some (.int (nI 0))) (xq_s g J (xc false I R))) (hp1 : ∀ l', nx c l = some l' → ∀ I' : Nat → xw, (∀ a, ¬ a = 44 → I' a = I a) → fR l' (I' 44) → Q (some (.int (nI 1))) (xq_s g J (xc false I' R))) : xq_wp (d + 1) 126 (xq_s g J (xc false I R)) 0 [.ref 34, .int (nI c), xq_un, xq_un, xq_un] [] Q := by
  have no : nxI l (c - 1) = none → nx c l = none := fun e => by rw [nx, e]
  have fin : ∀ i (u4 : Value), i + 1 < c → nxI l (c - 1) = some i → xq_wp (d + 1) 126 (xq_s g J (xc false I R)) 41 [.ref 34, .int (nI c), .int (nI i), .int (nI (c - 1)), u4] [] Q := by
    intro i u4 hi e
    refine yl_126_41 hl hc hi hb hf (fun I' e1 f1 => hp1 _ (by rw [nx, e]) I' e1 f1) (c - 1) (by omega) (by omega) (by rw [show c - 1 + 1 = c by omega])
  have lp : ∀ (i : Nat) (u3 u4 : Value), i + 1 < c → nxI l (i + 1) = nxI l (c - 1) → xq_wp (d + 1) 126 (xq_s g J (xc false I R)) 4 [.ref 34, .int (nI c), .int (nI i), u3, u4] [] Q := by
    intro i
    induction i with
    | zero =>
      intro u3 u4 h2 h3
      have b1 := hb 0 (by omega)
      have b2 := hb 1 (by omega)
      rw [nxI] at h3
      refine yo_126_4_0 (d := d + 1) (x := l.getD 0 0) (y := l.getD 1 0) ⟨hf _ (by omega), hf _ (by omega), by omega, by omega, fun y => ?_, fun y => ⟨by omega, ?_⟩⟩
      · rw [if_pos y] at h3
        exact hp0 (no h3.symm)
      · rw [if_neg y] at h3
        exact fin 0 _ h2 h3.symm
    | succ i ih =>
      intro u3 u4 h2 h3
      have b1 := hb (i + 1) (by omega)
      have b2 := hb (i + 1 + 1) (by omega)
      rw [nxI] at h3
      refine yo_126_4 (d := d + 1) (x := l.getD (i + 1) 0) (y := l.getD (i + 1 + 1) 0) ⟨by omega, fun z => by omega, fun _ => ⟨by omega, hf _ (by omega), by omega, hf _ (by omega), by omega, by omega, fun y => ⟨by omega, ?_⟩, fun y => ⟨by omega, ?_⟩⟩⟩
      · rw [if_pos y] at h3
        exact ih _ _ (by omega) h3
      · rw [if_neg y] at h3
        exact fin _ _ h2 h3.symm
  rcases Nat.lt_or_ge c 2 with q | q
  · have e : c = 1 := by omega
    subst e
    exact yo_126_1 (d := d + 1) (hp0 (no rfl))
  · exact yo_126 (d := d + 1) ⟨q, lp (c - 2) _ _ (by omega) (by rw [show c - 2 + 1 = c - 1 by omega])⟩
theorem yl_124_4 (hn : n ≤ 14) (e0 : I 2 0 = nI n) (e4 : ∀ b, b < n → I 22 b = W (50 + 14 * b + 4)) (big : ¬ (flN W n).length ≤ 6 → ∀ I' : Nat → xw, (∀ a, ¬ a = 44 → I' a = I a) → Q (some (.int (nI 0))) (xq_s g J (xc false I' R))) (hp : (flN W n).length ≤ 6 → ∀ I' : Nat → xw, (∀ a, ¬ a = 44 → I' a = I a) → fR (flN W n) (I' 44) → Q (some (.int (nI (flN W n).length))) (xq_s g J (xc false I' R))) : ∀ (t b : Nat) (I' : Nat → xw), b + t = n → (flN W b).length ≤ 6 → (∀ a, ¬ a = 44 → I' a = I a) → fR (flN W b) (I' 44) → xq_wp d 124 (xq_s g J (xc false I' R)) 4 [.ref 34, .int (nI (flN W b).length), .int (nI b)] [] Q := by
  have mono : ∀ (t b : Nat), (flN W b).length ≤ (flN W (b + t)).length := by
    intro t
    induction t with
    | zero => intro b; exact Nat.le_refl _
    | succ t ih => intro b; rw [← Nat.add_assoc, flN, List.length_append]; exact Nat.le_trans (ih b) (Nat.le_add_right _ _)
  intro t
  induction t with
  | zero =>
    intro b I' e h6 e1 f1
    have eb : b = n := by omega
    subst eb
    exact yo_124_4 (d := d) (n := b) ⟨by rw [e1 2 (by omega)]; exact e0, by omega, by omega, fun z => by omega, fun _ => hp h6 I' e1 f1⟩
  | succ t ih =>
    intro b I' e h6 e1 f1
    have hb : b < n := by omega
    refine yo_124_4 (d := d) (n := n) ⟨by rw [e1 2 (by omega)]; exact e0, by omega, by omega, fun _ => ⟨by omega, fun z => ?_, fun z => ⟨by omega, fun y => ?_, fun y => ⟨by omega, ?_⟩⟩⟩, fun z => by omega⟩
    · rw [e1 22 (by omega), e4 b hb] at z
      have q := ih (b + 1) I' (by omega)
      rw [flN, if_pos z, List.append_nil] at q
      exact q h6 e1 f1
    · rw [e1 22 (by omega), e4 b hb] at z
      refine big (fun q => ?_) I' e1
      have m := mono t (b + 1)
      rw [show b + 1 + t = n by omega, flN, if_neg z, List.length_append] at m
      simp only [List.length_cons, List.length_nil] at m
      omega
    · rw [e1 22 (by omega), e4 b hb] at z
      have q := ih (b + 1) (xq_w I' 44 (flN W b).length (nI b)) (by omega)
      rw [flN, if_neg z, List.length_append] at q
      simp only [List.length_cons, List.length_nil, Nat.zero_add] at q
      refine q (by omega) (fun a ha => by rw [xw_i ha]; exact e1 a ha) (fun k hk => ?_)
      rw [List.length_append] at hk
      simp only [List.length_cons, List.length_nil] at hk
      by_cases y2 : k = (flN W b).length
      · subst y2; rw [xw_v, gD_r (Nat.le_refl _), Nat.sub_self]; rfl
      · rw [xw_x y2, gD_l (by omega)]; exact f1 k (by omega)
theorem yl_125_33_38 {u5 : Value} (ho : ok n ns W) (e0 : I 2 0 = nI n) (e3 : ∀ i, i < n → I 21 i = W (30 + i)) (e4 : ∀ b, b < n → I 22 b = W (50 + 14 * b + 4)) (hl : l.length = (flN W n).length) (hp : ∀ V : Nat → xw, (∀ a, ¬ a = 3 → V a = R a) → (∀ k, k < n → V 3 k = nI ((l ++ laN W n).getD k 0)) → Q none (xq_s g J (xc false I V))) : ∀ (t i p : Nat) (V : Nat → xw) (u5 : Value), i + t = n → p = l.length + (laN W i).length → (∀ a, ¬ a = 3 → V a = R a) → (∀ k, k < p → V 3 k = nI ((l ++ laN W n).getD k 0)) → xq_wp d 125 (xq_s g J (xc false I V)) 33 [.ref 34, .ref 38, .int (nI l.length), .int (nI p), .int (nI i), u5] [] Q := by
  have n14 := ho.1.2.1
  have hfl := fl_la ho
  intro t
  induction t with
  | zero =>
    intro i p V u5 e ep e1 f1
    have ei : i = n := by omega
    subst ei
    exact yo_125_33_38 (d := d) (n := i) (o := 0) ⟨by exact e0, by omega, by omega, fun z => by omega, fun _ => hp V e1 (fun k hk => f1 k (by omega))⟩
  | succ t ih =>
    intro i p V u5 e ep e1 f1
    have hi : i < n := by omega
    obtain ⟨o, ho2, eo, io⟩ := ok_or ho hi
    obtain ⟨l1, l2⟩ := la_lt ho i hi
    have ls := la_s (W := W) (i := i)
    rw [io] at l2 ls
    refine yo_125_33_38 (d := d) (n := n) (o := o) ⟨by exact e0, by omega, by omega, fun _ => ⟨by omega, by rw [e3 i hi]; exact eo, by omega, fun z => ⟨by omega, fun y => ?_, fun y => ?_⟩, fun z => ?_⟩, fun z => by omega⟩
    · have z : W (50 + 14 * o + 4) = nI 4 := by rw [← e4 o ho2]; exact z
      have q : ldB W o = true := decide_eq_true z
      obtain ⟨l3, l4⟩ := l2 q
      rw [q, if_pos rfl] at ls
      refine ih (i + 1) (p + 1) _ _ (by omega) (by rw [ls]; omega) (fun a ha => by rw [xw_i ha]; exact e1 a ha) (fun k hk => ?_)
      by_cases y2 : k = p
      · subst y2; rw [xw_v, gD_r (by omega), show k - l.length = (laN W i).length by omega, l4]
      · rw [xw_x y2]; exact f1 k (by omega)
    · have z : W (50 + 14 * o + 4) = nI 4 := by rw [← e4 o ho2]; exact z
      have q : ldB W o = true := decide_eq_true z
      obtain ⟨l3, l4⟩ := l2 q
      omega
    · have z : ¬ W (50 + 14 * o + 4) = nI 4 := by rw [← e4 o ho2]; exact z
      have q : ldB W o = false := decide_eq_false z
      rw [q] at ls
      exact ih (i + 1) p V _ (by omega) (by rw [ls]; exact ep) e1 f1
theorem yl_125_38 (ho : ok n ns W) (e0 : I 2 0 = nI n) (e3 : ∀ i, i < n → I 21 i = W (30 + i)) (e4 : ∀ b, b < n → I 22 b = W (50 + 14 * b + 4)) (hl : l.length = (flN W n).length) (h6 : l.length ≤ 6) (hf : fR l (I 44)) (hp : ∀ V : Nat → xw, (∀ a, ¬ a = 3 → V a = R a) → (∀ k, k < n → V 3 k = nI ((l ++ laN W n).getD k 0)) → Q none (xq_s g J (xc false I V))) : xq_wp d 125 (xq_s g J (xc false I R)) 0 [.ref 34, .ref 38, .int (nI l.length), xq_un, xq_un, xq_un] [] Q := by
  have n14 := ho.1.2.1
  have hfl := fl_la ho
  have lp : ∀ (t i : Nat) (V : Nat → xw) (u4 u5 : Value), i + t = l.length → (∀ a, ¬ a = 3 → V a = R a) → (∀ k, k < i → V 3 k = nI ((l ++ laN W n).getD k 0)) → xq_wp d 125 (xq_s g J (xc false I V)) 2 [.ref 34, .ref 38, .int (nI l.length), .int (nI i), u4, u5] [] Q := by
    intro t
    induction t with
    | zero =>
      intro i V u4 u5 e e1 f1
      exact yo_125_2_38 (d := d) ⟨by omega, by omega, fun z => by omega, fun _ => yl_125_33_38 (u5 := u5) ho e0 e3 e4 hl hp n 0 l.length V _ (by omega) rfl e1 (fun k hk => f1 k (by omega))⟩
    | succ t ih =>
      intro i V u4 u5 e e1 f1
      refine yo_125_2_38 (d := d) ⟨by omega, by omega, fun _ => ⟨fun _ => ⟨by omega, ih (i + 1) _ _ _ (by omega) (fun a ha => by rw [xw_i ha]; exact e1 a ha) (fun k hk => ?_)⟩, fun z => by omega⟩, fun z => by omega⟩
      by_cases y2 : k = i
      · subst y2; rw [xw_v, gD_l (by omega)]; exact hf k (by omega)
      · rw [xw_x y2]; exact f1 k (by omega)
  exact xq_wp.go (k := 2) (fun F => rfl) (lp l.length 0 R _ _ (by omega) (fun _ _ => rfl) (fun k hk => by omega))
theorem yl_125_33_45 {u5 : Value} (ho : ok n ns W) (e0 : I 2 0 = nI n) (e3 : ∀ i, i < n → I 21 i = W (30 + i)) (e4 : ∀ b, b < n → I 22 b = W (50 + 14 * b + 4)) (hl : l.length = (flN W n).length) (hp : ∀ V : Nat → xw, (∀ a, ¬ a = 45 → V a = I a) → (∀ k, k < n → V 45 k = nI ((l ++ laN W n).getD k 0)) → Q none (xq_s g J (xc false V R))) : ∀ (t i p : Nat) (V : Nat → xw) (u5 : Value), i + t = n → p = l.length + (laN W i).length → (∀ a, ¬ a = 45 → V a = I a) → (∀ k, k < p → V 45 k = nI ((l ++ laN W n).getD k 0)) → xq_wp d 125 (xq_s g J (xc false V R)) 33 [.ref 34, .ref 45, .int (nI l.length), .int (nI p), .int (nI i), u5] [] Q := by
  have n14 := ho.1.2.1
  have hfl := fl_la ho
  intro t
  induction t with
  | zero =>
    intro i p V u5 e ep e1 f1
    have ei : i = n := by omega
    subst ei
    exact yo_125_33_45 (d := d) (n := i) (o := 0) ⟨by rw [e1 2 (by omega)]; exact e0, by omega, by omega, fun z => by omega, fun _ => hp V e1 (fun k hk => f1 k (by omega))⟩
  | succ t ih =>
    intro i p V u5 e ep e1 f1
    have hi : i < n := by omega
    obtain ⟨o, ho2, eo, io⟩ := ok_or ho hi
    obtain ⟨l1, l2⟩ := la_lt ho i hi
    have ls := la_s (W := W) (i := i)
    rw [io] at l2 ls
    refine yo_125_33_45 (d := d) (n := n) (o := o) ⟨by rw [e1 2 (by omega)]; exact e0, by omega, by omega, fun _ => ⟨by omega, by rw [e1 21 (by omega)]; rw [e3 i hi]; exact eo, by omega, fun z => ⟨by omega, fun y => ?_, fun y => ?_⟩, fun z => ?_⟩, fun z => by omega⟩
    · have z : W (50 + 14 * o + 4) = nI 4 := by rw [← e4 o ho2, ← e1 22 (by omega)]; exact z
      have q : ldB W o = true := decide_eq_true z
      obtain ⟨l3, l4⟩ := l2 q
      rw [q, if_pos rfl] at ls
      refine ih (i + 1) (p + 1) _ _ (by omega) (by rw [ls]; omega) (fun a ha => by rw [xw_i ha]; exact e1 a ha) (fun k hk => ?_)
      by_cases y2 : k = p
      · subst y2; rw [xw_v, gD_r (by omega), show k - l.length = (laN W i).length by omega, l4]
      · rw [xw_x y2]; exact f1 k (by omega)
    · have z : W (50 + 14 * o + 4) = nI 4 := by rw [← e4 o ho2, ← e1 22 (by omega)]; exact z
      have q : ldB W o = true := decide_eq_true z
      obtain ⟨l3, l4⟩ := l2 q
      omega
    · have z : ¬ W (50 + 14 * o + 4) = nI 4 := by rw [← e4 o ho2, ← e1 22 (by omega)]; exact z
      have q : ldB W o = false := decide_eq_false z
      rw [q] at ls
      exact ih (i + 1) p V _ (by omega) (by rw [ls]; exact ep) e1 f1
theorem yl_125_45 (ho : ok n ns W) (e0 : I 2 0 = nI n) (e3 : ∀ i, i < n → I 21 i = W (30 + i)) (e4 : ∀ b, b < n → I 22 b = W (50 + 14 * b + 4)) (hl : l.length = (flN W n).length) (h6 : l.length ≤ 6) (hf : fR l (I 44)) (hp : ∀ V : Nat → xw, (∀ a, ¬ a = 45 → V a = I a) → (∀ k, k < n → V 45 k = nI ((l ++ laN W n).getD k 0)) → Q none (xq_s g J (xc false V R))) : xq_wp d 125 (xq_s g J (xc false I R)) 0 [.ref 34, .ref 45, .int (nI l.length), xq_un, xq_un, xq_un] [] Q := by
  have n14 := ho.1.2.1
  have hfl := fl_la ho
  have lp : ∀ (t i : Nat) (V : Nat → xw) (u4 u5 : Value), i + t = l.length → (∀ a, ¬ a = 45 → V a = I a) → (∀ k, k < i → V 45 k = nI ((l ++ laN W n).getD k 0)) → xq_wp d 125 (xq_s g J (xc false V R)) 2 [.ref 34, .ref 45, .int (nI l.length), .int (nI i), u4, u5] [] Q := by
    intro t
    induction t with
    | zero =>
      intro i V u4 u5 e e1 f1
      exact yo_125_2_45 (d := d) ⟨by omega, by omega, fun z => by omega, fun _ => yl_125_33_45 (u5 := u5) ho e0 e3 e4 hl hp n 0 l.length V _ (by omega) rfl e1 (fun k hk => f1 k (by omega))⟩
    | succ t ih =>
      intro i V u4 u5 e e1 f1
      refine yo_125_2_45 (d := d) ⟨by omega, by omega, fun _ => ⟨fun _ => ⟨by omega, ih (i + 1) _ _ _ (by omega) (fun a ha => by rw [xw_i ha]; exact e1 a ha) (fun k hk => ?_)⟩, fun z => by omega⟩, fun z => by omega⟩
      by_cases y2 : k = i
      · subst y2; rw [xw_v, gD_l (by omega), e1 44 (by omega)]; exact hf k (by omega)
      · rw [xw_x y2]; exact f1 k (by omega)
  exact xq_wp.go (k := 2) (fun F => rfl) (lp l.length 0 I _ _ (by omega) (fun _ _ => rfl) (fun k hk => by omega))
end yk_so
