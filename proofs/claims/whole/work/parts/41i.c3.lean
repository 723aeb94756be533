/-! the class: how far a block goes -/
section yk_c3
variable {d : Nat} {g : xq_V} {J : Nat → Nat → Int64} {I : Nat → Nat → Int32} {Q : Option Value → xq_S → Prop} {q : Bool} {n ns : Nat} {R : Nat → xw} {W : xw} {p l t e s : Nat} {sl : Value}
theorem y84_kn (hl : l < 16) (he : I 11 l = nI e) (h400 : e ≤ 400) (hpe : p < e) (hs : I 10 p = nI s) (h8 : s < 8) (ht : t < 40) (hp : xq_wp (d + 1) 84 (xq_s g J (xc q I (xq_w R 16 t (R 17 s)))) 20 [.ref 9, .int (nI (p + 1)), .int (nI l), .int (nI (t + 1)), .int (nI s)] [] Q) : xq_wp (d + 1) 84 (xq_s g J (xc q I R)) 20 [.ref 9, .int (nI p), .int (nI l), .int (nI t), sl] [] Q := by
  refine yu_84_20 (e := e) (s := s) ?_
  (repeat' first | apply And.intro | intro _) <;> first | exact he | exact hs | exact hp | omega | (exfalso; omega)
theorem y84_nu (hl : l < 16) (he : I 11 l = nI e) (h400 : e ≤ 400) (hpe : p < e) (hs : I 10 p = nI s) (h8 : 100 ≤ s) (h9 : s < 20000) (ht : t < 40) (hp : xq_wp (d + 1) 84 (xq_s g J (xc q I (xq_w R 16 t (nI (s - 100))))) 20 [.ref 9, .int (nI (p + 1)), .int (nI l), .int (nI (t + 1)), .int (nI s)] [] Q) : xq_wp (d + 1) 84 (xq_s g J (xc q I R)) 20 [.ref 9, .int (nI p), .int (nI l), .int (nI t), sl] [] Q := by
  refine yu_84_20 (e := e) (s := s) ?_
  (repeat' first | apply And.intro | intro _) <;> first | exact he | exact hs | exact hp | omega | (exfalso; omega)
theorem y84_no (hl : l < 16) (he : I 11 l = nI e) (h400 : e ≤ 400) (hpe : p < e) (hs : I 10 p = nI 17) (h1 : 1 ≤ t) (ht : t < 40) (hp : xq_wp (d + 1) 84 (xq_s g J (xc q I (xq_w R 16 (t - 1) (nI 1 - R 16 (t - 1))))) 20 [.ref 9, .int (nI (p + 1)), .int (nI l), .int (nI t), .int (nI 17)] [] Q) : xq_wp (d + 1) 84 (xq_s g J (xc q I R)) 20 [.ref 9, .int (nI p), .int (nI l), .int (nI t), sl] [] Q := by
  refine yu_84_20 (e := e) (s := 17) ?_
  (repeat' first | apply And.intro | intro _) <;> first | exact he | exact hs | exact hp | omega | (exfalso; omega)
theorem y84_bi (hl : l < 16) (he : I 11 l = nI e) (h400 : e ≤ 400) (hpe : p < e) (hs : I 10 p = nI s) (h8 : 8 ≤ s) (h17 : s < 17) (h1 : 2 ≤ t) (ht : t < 41) (hp : xq_wp (d + 1) 84 (xq_s g J (xc q I (xq_w R 16 (t - 1 - 1) (cj (nI s) (R 16 (t - 1 - 1)) (R 16 (t - 1)))))) 20 [.ref 9, .int (nI (p + 1)), .int (nI l), .int (nI (t - 1)), .int (nI s)] [] Q) : xq_wp (d + 1) 84 (xq_s g J (xc q I R)) 20 [.ref 9, .int (nI p), .int (nI l), .int (nI t), sl] [] Q := by
  refine yu_84_20 (e := e) (s := s) ?_
  (repeat' first | apply And.intro | intro _) <;> first | exact he | exact hs | exact hp | omega | (exfalso; omega)
/-- the signs of the class over the steps of the model: both are one -/
theorem cj_both {s : Nat} {a b : Int32} (h : (13 ≤ s ∧ s < 16) ∨ (17 ≤ s ∧ s < 20)) : cj (nI (s - 5)) a b = sp_both (nI s) a b := by
  have : s = 13 ∨ s = 14 ∨ s = 15 ∨ s = 17 ∨ s = 18 ∨ s = 19 := by omega
  rcases this with h | h | h | h | h | h <;> subst h <;> rfl
theorem cj_both2 {s : Nat} {a b : Int32} (h : 21 ≤ s ∧ s < 23) : cj (nI (s - 6)) a b = sp_both (nI s) a b := by
  have : s = 21 ∨ s = 22 := by omega
  rcases this with h | h <;> subst h <;> rfl
theorem po_le {C : xw} {po : Nat → Nat} : ∀ (c i : Nat), (∀ j, i ≤ j → j < i + c → cStep C W j (po j) (po (j + 1))) → po i + c ≤ po (i + c) := by
  intro c
  induction c with
  | zero => intro i _; exact Nat.le_refl _
  | succ c ih =>
    intro i h
    have h1 := ih (i + 1) (fun j h1 h2 => h j (by omega) (by omega))
    have h2 : po i + 1 ≤ po (i + 1) := by
      rcases h i (by omega) (by omega) with z | z <;> omega
    rw [show i + (c + 1) = i + 1 + c by omega]
    omega
theorem y84_ev {F : xw} {po : Nat → Nat} {o : Nat} (ho : o ≤ 1) (hl : l < 16) (he : I 11 l = nI e) (h400 : e ≤ 400) : ∀ (c i t h' : Nat) (R : Nat → xw) (P : xw) (sl : Value), (∀ j, i ≤ j → j < i + c → cStep (I 10) W j (po j) (po (j + 1))) → po (i + c) ≤ e → sp_hs W c i t = some h' → t ≤ 30 → (∀ j, j < t → R 16 (o + j) = P j) → (∀ k, k < 8 → R 17 k = F (k + 1)) → (∀ (R' : Nat → xw) (sl' : Value), (∀ j, j < h' → R' 16 (o + j) = sp_ev W F c i P t j) → (∀ j, j < o → R' 16 j = R 16 j) → (∀ a, ¬ a = 16 → R' a = R a) → xq_wp (d + 1) 84 (xq_s g J (xc q I R')) 20 [.ref 9, .int (nI (po (i + c))), .int (nI l), .int (nI (o + h')), sl'] [] Q) → xq_wp (d + 1) 84 (xq_s g J (xc q I R)) 20 [.ref 9, .int (nI (po i)), .int (nI l), .int (nI (o + t)), sl] [] Q := by
  intro c
  induction c with
  | zero =>
    intro i t h' R P sl hc hpo hh ht hP hK hp
    simp only [sp_hs, Option.some.injEq] at hh
    subst hh
    exact hp R sl hP (fun _ _ => rfl) (fun _ _ => rfl)
  | succ c ih =>
    intro i t h' R P sl hc hpo hh ht hP hK hp
    obtain ⟨s, hs, es, cs⟩ := sp_hs1 hh
    have hle := po_le c (i + 1) (fun j h1 h2 => hc j (by omega) (by omega))
    rw [show i + (c + 1) = i + 1 + c by omega] at hpo hp
    have st := hc i (by omega) (by omega)
    -- one step done: go on
    have go : ∀ (t1 : Nat) (R1 : Nat → xw) (P1 : xw) (sl1 : Value), sp_hs W c (i + 1) t1 = some h' → t1 ≤ 30 → sp_ev W F (c + 1) i P t = sp_ev W F c (i + 1) P1 t1 → (∀ j, j < t1 → R1 16 (o + j) = P1 j) → (∀ j, j < o → R1 16 j = R 16 j) → (∀ a, ¬ a = 16 → R1 a = R a) → xq_wp (d + 1) 84 (xq_s g J (xc q I R1)) 20 [.ref 9, .int (nI (po (i + 1))), .int (nI l), .int (nI (o + t1)), sl1] [] Q := by
      intro t1 R1 P1 sl1 q1 q2 q3 q4 q5 q6
      refine ih (i + 1) t1 h' R1 P1 sl1 (fun j h1 h2 => hc j (by omega) (by omega)) hpo q1 q2 q4 (fun k hk => by rw [q6 17 (by omega)]; exact hK k hk) (fun R' sl' z1 z2 z3 => hp R' sl' ?_ ?_ ?_)
      · intro j hj; rw [q3]; exact z1 j hj
      · intro j hj; rw [z2 j hj, q5 j hj]
      · intro a ha; rw [z3 a ha, q6 a ha]
    have ev := sp_ev1 (c := c) (t := t) (P := P) (F := F) hs es
    rcases st with ⟨ep, st⟩ | ⟨ep, e16, v, hv1, hv2, ev1, ec1, ec2⟩
    · -- one code
      rcases st with ⟨e0, v, hv, ev1, ec⟩ | ⟨s', es', st⟩
      · have hs0 : s = 0 := (xn_eq (by omega) (by omega)).mp (es.symm.trans e0)
        subst hs0
        have cs : 0 < 9 ∧ t < 30 ∧ sp_hs W c (i + 1) (t + 1) = some h' := by
          rcases cs with z | z | z | z
          · exact z
          · omega
          · omega
          · omega
        refine y84_nu hl he h400 (by omega) ec (by omega) (by omega) (by omega) ?_
        rw [show 100 + v - 100 = v by omega, ← ep, show o + t + 1 = o + (t + 1) by omega]
        refine go (t + 1) _ (upd P t (W (1140 + 2 * i + 1))) _ cs.2.2 (by omega) (by rw [ev, if_pos (by omega), if_pos rfl]) (fun j hj => ?_) (fun j hj => xw_x (by omega)) (fun a ha => xw_i ha)
        by_cases e1 : j = t
        · subst e1; rw [xw_v, upd_eq, ev1]
        · rw [xw_x (by omega), upd_ne e1]; exact hP j (by omega)
      · have hss : s' = s ∨ 2147483648 ≤ s' := by
          rcases Nat.lt_or_ge s' 2147483648 with z | z
          · exact Or.inl ((xn_eq z (by omega)).mp (es'.symm.trans es))
          · exact Or.inr z
        rcases st with st | st | st | st | st
        · have hss : s' = s := by omega
          subst hss
          have cs : s' < 9 ∧ t < 30 ∧ sp_hs W c (i + 1) (t + 1) = some h' := by
            rcases cs with z | z | z | z
            · exact z
            · omega
            · omega
            · omega
          refine y84_kn hl he h400 (by omega) st.2.2 (by omega) (by omega) ?_
          rw [← ep, show o + t + 1 = o + (t + 1) by omega]
          refine go (t + 1) _ (upd P t (F s')) _ cs.2.2 (by omega) (by rw [ev, if_pos (by omega), if_neg (by omega)]) (fun j hj => ?_) (fun j hj => xw_x (by omega)) (fun a ha => xw_i ha)
          by_cases e1 : j = t
          · subst e1
            rw [xw_v, upd_eq, hK (s' - 1) (by omega), show s' - 1 + 1 = s' by omega]
          · rw [xw_x (by omega), upd_ne e1]; exact hP j (by omega)
        · have hss : s' = s := by omega
          subst hss
          have cs : 13 ≤ s' ∧ s' ≠ 16 ∧ s' ≠ 20 ∧ 2 ≤ t ∧ sp_hs W c (i + 1) (t - 1) = some h' := by
            rcases cs with z | z | z | z
            · omega
            · omega
            · omega
            · exact z
          refine y84_bi hl he h400 (by omega) st.2.2 (by omega) (by omega) (by omega) (by omega) ?_
          rw [← ep, cj_both (Or.inl ⟨st.1, st.2.1⟩), show o + t - 1 = o + (t - 1) by omega, show o + (t - 1) - 1 = o + (t - 1 - 1) by omega, hP (t - 1) (by omega), hP (t - 1 - 1) (by omega)]
          refine go (t - 1) _ (upd P (t - 1 - 1) (sp_both (nI s') (P (t - 1 - 1)) (P (t - 1)))) _ cs.2.2.2.2 (by omega) (by rw [ev, if_neg (by omega), if_neg (by omega), if_neg (by omega)]) (fun j hj => ?_) (fun j hj => xw_x (by omega)) (fun a ha => xw_i ha)
          by_cases e1 : j = t - 1 - 1
          · subst e1; rw [xw_v, upd_eq]
          · rw [xw_x (by omega), upd_ne e1]; exact hP j (by omega)
        · have hss : s' = s := by omega
          subst hss
          have cs : 13 ≤ s' ∧ s' ≠ 16 ∧ s' ≠ 20 ∧ 2 ≤ t ∧ sp_hs W c (i + 1) (t - 1) = some h' := by
            rcases cs with z | z | z | z
            · omega
            · omega
            · omega
            · exact z
          refine y84_bi hl he h400 (by omega) st.2.2 (by omega) (by omega) (by omega) (by omega) ?_
          rw [← ep, cj_both (Or.inr ⟨st.1, st.2.1⟩), show o + t - 1 = o + (t - 1) by omega, show o + (t - 1) - 1 = o + (t - 1 - 1) by omega, hP (t - 1) (by omega), hP (t - 1 - 1) (by omega)]
          refine go (t - 1) _ (upd P (t - 1 - 1) (sp_both (nI s') (P (t - 1 - 1)) (P (t - 1)))) _ cs.2.2.2.2 (by omega) (by rw [ev, if_neg (by omega), if_neg (by omega), if_neg (by omega)]) (fun j hj => ?_) (fun j hj => xw_x (by omega)) (fun a ha => xw_i ha)
          by_cases e1 : j = t - 1 - 1
          · subst e1; rw [xw_v, upd_eq]
          · rw [xw_x (by omega), upd_ne e1]; exact hP j (by omega)
        · have hss : s' = s := by omega
          subst hss
          have cs : s' = 20 ∧ 1 ≤ t ∧ sp_hs W c (i + 1) t = some h' := by
            rcases cs with z | z | z | z
            · omega
            · omega
            · exact z
            · omega
          refine y84_no hl he h400 (by omega) st.2 (by omega) (by omega) ?_
          rw [← ep, show o + t - 1 = o + (t - 1) by omega, hP (t - 1) (by omega)]
          refine go t _ (upd P (t - 1) (nI 1 - P (t - 1))) _ cs.2.2 (by omega) (by rw [ev, if_neg (by omega), if_neg (by omega), if_pos st.1]) (fun j hj => ?_) (fun j hj => xw_x (by omega)) (fun a ha => xw_i ha)
          by_cases e1 : j = t - 1
          · subst e1; rw [xw_v, upd_eq]
          · rw [xw_x (by omega), upd_ne e1]; exact hP j (by omega)
        · have hss : s' = s := by omega
          subst hss
          have cs : 13 ≤ s' ∧ s' ≠ 16 ∧ s' ≠ 20 ∧ 2 ≤ t ∧ sp_hs W c (i + 1) (t - 1) = some h' := by
            rcases cs with z | z | z | z
            · omega
            · omega
            · omega
            · exact z
          refine y84_bi hl he h400 (by omega) st.2.2 (by omega) (by omega) (by omega) (by omega) ?_
          rw [← ep, cj_both2 ⟨st.1, st.2.1⟩, show o + t - 1 = o + (t - 1) by omega, show o + (t - 1) - 1 = o + (t - 1 - 1) by omega, hP (t - 1) (by omega), hP (t - 1 - 1) (by omega)]
          refine go (t - 1) _ (upd P (t - 1 - 1) (sp_both (nI s') (P (t - 1 - 1)) (P (t - 1)))) _ cs.2.2.2.2 (by omega) (by rw [ev, if_neg (by omega), if_neg (by omega), if_neg (by omega)]) (fun j hj => ?_) (fun j hj => xw_x (by omega)) (fun a ha => xw_i ha)
          by_cases e1 : j = t - 1 - 1
          · subst e1; rw [xw_v, upd_eq]
          · rw [xw_x (by omega), upd_ne e1]; exact hP j (by omega)
    · -- a part: the number, then the sign
      have hs16 : s = 16 := (xn_eq (by omega) (by omega)).mp (es.symm.trans e16)
      subst hs16
      have cs : 16 = 16 ∧ 1 ≤ t ∧ (¬ W (1140 + 2 * i + 1) = nI 0) ∧ sp_hs W c (i + 1) t = some h' := by
        rcases cs with z | z | z | z
        · omega
        · exact z
        · omega
        · omega
      refine y84_nu hl he h400 (by omega) ec1 (by omega) (by omega) (by omega) ?_
      rw [show 100 + v - 100 = v by omega]
      refine y84_bi hl he h400 (by omega) ec2 (by omega) (by omega) (by omega) (by omega) ?_
      have ecj : cj (nI 11) (xq_w R 16 (o + t) (nI v) 16 (o + t + 1 - 1 - 1)) (xq_w R 16 (o + t) (nI v) 16 (o + t + 1 - 1)) = P (t - 1) / W (1140 + 2 * i + 1) := by
        rw [show o + t + 1 - 1 = o + t by omega, xw_v, xw_x (by omega), show o + t - 1 = o + (t - 1) by omega, hP (t - 1) (by omega), ev1]
        show (if nI v = nI 0 then nI 0 else P (t - 1) / nI v) = _
        rw [if_neg (by rw [xn_eq (by omega) (by omega)]; omega)]
      rw [ecj, show po i + 1 + 1 = po (i + 1) by omega, show o + t + 1 - 1 = o + t by omega, show o + t - 1 = o + (t - 1) by omega]
      refine go t _ (upd P (t - 1) (P (t - 1) / W (1140 + 2 * i + 1))) _ cs.2.2.2 (by omega) (by rw [ev, if_neg (by omega), if_pos rfl]) (fun j hj => ?_) (fun j hj => by rw [xw_x (by omega), xw_x (by omega)]) (fun a ha => by rw [xw_i ha, xw_i ha])
      by_cases e1 : j = t - 1
      · subst e1; rw [xw_v, upd_eq]
      · rw [xw_x (by omega), xw_x (by omega), upd_ne e1]; exact hP j (by omega)
end yk_c3
