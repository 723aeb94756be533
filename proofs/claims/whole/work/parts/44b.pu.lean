/-! thoughts that cannot close: a block that needs more oxen than there will be -/
def th_nb (b k : Nat) (W : xw) : Prop := W (50 + 14 * b + 4) = nI 0 ∨ W (50 + 14 * b + 4) = nI 1 ∨ (W (50 + 14 * b + 4) = nI 2 ∧ ∃ j, j ≤ k ∧ W (50 + 14 * b + 5) = nI j)
def th_hb (last m : Int32) : Nat → xw → Prop
  | 0, _ => True
  | c + 1, W => last < W 2 ∨ (sp_herds W false 10 < m ∧ th_hb last m c (sp_turn (sp_herds W false)))
section xk_pu2
variable {n ns : Nat} {W W' N : xw} {bar : Int32} {b k t f : Nat} {z : Int32}
theorem tm_N (ho : ok n ns W) (hb : b < n) : ∃ t, t ≤ 40 ∧ th_tm W b k = nI t := by
  obtain ⟨⟨s, s1, s2, es⟩, -⟩ := ho.2.2.2.2.2.2.2.2.1 b hb
  unfold th_tm
  split
  · exact ⟨0, by omega, rfl⟩
  · split
    · exact ⟨2 * s, by omega, by rw [es, pk_mul]⟩
    · exact ⟨s, by omega, es⟩
theorem tm_cg (e1 : W' (250 + 2 * k) = W (250 + 2 * k)) (e2 : W' (50 + 14 * b + 0) = W (50 + 14 * b + 0)) : th_tm W' b k = th_tm W b k := by
  unfold th_tm
  rw [e1, e2]
theorem tm_st2 (hb : b < 14) (hk : k < 8) (e : ∀ p, st2 p → W' p = W p) : th_tm W' b k = th_tm W b k :=
  tm_cg (e _ (by unfold st2 stp; omega)) (e _ (Or.inl (Or.inr (Or.inr (Or.inl ⟨b, 0, hb, Or.inl rfl, rfl⟩)))))
theorem team_tm (e : W (50 + 14 * b + 5) = nI k) (hk : k < 8) : sp_team W b = th_tm W b k := by
  unfold sp_team th_tm
  rw [xk_ix e (by omega)]
theorem over_val {j : Nat} (ho : ok n ns W) (hb : b < n) (ej : W (50 + 14 * b + 5) = nI j) (hj : j + 1 < ns) : sp_over W b (50 + 14 * b + 4) = nI 2 ∧ sp_over W b (50 + 14 * b + 5) = nI (j + 1) := by
  have n14 := ho.1.2.1
  have s8 := ho.1.2.2.2
  have e1 : sp_wr W (nI b) (nI 1) (W (50 + 14 * b + 5)) 1 = nI ns := by rw [wr_ne ho.2.1 (by omega) (by omega)]; exact ho.1.2.2.1
  unfold sp_over sp_on
  rw [if_neg (by rw [e1, ej, nI_add, pk_sub (by omega), xn_lt (by omega) (by omega), xn_lt (by omega) (by omega)]; omega)]
  exact ⟨by rw [upd_ne (by omega), upd_ne (by omega), upd_eq], by rw [upd_ne (by omega), upd_eq, ej, nI_add]⟩
theorem nb_goes {j : Nat} (ho : ok n ns W) (hb : b < n) (hk : k < ns) (h2 : W (50 + 14 * b + 4) = nI 2) (ej : W (50 + 14 * b + 5) = nI j) (hj : j ≤ k) (et : th_tm W b k = nI t) (ht : t ≤ 40) (hf : f < t) : th_nb b k (sp_goes z W N (nI f) b).1 := by
  have n14 := ho.1.2.1
  have s8 := ho.1.2.2.2
  have tj := team_tm ej (show j < 8 by omega)
  have wt : ∀ e, e < 5 → th_nb b k (sp_wt W b e) := fun e he => Or.inr (Or.inr ⟨by rw [sp_wt, upd_ne (by omega)]; exact h2, j, hj, by rw [sp_wt, upd_ne (by omega)]; exact ej⟩)
  unfold sp_goes
  by_cases c1 : nI f < sp_team W b
  · rw [if_pos c1]; exact wt 0 (by omega)
  · rw [if_neg c1]
    have jk : j < k := by
      rcases Nat.lt_or_ge j k with y | y
      · exact y
      · have : j = k := by omega
        subst this
        rw [tj, et, xn_lt (by omega) (by omega)] at c1
        exact absurd hf c1
    split
    · exact wt 1 (by omega)
    · dsimp only
      split
      · obtain ⟨a1, a2⟩ := over_val ho hb ej (by omega)
        exact Or.inr (Or.inr ⟨a1, j + 1, by omega, a2⟩)
      · split
        · exact Or.inr (Or.inr ⟨by rw [sp_went, upd_ne (by omega)]; exact h2, j, hj, by rw [sp_went, upd_ne (by omega)]; exact ej⟩)
        · obtain ⟨a1, a2⟩ := over_val (ok_went (z := z) ho hb) hb (by rw [sp_went, upd_ne (by omega)]; exact ej) (show j + 1 < ns by omega)
          exact Or.inr (Or.inr ⟨a1, j + 1, by omega, a2⟩)
theorem on_val (ho : ok n ns W) (hb : b < n) (hs : 0 < ns) : sp_on W b (nI 0) (50 + 14 * b + 4) = nI 2 ∧ sp_on W b (nI 0) (50 + 14 * b + 5) = nI 0 := by
  have n14 := ho.1.2.1
  have s8 := ho.1.2.2.2
  unfold sp_on
  rw [if_neg (by rw [ho.1.2.2.1, pk_sub (by omega), xn_lt (by omega) (by omega), xn_lt (by omega) (by omega)]; omega)]
  exact ⟨by rw [upd_ne (by omega), upd_ne (by omega), upd_eq], by rw [upd_ne (by omega), upd_eq]⟩
theorem nb_h1 (ho : ok n ns W) (hb : b < n) (hk : k < ns) (h : th_nb b k W) (et : th_tm W b k = nI t) (ht : t ≤ 40) (hf : f < t) : th_nb b k (sp_h1 z W N (nI f) b).1 := by
  have n14 := ho.1.2.1
  have s8 := ho.1.2.2.2
  unfold sp_h1
  rcases h with h | h | ⟨h, j, hj, ej⟩
  · rw [if_neg (by rw [h]; decide), if_neg (by rw [h]; decide)]; exact Or.inl h
  · rw [if_pos h]
    obtain ⟨a1, a2⟩ := on_val ho hb (by omega)
    rw [if_pos a1]
    exact nb_goes (ok_on ho hb) hb hk a1 a2 (Nat.zero_le _) (by rw [tm_st2 (by omega) (by omega) (fun p hp => st2_on ho.2.1 hp (by omega))]; exact et) ht hf
  · rw [if_neg (by rw [h]; decide), if_pos h]
    exact nb_goes ho hb hk h ej hj et ht hf
theorem goes_free (ho : ok n ns W) (hb : b < n) (h2 : W (50 + 14 * b + 4) = nI 2) (hf : f ≤ 99) : ∃ f', f' ≤ f ∧ (sp_goes z W N (nI f) b).2.2 = nI f' := by
  obtain ⟨k, hk, hk8, ek, -⟩ := ok_at ho hb h2
  obtain ⟨t, ht, et⟩ := tm_N (k := k) ho hb
  have tj := (team_tm ek hk8).trans et
  unfold sp_goes
  split
  · exact ⟨f, by omega, rfl⟩
  · rename_i c1
    split
    · exact ⟨f, by omega, rfl⟩
    · rw [tj, xn_lt (by omega) (by omega)] at c1
      refine ⟨f - t, by omega, ?_⟩
      dsimp only
      rw [tj, pk_sub (by omega)]
theorem h1_free (ho : ok n ns W) (hb : b < n) (hf : f ≤ 99) : ∃ f', f' ≤ f ∧ (sp_h1 z W N (nI f) b).2.2 = nI f' := by
  unfold sp_h1
  split
  · split
    · rename_i q; exact goes_free (ok_on ho hb) hb q hf
    · exact ⟨f, by omega, rfl⟩
  · split
    · rename_i q; exact goes_free ho hb q hf
    · exact ⟨f, by omega, rfl⟩
theorem nb_hauls (hb : b < n) (hk : k < ns) (ht : t ≤ 40) : ∀ (c i : Nat) (W N : xw) (f : Nat), ok n ns W → i + c = n → th_nb b k W → th_tm W b k = nI t → f < t → th_nb b k (sp_hauls z c i W N (nI f)).1 := by
  intro c
  induction c with
  | zero => intro i W N f ho e h et hf; exact h
  | succ c ih =>
    intro i W N f ho e h et hf
    obtain ⟨x, hx, ex, ix⟩ := ok_or ho (show i < n by omega)
    have n14 := ho.1.2.1
    have s8 := ho.1.2.2.2
    simp only [sp_hauls, ix]
    obtain ⟨f', hf', ef'⟩ := h1_free (z := z) (N := N) (f := f) ho hx (by omega)
    rw [ef']
    refine ih (i + 1) _ _ f' (ok_h1 ho hx) (by omega) ?_ ?_ (by omega)
    · by_cases e : x = b
      · subst e; exact nb_h1 ho hb hk h et ht hf
      · have f4 : (sp_h1 z W N (nI f) x).1 (50 + 14 * b + 4) = W (50 + 14 * b + 4) := h1_fr ho.2.1 (by omega) (by omega) (by omega) (fun j j1 j2 => by omega)
        have f5 : (sp_h1 z W N (nI f) x).1 (50 + 14 * b + 5) = W (50 + 14 * b + 5) := h1_fr ho.2.1 (by omega) (by omega) (by omega) (fun j j1 j2 => by omega)
        unfold th_nb
        rw [f4, f5]
        exact h
    · rw [tm_st2 (by omega) (by omega) (fun p hp => st2_h1 ho hp hx)]; exact et
theorem C_st2 {p : Nat} (ho : ok n ns W) (hp : st2 p) : th_C bar n W p = th_H W p := st2_cut hp n 0 _ _ (ok_H ho) (by omega)
theorem V_st2 {p : Nat} (ho : ok n ns W) (hp : st2 p) : th_V bar n W p = th_H W p := by
  rw [th_V, st2_hauls hp n 0 _ _ _ (ok_C ho) (by omega), C_st2 ho hp]
theorem U_st2 {p : Nat} (ho : ok n ns W) (hp : st2 p) : th_U bar n W p = th_H W p := by
  rw [th_U, st2_lay hp n 0 _ _ _ (ok_V ho) (by omega), V_st2 ho hp]
theorem X_st2 {p : Nat} (ho : ok n ns W) (hp : st2 p) : sp_falls n (sp_wait n n 0 (th_U bar n W)) p = th_H W p := by
  rw [st2_falls (ok_wait n 0 _ (ok_U ho) (by omega)) hp, st2_wait hp n 0 _ (ok_U ho) (by omega), U_st2 ho hp]
theorem th_nbw (ho : ok n ns W) (hb : b < n) (hk : k < ns) (h : th_nb b k W) (et : th_tm W b k = nI t) (ht : t ≤ 40) (ef : th_H W 10 = nI f) (hf : f < t) : th_nb b k (sp_week false bar n W).1 := by
  have n14 := ho.1.2.1
  have s8 := ho.1.2.2.2
  have hC : th_nb b k (th_C bar n W) := by
    have f5 : th_C bar n W (50 + 14 * b + 5) = W (50 + 14 * b + 5) := by
      rw [th_C, cut_fr (by omega) (by omega) (fun x hx => by omega) n 0 _ _ (ok_H ho) (by omega), H_fr (by omega) (by omega) (by omega)]
    have h4 : th_H W (50 + 14 * b + 4) = W (50 + 14 * b + 4) := H_fr (by omega) (by omega) (by omega)
    unfold th_nb
    rw [f5]
    rcases cut_4 (bar := bar) hb n 0 (th_H W) (th_H W 13) (ok_H ho) (by omega) with y | y
    · rw [th_C, y, h4]; exact h
    · exact Or.inr (Or.inl y.2.2.2)
  have tC : th_tm (th_C bar n W) b k = nI t := by
    rw [tm_cg, et]
    · rw [C_st2 ho (by unfold st2 stp; omega), H_fr (by omega) (by omega) (by omega)]
    · rw [C_st2 ho (Or.inl (Or.inr (Or.inr (Or.inl ⟨b, 0, by omega, Or.inl rfl, rfl⟩)))), H_fr (by omega) (by omega) (by omega)]
  have hV : th_nb b k (th_V bar n W) := by
    rw [th_V, C_st2 ho (by unfold st2; omega), ef]
    exact nb_hauls hb hk ht n 0 _ _ f (ok_C ho) (by omega) hC tC hf
  have n3 : ∀ j, 3 ≤ j → j < 5 → ¬ th_V bar n W (50 + 14 * b + 4) = nI j := by
    intro j j1 j2 y
    rcases hV with q | q | q
    · rw [q, xn_eq (by omega) (by omega)] at y; omega
    · rw [q, xn_eq (by omega) (by omega)] at y; omega
    · rw [q.1, xn_eq (by omega) (by omega)] at y; omega
  have u4 : th_U bar n W (50 + 14 * b + 4) = th_V bar n W (50 + 14 * b + 4) := by
    rcases lay_4 hb n 0 (th_V bar n W) (if sp_frost (th_V bar n W) then nI 0 else th_V bar n W 14) (nI 0) (ok_V ho) (by omega) with y | y
    · exact y
    · exact absurd y.1 (n3 3 (by omega) (by omega))
  have u5 : th_U bar n W (50 + 14 * b + 5) = th_V bar n W (50 + 14 * b + 5) := lay_fr (by omega) (by omega) (by omega) (fun x hx => by omega) n 0 _ _ _ (ok_V ho) (by omega)
  have w4 : (sp_week false bar n W).1 (50 + 14 * b + 4) = th_V bar n W (50 + 14 * b + 4) := by
    rw [th_wkU, fin_4 (ok_U ho) hb (by rw [u4]; exact n3 4 (by omega) (by omega)), u4]
  have w5 : (sp_week false bar n W).1 (50 + 14 * b + 5) = th_V bar n W (50 + 14 * b + 5) := by
    rw [th_wkU, stp_turn (by omega) (by omega), falls_fr (ok_wait n 0 _ (ok_U ho) (by omega)) (by omega) (by omega) (by omega) (by omega) (fun x hx => by omega), wait_fr (fun x j hx j1 j2 => by omega) n 0 _ (by omega), u5]
  unfold th_nb
  rw [w4, w5]
  exact hV
/-! the herd goes its own way -/
theorem herds_cg (e0 : W' 10 = W 10) (e1 : W' 11 = W 11) (e2 : W' 12 = W 12) : sp_herds W' false 10 = sp_herds W false 10 ∧ sp_herds W' false 11 = sp_herds W false 11 := by
  have eg : sp_grass W' false = sp_grass W false := by unfold sp_grass; rw [e1, e2]
  refine ⟨?_, ?_⟩
  · rw [sp_herds, upd_eq, sp_herds, upd_eq, eg, e0]
  · rw [sp_herds, upd_ne (by omega), upd_eq, sp_herds, upd_ne (by omega), upd_eq, eg, e0]
theorem turn_cg {p : Nat} (e2 : W' 2 = W 2) (e0 : W' 10 = W 10) (ep : W' p = W p) : sp_turn W' p = sp_turn W p := by
  unfold sp_turn
  rw [e2]
  split
  · by_cases h : p = 10
    · subst h; rw [upd_eq, upd_eq, e0]
    · rw [upd_ne h, upd_ne h]
      by_cases h2 : p = 2
      · subst h2; rw [upd_eq, upd_eq]
      · rw [upd_ne h2, upd_ne h2, ep]
  · by_cases h2 : p = 2
    · subst h2; rw [upd_eq, upd_eq]
    · rw [upd_ne h2, upd_ne h2, ep]
theorem hb_cg {last m : Int32} : ∀ (c : Nat) (W W' : xw), W' 2 = W 2 → W' 10 = W 10 → W' 11 = W 11 → W' 12 = W 12 → th_hb last m c W → th_hb last m c W'
  | 0, _, _, _, _, _, _, _ => trivial
  | c + 1, W, W', e2, e0, e1, e3, h => by
    have hh := herds_cg e0 e1 e3
    have k2 : sp_herds W' false 2 = sp_herds W false 2 := by rw [stp_herds (by omega) (by omega), stp_herds (by omega) (by omega), e2]
    have k12 : sp_herds W' false 12 = sp_herds W false 12 := by rw [stp_herds (by omega) (by omega), stp_herds (by omega) (by omega), e3]
    simp only [th_hb] at h ⊢
    rw [e2, hh.1]
    rcases h with h | h
    · exact Or.inl h
    · exact Or.inr ⟨h.1, hb_cg c _ _ (turn_cg k2 hh.1 k2) (turn_cg k2 hh.1 hh.1) (turn_cg k2 hh.1 hh.2) (turn_cg k2 hh.1 k12) h.2⟩
theorem th_hd (ho : ok n ns W) : ∀ p, p = 2 ∨ p = 10 ∨ p = 11 ∨ p = 12 → (sp_week false bar n W).1 p = sp_turn (sp_herds W false) p := by
  intro p hp
  have m0 : ∀ q, ¬ q = 3 → sp_mud false W q = W q := fun q hq => upd_ne hq
  have hh := herds_cg (m0 10 (by omega)) (m0 11 (by omega)) (m0 12 (by omega))
  have k : ∀ q, q = 2 ∨ q = 10 ∨ q = 11 ∨ q = 12 → sp_falls n (sp_wait n n 0 (th_U bar n W)) q = sp_herds W false q := by
    intro q hq
    rw [X_st2 ho (by unfold st2 stp; omega)]
    rcases hq with rfl | rfl | rfl | rfl
    · rw [H_fr (by omega) (by omega) (by omega), stp_herds (by omega) (by omega)]
    · exact hh.1
    · exact hh.2
    · rw [H_fr (by omega) (by omega) (by omega), stp_herds (by omega) (by omega)]
  rw [th_wkU]
  exact turn_cg (k 2 (by omega)) (k 10 (by omega)) (k p hp)
theorem H_10 : th_H W 10 = sp_herds W false 10 :=
  (herds_cg (W := W) (W' := sp_mud false W) (upd_ne (by omega)) (upd_ne (by omega)) (upd_ne (by omega))).1
end xk_pu2
