/-! thoughts that cannot close: what a week in thought does to a block -/
def th_H (W : xw) : xw := sp_herds (sp_mud false W) false
def th_C (bar : Int32) (n : Nat) (W : xw) : xw := sp_cut bar n 0 (th_H W) (th_H W 13)
def th_V (bar : Int32) (n : Nat) (W : xw) : xw := (sp_hauls (nI 0) n 0 (th_C bar n W) (fun _ => nI 0) (th_C bar n W 10)).1
def th_U (bar : Int32) (n : Nat) (W : xw) : xw := (sp_lay n n 0 (th_V bar n W) (if sp_frost (th_V bar n W) then nI 0 else th_V bar n W 14) (nI 0)).1
def th_tm (W : xw) (b k : Nat) : Int32 := if W (250 + 2 * k) = nI 2 then nI 0 else if W (250 + 2 * k) = nI 1 then nI 2 * W (50 + 14 * b + 0) else W (50 + 14 * b + 0)
section xk_pu
variable {n ns : Nat} {W W' N : xw} {bar : Int32}
theorem th_wkU : (sp_week false bar n W).1 = sp_turn (sp_falls n (sp_wait n n 0 (th_U bar n W))) := by
  rw [th_week_eq]; rfl
theorem ok_H (ho : ok n ns W) : ok n ns (th_H W) := ok_herds (ok_mud ho)
theorem ok_C (ho : ok n ns W) : ok n ns (th_C bar n W) := ok_cut n 0 _ _ (ok_H ho) (by omega)
theorem ok_V (ho : ok n ns W) : ok n ns (th_V bar n W) := ok_hauls n 0 _ _ _ (ok_C ho) (by omega)
theorem ok_U (ho : ok n ns W) : ok n ns (th_U bar n W) := ok_lay n 0 _ _ _ (ok_V ho) (by omega)
theorem H_fr {p : Nat} (h1 : ¬ p = 3) (h2 : ¬ p = 10) (h3 : ¬ p = 11) : th_H W p = W p := by
  rw [th_H, stp_herds h2 h3, sp_mud, upd_ne h1]
theorem cut_fr {p : Nat} (h6 : ¬ p = 6) (hp : p < 270 ∨ 1075 ≤ p) (hb : ∀ x, x < n → ¬ p = 50 + 14 * x + 4) : ∀ (c i : Nat) (W : xw) (left : Int32), ok n ns W → i + c = n → sp_cut bar c i W left p = W p := by
  intro c
  induction c with
  | zero => intros; rfl
  | succ c ih =>
    intro i W left ho e
    obtain ⟨b, hb', eb, ib⟩ := ok_or ho (show i < n by omega)
    have n14 := ho.1.2.1
    simp only [sp_cut, ib]
    split
    · split
      · rw [ih (i + 1) _ _ (ok_cut1 ho hb') (by omega), wr_ne (okb_up ho.2.1 (by omega)) h6 hp, upd_ne (hb b hb')]
      · exact ih (i + 1) W left ho (by omega)
    · rfl
theorem cut_4 {x : Nat} (hx : x < n) : ∀ (c i : Nat) (W : xw) (left : Int32), ok n ns W → i + c = n → sp_cut bar c i W left (50 + 14 * x + 4) = W (50 + 14 * x + 4) ∨ (W (50 + 14 * x + 4) = nI 0 ∧ nI 0 < left ∧ ¬ W (24 + sp_ix W (50 + 14 * x + 1)) = nI 0 ∧ sp_cut bar c i W left (50 + 14 * x + 4) = nI 1) := by
  intro c
  induction c with
  | zero => intros; exact Or.inl rfl
  | succ c ih =>
    intro i W left ho e
    obtain ⟨b, hb, eb, ib⟩ := ok_or ho (show i < n by omega)
    obtain ⟨v, hv, ev, iv⟩ := ok_ve ho hx
    have n14 := ho.1.2.1
    simp only [sp_cut, ib]
    split
    · rename_i hl
      split
      · rename_i hc
        have h1 := ih (i + 1) _ (left + Int32.ofInt (-1)) (ok_cut1 ho hb) (by omega)
        have f : ∀ p, ¬ p = 6 → p < 270 → ¬ p = 50 + 14 * b + 4 → sp_wr (upd W (50 + 14 * b + 4) (nI 1)) (nI b) (nI 0) (nI 0) p = W p := fun p p1 p2 p3 => by
          rw [wr_ne (okb_up ho.2.1 (by omega)) p1 (Or.inl p2), upd_ne p3]
        have f4 : sp_wr (upd W (50 + 14 * b + 4) (nI 1)) (nI b) (nI 0) (nI 0) (50 + 14 * b + 4) = nI 1 := by
          rw [wr_ne (okb_up ho.2.1 (by omega)) (by omega) (by omega), upd_eq]
        generalize sp_wr (upd W (50 + 14 * b + 4) (nI 1)) (nI b) (nI 0) (nI 0) = W1 at *
        by_cases ex : x = b
        · subst ex
          rcases h1 with h1 | h1
          · exact Or.inr ⟨hc.1, hl, hc.2.1, h1.trans f4⟩
          · rw [f4] at h1; exact absurd h1.1 (by decide)
        · have i1 : sp_ix W1 (50 + 14 * x + 1) = v := by rw [sp_ix, f _ (by omega) (by omega) (by omega)]; exact iv
          rw [f (50 + 14 * x + 4) (by omega) (by omega) (by omega), i1, f (24 + v) (by omega) (by omega) (by omega)] at h1
          rw [iv]
          rcases h1 with h1 | h1
          · exact Or.inl h1
          · exact Or.inr ⟨h1.1, hl, h1.2.2.1, h1.2.2.2⟩
      · exact ih (i + 1) W left ho (by omega)
    · exact Or.inl rfl
/-! hauling: who is not on the way stays -/
theorem on_fr {b p : Nat} {k : Int32} (h : okb W) (h6 : ¬ p = 6) (hp : p < 270 ∨ 1075 ≤ p) (hb : ∀ j, 4 ≤ j → j < 9 → ¬ p = 50 + 14 * b + j) : sp_on W b k p = W p := by
  have u : ∀ v1 v2 v3 : Int32, upd (upd (upd W (50 + 14 * b + 4) v1) (50 + 14 * b + 5) v2) (50 + 14 * b + 6) v3 p = W p := fun v1 v2 v3 => by
    rw [upd_ne (hb 6 (by omega) (by omega)), upd_ne (hb 5 (by omega) (by omega)), upd_ne (hb 4 (by omega) (by omega))]
  unfold sp_on
  split
  · rw [wr_ne (okb_up (okb_up (okb_up h (by omega)) (by omega)) (by omega)) h6 hp, u]
  · exact u _ _ _
theorem over_fr {b p : Nat} (h : okb W) (h6 : ¬ p = 6) (hp : p < 270 ∨ 1075 ≤ p) (hb : ∀ j, 4 ≤ j → j < 9 → ¬ p = 50 + 14 * b + j) : sp_over W b p = W p := by
  unfold sp_over
  rw [on_fr (okb_wr h) h6 hp hb, wr_ne h h6 hp]
theorem goes_fr {b p : Nat} {z fr : Int32} (h : okb W) (hb14 : b < 14) (h6 : ¬ p = 6) (hp : p < 270 ∨ 1075 ≤ p) (hb : ∀ j, 4 ≤ j → j < 9 → ¬ p = 50 + 14 * b + j) : (sp_goes z W N fr b).1 p = W p := by
  unfold sp_goes
  have w : sp_went W b z p = W p := upd_ne (hb 6 (by omega) (by omega))
  have ow : okb (sp_went W b z) := okb_up h (by omega)
  split
  · exact upd_ne (hb 7 (by omega) (by omega))
  · split
    · exact upd_ne (hb 8 (by omega) (by omega))
    · dsimp only
      split
      · exact over_fr h h6 hp hb
      · split
        · exact w
        · rw [over_fr ow h6 hp hb, w]
theorem h1_fr {b p : Nat} {z fr : Int32} (h : okb W) (hb14 : b < 14) (h6 : ¬ p = 6) (hp : p < 270 ∨ 1075 ≤ p) (hb : ∀ j, 4 ≤ j → j < 9 → ¬ p = 50 + 14 * b + j) : (sp_h1 z W N fr b).1 p = W p := by
  unfold sp_h1
  have o := on_fr (k := nI 0) h h6 hp hb
  split
  · split
    · rw [goes_fr _ hb14 h6 hp hb, o]
      unfold sp_on
      split
      · exact okb_wr (okb_up (okb_up (okb_up h (by omega)) (by omega)) (by omega))
      · exact okb_up (okb_up (okb_up h (by omega)) (by omega)) (by omega)
    · exact o
  · split
    · exact goes_fr h hb14 h6 hp hb
    · rfl
theorem hauls_4 {x : Nat} {z : Int32} (hx : x < n) : ∀ (c i : Nat) (W N : xw) (fr : Int32), ok n ns W → i + c = n → ¬ W (50 + 14 * x + 4) = nI 1 → ¬ W (50 + 14 * x + 4) = nI 2 → (sp_hauls z c i W N fr).1 (50 + 14 * x + 4) = W (50 + 14 * x + 4) := by
  intro c
  induction c with
  | zero => intros; rfl
  | succ c ih =>
    intro i W N fr ho e h1 h2
    obtain ⟨b, hb, eb, ib⟩ := ok_or ho (show i < n by omega)
    have n14 := ho.1.2.1
    simp only [sp_hauls, ib]
    have f : (sp_h1 z W N fr b).1 (50 + 14 * x + 4) = W (50 + 14 * x + 4) := by
      by_cases ex : b = x
      · subst ex
        rw [sp_h1, if_neg h1, if_neg h2]
      · exact h1_fr ho.2.1 (by omega) (by omega) (by omega) (fun j hj hj2 => by omega)
    rw [ih (i + 1) _ _ _ (ok_h1 ho hb) (by omega) (by rw [f]; exact h1) (by rw [f]; exact h2), f]
theorem lay_0 {v : Int32} : ∀ c i, sp_lay n c i W (nI 0) v = (W, v) := by
  intro c i
  cases c with
  | zero => rfl
  | succ c => simp only [sp_lay]; rw [if_neg (by decide)]
theorem lay1_4 {b x : Nat} (ho : ok n ns W) (hb : b < n) : sp_lay1 n W b (50 + 14 * x + 4) = if x = b then nI 4 else if x < 14 then W (50 + 14 * x + 4) else sp_lay1 n W b (50 + 14 * x + 4) := by
  have n14 := ho.1.2.1
  split
  · rename_i e
    subst e
    unfold sp_lay1
    rw [wr_ne (okb_up (by split; exact okb_up ho.2.1 (by omega); exact ho.2.1) (by omega)) (by omega) (by omega), upd_eq]
  · split
    · unfold sp_lay1
      rw [wr_ne (okb_up (by split; exact okb_up ho.2.1 (by omega); exact ho.2.1) (by omega)) (by omega) (by omega), upd_ne (by omega)]
      split
      · rw [upd_ne (by omega)]
      · rfl
    · rfl
theorem lay_4 {x : Nat} (hx : x < n) : ∀ (c i : Nat) (W : xw) (l v : Int32), ok n ns W → i + c = n → (sp_lay n c i W l v).1 (50 + 14 * x + 4) = W (50 + 14 * x + 4) ∨ (W (50 + 14 * x + 4) = nI 3 ∧ (sp_lay n c i W l v).1 (50 + 14 * x + 4) = nI 4) := by
  intro c
  induction c with
  | zero => intros; exact Or.inl rfl
  | succ c ih =>
    intro i W l v ho e
    obtain ⟨b, hb, eb, ib⟩ := ok_or ho (show i < n by omega)
    have n14 := ho.1.2.1
    simp only [sp_lay, ib]
    split
    · split
      · rename_i hc
        have h3 := can_3 hc
        have h1 := ih (i + 1) _ (l + Int32.ofInt (-1)) (v + nI 1) (ok_lay1 ho hb) (by omega)
        rw [lay1_4 ho hb] at h1
        by_cases ex : x = b
        · subst ex
          rw [if_pos rfl] at h1
          rcases h1 with h1 | h1
          · exact Or.inr ⟨h3, h1⟩
          · exact absurd h1.1 (by decide)
        · rw [if_neg ex, if_pos (by omega)] at h1
          exact h1
      · exact ih (i + 1) W l v ho (by omega)
    · exact Or.inl rfl
theorem fin_4 {x : Nat} (ho : ok n ns W) (hx : x < n) (h : ¬ W (50 + 14 * x + 4) = nI 4) : sp_turn (sp_falls n (sp_wait n n 0 W)) (50 + 14 * x + 4) = W (50 + 14 * x + 4) := by
  have n14 := ho.1.2.1
  have how := ok_wait n 0 W ho (by omega)
  rw [stp_turn (by omega) (by omega)]
  unfold sp_falls
  split
  · exact wait_4 n 0 W
  · rw [upd_ne (by omega), upd_ne (by omega), fall_val hx n 0 _ how (by omega), wait_4 n 0 W, if_neg (fun z => h z.2)]
theorem lmN_ne {x : Nat} : ∀ c, x < c → ¬ W (50 + 14 * x + 4) = nI 4 → lmN W c < c
  | 0, h, _ => by omega
  | c + 1, h, hw => by
    have l := lmN_le (W := W) c
    unfold lmN
    by_cases e : x = c
    · subst e; rw [if_neg hw]; omega
    · have := lmN_ne c (by omega) hw
      split <;> omega
theorem lmN_all : ∀ c, lmN W c = c → ∀ x, x < c → W (50 + 14 * x + 4) = nI 4 := by
  intro c h x hx
  exact Classical.byContradiction fun z => by
    have := lmN_ne c hx z
    omega
theorem hauls_fr {p : Nat} {z : Int32} (h6 : ¬ p = 6) (hp : p < 270 ∨ 1075 ≤ p) (hb : ∀ x j, x < n → 4 ≤ j → j < 9 → ¬ p = 50 + 14 * x + j) : ∀ (c i : Nat) (W N : xw) (fr : Int32), ok n ns W → i + c = n → (sp_hauls z c i W N fr).1 p = W p := by
  intro c
  induction c with
  | zero => intros; rfl
  | succ c ih =>
    intro i W N fr ho e
    obtain ⟨b, hb', eb, ib⟩ := ok_or ho (show i < n by omega)
    have n14 := ho.1.2.1
    simp only [sp_hauls, ib]
    rw [ih (i + 1) _ _ _ (ok_h1 ho hb') (by omega), h1_fr ho.2.1 (by omega) h6 hp (fun j j1 j2 => hb b j hb' j1 j2)]
theorem lay_fr {p : Nat} (h5 : ¬ p = 5) (h6 : ¬ p = 6) (hp : p < 270 ∨ 1075 ≤ p) (hb : ∀ x, x < n → ¬ p = 50 + 14 * x + 4) : ∀ (c i : Nat) (W : xw) (l v : Int32), ok n ns W → i + c = n → (sp_lay n c i W l v).1 p = W p := by
  intro c
  induction c with
  | zero => intros; rfl
  | succ c ih =>
    intro i W l v ho e
    obtain ⟨b, hb', eb, ib⟩ := ok_or ho (show i < n by omega)
    have n14 := ho.1.2.1
    simp only [sp_lay, ib]
    split
    · split
      · rw [ih (i + 1) _ _ _ (ok_lay1 ho hb') (by omega), sp_lay1, wr_ne (okb_up (by split; exact okb_up ho.2.1 (by omega); exact ho.2.1) (by omega)) h6 hp, upd_ne (hb b hb')]
        split
        · exact upd_ne h5
        · rfl
      · exact ih (i + 1) W l v ho (by omega)
    · rfl
theorem wait_fr {p : Nat} (hb : ∀ x j, x < n → 7 ≤ j → j < 12 → ¬ p = 50 + 14 * x + j) : ∀ (c b : Nat) (W : xw), b + c = n → sp_wait n c b W p = W p
  | 0, _, _, _ => rfl
  | c + 1, b, W, e => by
    simp only [sp_wait]
    rw [wait_fr hb c (b + 1) _ (by omega)]
    split
    · unfold sp_wt
      refine upd_ne ?_
      split
      · split
        · exact hb b (7 + 2) (by omega) (by omega) (by omega)
        · exact hb b (7 + 3) (by omega) (by omega) (by omega)
      · exact hb b (7 + 4) (by omega) (by omega) (by omega)
    · rfl
theorem falls_fr {p : Nat} (ho : ok n ns W) (h4 : ¬ p = 4) (h5 : ¬ p = 5) (h6 : ¬ p = 6) (hp : p < 270 ∨ 1075 ≤ p) (hb : ∀ x, x < n → ¬ p = 50 + 14 * x + 4) : sp_falls n W p = W p := by
  unfold sp_falls
  split
  · rfl
  · rw [upd_ne h5, upd_ne h4, fall_fr h6 hp n 0 W ho (by omega) hb]
/-- the veins stay -/
theorem th_ve {b : Nat} (ho : ok n ns W) (hb : b < n) : (sp_week false bar n W).1 (50 + 14 * b + 1) = W (50 + 14 * b + 1) := by
  have n14 := ho.1.2.1
  have ou := ok_U (bar := bar) ho
  rw [th_wkU, stp_turn (by omega) (by omega), falls_fr (ok_wait n 0 _ ou (by omega)) (by omega) (by omega) (by omega) (by omega) (fun x hx => by omega), wait_fr (fun x j hx j1 j2 => by omega) n 0 _ (by omega), th_U, lay_fr (by omega) (by omega) (by omega) (fun x hx => by omega) n 0 _ _ _ (ok_V ho) (by omega), th_V, hauls_fr (by omega) (by omega) (fun x j hx j1 j2 => by omega) n 0 _ _ _ (ok_C ho) (by omega), th_C, cut_fr (by omega) (by omega) (fun x hx => by omega) n 0 _ _ (ok_H ho) (by omega), H_fr (by omega) (by omega) (by omega)]
/-! a block in the rock that nobody cuts -/
theorem th_rock {b : Nat} (ho : ok n ns W) (hb : b < n) (h0 : W (50 + 14 * b + 4) = nI 0) (h : W 13 = nI 0 ∨ W (24 + sp_ix W (50 + 14 * b + 1)) = nI 0) : (sp_week false bar n W).1 (50 + 14 * b + 4) = nI 0 := by
  have n14 := ho.1.2.1
  obtain ⟨v, hv, ev, iv⟩ := ok_ve ho hb
  have c4 : th_C bar n W (50 + 14 * b + 4) = nI 0 := by
    rcases cut_4 (bar := bar) hb n 0 (th_H W) (th_H W 13) (ok_H ho) (by omega) with z | z
    · rw [th_C, z, H_fr (by omega) (by omega) (by omega)]; exact h0
    · obtain ⟨-, z2, z3, -⟩ := z
      rw [H_fr (by omega) (by omega) (by omega)] at z2
      have ivH : sp_ix (th_H W) (50 + 14 * b + 1) = v := by rw [sp_ix, H_fr (by omega) (by omega) (by omega)]; exact iv
      rw [ivH, H_fr (by omega) (by omega) (by omega)] at z3
      rw [iv] at h
      rcases h with h | h
      · rw [h] at z2; exact absurd z2 (by decide)
      · exact absurd h z3
  have v4 : th_V bar n W (50 + 14 * b + 4) = nI 0 := by
    rw [th_V, hauls_4 hb n 0 _ _ _ (ok_C ho) (by omega) (by rw [c4]; decide) (by rw [c4]; decide)]; exact c4
  have u4 : th_U bar n W (50 + 14 * b + 4) = nI 0 := by
    rcases lay_4 hb n 0 (th_V bar n W) (if sp_frost (th_V bar n W) then nI 0 else th_V bar n W 14) (nI 0) (ok_V ho) (by omega) with z | z
    · rw [th_U, z]; exact v4
    · rw [v4] at z; exact absurd z.1 (by decide)
  rw [th_wkU, fin_4 (ok_U ho) hb (by rw [u4]; decide)]; exact u4
end xk_pu
