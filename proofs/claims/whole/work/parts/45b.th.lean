/-! the class in thought: when it closes -/
def th_lt (W : xw) (b : Nat) : Nat → Nat → Int32 → Int32
  | 0, _, nd => nd
  | c + 1, k, nd => th_lt W b c (k + 1) (xq_max nd (th_tm W b k))
def th_lh (last : Int32) : Nat → Int32 → xw → Int32
  | 0, mo, _ => mo
  | c + 1, mo, W => if last < W 2 then mo else th_lh last c (xq_max mo (sp_herds W false 10)) (sp_turn (sp_herds W false))
def th_nd (n ns : Nat) (W : xw) (nd : Int32) : Prop := nd = nI 0 ∨ ∃ b j, b < n ∧ j < ns ∧ th_nb b j W ∧ nd = th_tm W b j
/-- what the thought's rows keep from one thought to the next -/
def tk (R : Nat → xw) : Prop := R 9 4 = nI 0 ∧ R 11 0 = nI 0 ∧ R 11 1 = nI 0
section yk_th
variable {d : Nat} {g : xq_V} {J : Nat → Nat → Int64} {I : Nat → Nat → Int32} {Q : Option Value → xq_S → Prop} {n ns : Nat} {R R' : Nat → xw} {W W' : xw} {last blk : Int32} {idle b k : Nat}
theorem tk_CR (h : CR false n ns I R W) : tk R := ⟨CR_real h, ((CR_B h).2 rfl).1, ((CR_B h).2 rfl).2.1⟩
theorem max_or (u v : Int32) : xq_max u v = u ∨ xq_max u v = v := by
  unfold xq_max
  split
  · exact Or.inr rfl
  · exact Or.inl rfl
theorem max_lt {u v m : Int32} (h : xq_max u v < m) : u < m ∧ v < m := by
  unfold xq_max at h
  split at h
  · rename_i q
    exact ⟨Int32.lt_trans q h, h⟩
  · rename_i q
    refine ⟨h, ?_⟩
    have a := Int32.lt_iff_toInt_lt.mp h
    have b := mt Int32.lt_iff_toInt_lt.mpr q
    exact Int32.lt_iff_toInt_lt.mpr (by omega)
theorem lh_hb {m : Int32} : ∀ (c : Nat) (mo : Int32) (W : xw), th_lh last c mo W < m → mo < m ∧ th_hb last m c W
  | 0, mo, W, h => ⟨h, trivial⟩
  | c + 1, mo, W, h => by
    simp only [th_lh] at h
    simp only [th_hb]
    by_cases q : last < W 2
    · rw [if_pos q] at h; exact ⟨h, Or.inl q⟩
    · rw [if_neg q] at h
      obtain ⟨a, b⟩ := lh_hb c _ _ h
      obtain ⟨a1, a2⟩ := max_lt a
      exact ⟨a1, Or.inr ⟨a2, b⟩⟩
theorem yl_83 (ho : ok n ns W) (h : CR false n ns I R W) (hb : b < n) (hk : k < ns) (hp : Q (some (.int (th_tm W b k))) (xq_s g J (xc false I R))) : xq_wp d 83 (xq_s g J (xc false I R)) 0 [.ref 2, .int (nI b), .int (nI k)] [] Q := by
  have n14 := ho.1.2.1
  have s8 := ho.1.2.2.2
  have e7 := ((CR_G h).2.2.2 k hk).1
  have e3 := ((CR_G h).2.2.1 b hb).1
  unfold th_tm at hp
  rw [← e7, ← e3] at hp
  refine yt_83 ⟨by omega, fun z => ?_, fun z => ⟨fun z2 => ⟨by omega, ?_⟩, fun z2 => ⟨by omega, ?_⟩⟩⟩
  · rw [if_pos z] at hp; exact hp
  · rw [if_neg z, if_pos z2] at hp; exact hp
  · rw [if_neg z, if_neg z2] at hp; exact hp
theorem yl_110_44 (ho : ok n ns W) (h : CR false n ns I R W) (hb : b < n) : ∀ (c k : Nat) (nd : Int32), k + c = ns → Q (some (.int (th_lt W b c k nd))) (xq_s g J (xc false I R)) → xq_wp (d + 1) 110 (xq_s g J (xc false I R)) 44 [.ref 46, .int (nI b), .int nd, .int (nI k)] [] Q := by
  have n14 := ho.1.2.1
  have s8 := ho.1.2.2.2
  have e5 : I 2 5 = nI ns := (CR_G h).2.1.trans ho.1.2.2.1
  intro c
  induction c with
  | zero => intro k nd e hp; exact yt_110_44 ⟨e5, by omega, by omega, fun z => by omega, fun _ => hp⟩
  | succ c ih =>
    intro k nd e hp
    exact yt_110_44 ⟨e5, by omega, by omega, fun _ => yl_83 ho h hb (by omega) (yt_110_65 (ih (k + 1) _ (by omega) hp)), fun z => by omega⟩
theorem lt_or : ∀ (c k : Nat) (nd : Int32), th_lt W b c k nd = nd ∨ ∃ j, k ≤ j ∧ j < k + c ∧ th_lt W b c k nd = th_tm W b j
  | 0, _, _ => Or.inl rfl
  | c + 1, k, nd => by
    simp only [th_lt]
    rcases lt_or c (k + 1) (xq_max nd (th_tm W b k)) with y | ⟨j, j1, j2, e⟩
    · rw [y]
      rcases max_or nd (th_tm W b k) with q | q
      · exact Or.inl q
      · exact Or.inr ⟨k, by omega, by omega, q⟩
    · exact Or.inr ⟨j, by omega, by omega, e⟩
theorem yl_110 (ho : ok n ns W) (h : CR false n ns I R W) (hb : b < n) (hp : ∀ v, th_nd n ns W v → Q (some (.int v)) (xq_s g J (xc false I R))) : xq_wp (d + 1) 110 (xq_s g J (xc false I R)) 0 [.ref 46, .int (nI b), xq_un, xq_un] [] Q := by
  have n14 := ho.1.2.1
  have s8 := ho.1.2.2.2
  have e4 := CR_4 h b hb
  obtain ⟨w, hw, ew, ek⟩ := ho.2.2.2.2.2.1 b hb
  refine yt_110 (k := sp_ix W (50 + 14 * b + 5)) ⟨by omega, fun z => ⟨fun z2 => ?_, fun z2 => ?_⟩, fun z => hp _ (Or.inl rfl)⟩
  · rw [e4] at z2
    obtain ⟨k, hk, hk8, ek, ik⟩ := ok_at ho hb z2
    refine ⟨by rw [(CR_A h b hb z2).1, ek, ik], ?_⟩
    rw [ik]
    refine yl_110_44 (d := d) ho h hb (ns - k) k _ (by omega) (hp _ ?_)
    rcases lt_or (W := W) (b := b) (ns - k) k (nI 0) with y | ⟨j, j1, j2, e⟩
    · exact Or.inl y
    · exact Or.inr ⟨b, j, hb, by omega, Or.inr (Or.inr ⟨z2, k, j1, ek⟩), e⟩
  · rw [e4] at z z2
    refine yl_110_44 (d := d) ho h hb ns 0 _ (by omega) (hp _ ?_)
    rcases lt_or (W := W) (b := b) ns 0 (nI 0) with y | ⟨j, j1, j2, e⟩
    · exact Or.inl y
    · refine Or.inr ⟨b, j, hb, by omega, ?_, e⟩
      rw [ew, xn_lt (by omega) (by omega)] at z
      rw [ew, xn_eq (by omega) (by omega)] at z2
      have : w = 0 ∨ w = 1 := by omega
      rcases this with q | q
      · exact Or.inl (by rw [ew, q])
      · exact Or.inr (Or.inl (by rw [ew, q]))
theorem yl_111_35 {kw : Nat} (ek0 : W 2 = nI kw) (hkw : kw ≤ 19000) (Q9 : xw) : ∀ (c i : Nat) (mo : Int32) (R : Nat → xw) (W' : xw), ok n ns W' → CR false n ns I R W' → W' 2 = nI (kw + i) → (∀ p, ¬ p = 2 → ¬ p = 10 → ¬ p = 11 → W p = W' p) → R 9 = Q9 → i + c = 300 → (∀ R'', CR false n ns I R'' W → R'' 9 = Q9 → Q (some (.int (th_lh last c mo W'))) (xq_s g J (xc false I R''))) → xq_wp (d + 2) 111 (xq_s g J (xc false I R)) 35 [.ref 46, .int last, .int (W 10), .int (W 11), .int (W 2), .int mo, .int (nI i)] [] Q := by
  intro c
  induction c with
  | zero =>
    intro i mo R W' ho h ek eW e9 e hp
    refine yt_111_35 ⟨by omega, fun z => by omega, fun _ => hp _ ?_ ?_⟩
    · refine CR_num ho h (fun p p1 p2 p3 => eW p p1 (by omega) (by omega)) (fun i hi => by rw [xw_i (by omega), xw_i (by omega), xw_i (by omega)]) (by rw [xw_i (by omega), xw_i (by omega), xw_i (by omega)]) (fun j j1 j2 => by rw [xw_x j2, xw_i (by omega), xw_i (by omega)]) ?_ ?_ (fun i hi => ?_)
      · rw [xw_x (by omega), xw_i (by omega), xw_i (by omega), eW 3 (by omega) (by omega) (by omega)]; exact (CR_0 h).2.1
      · rw [xw_v]
      · rw [xw_i (by omega)]
        by_cases e1 : i = 1
        · subst e1; rw [xw_v]
        · rw [xw_x e1]
          by_cases e0 : i = 0
          · subst e0; rw [xw_v]
          · rw [xw_x e0, eW _ (by omega) (by omega) (by omega)]; exact CR_1 h i hi
    · rw [xw_i (by omega), xw_i (by omega), xw_i (by omega)]; exact e9
  | succ c ih =>
    intro i mo R W' ho h ek eW e9 e hp
    simp only [th_lh] at hp
    refine yt_111_35 (d := d + 1) ⟨by omega, fun _ => ⟨fun z => ?_, fun z => ?_⟩, fun z => by omega⟩
    · rw [(CR_0 h).1] at z
      rw [if_pos z] at hp
      refine hp _ ?_ ?_
      · refine CR_num ho h (fun p p1 p2 p3 => eW p p1 (by omega) (by omega)) (fun i hi => by rw [xw_i (by omega), xw_i (by omega), xw_i (by omega)]) (by rw [xw_i (by omega), xw_i (by omega), xw_i (by omega)]) (fun j j1 j2 => by rw [xw_x j2, xw_i (by omega), xw_i (by omega)]) ?_ ?_ (fun i hi => ?_)
        · rw [xw_x (by omega), xw_i (by omega), xw_i (by omega), eW 3 (by omega) (by omega) (by omega)]; exact (CR_0 h).2.1
        · rw [xw_v]
        · rw [xw_i (by omega)]
          by_cases e1 : i = 1
          · subst e1; rw [xw_v]
          · rw [xw_x e1]
            by_cases e0 : i = 0
            · subst e0; rw [xw_v]
            · rw [xw_x e0, eW _ (by omega) (by omega) (by omega)]; exact CR_1 h i hi
      · rw [xw_i (by omega), xw_i (by omega), xw_i (by omega)]; exact e9
    · rw [(CR_0 h).1] at z
      rw [if_neg z] at hp
      refine yl_76 (q := false) (wet := false) (d := d) ho h (fun R1 C1 r1 => ?_)
      have ho1 := ok_herds (wet := false) ho
      have e10 : R1 1 0 = sp_herds W' false 10 := CR_1 C1 0 (by omega)
      have k1 : sp_herds W' false 2 = nI (kw + i) := by rw [stp_herds (by omega) (by omega)]; exact ek
      refine yt_111_62 (d := d + 1) ?_
      refine yl_98 (q := false) (d := d) ho1 C1 (fun R2 C2 r2 => ?_)
      refine yt_111_85 (d := d + 2) ?_
      rw [e10]
      refine ih (i + 1) _ R2 _ (ok_turn ho1 (by omega) k1) C2 (by rw [sp_turn2, k1, nI_add]; rfl) (fun p p1 p2 p3 => ?_) (by rw [r2, r1]; exact e9) (by omega) hp
      rw [stp_turn p2 p1, stp_herds p2 p3]; exact eW p p1 p2 p3
theorem yl_111 (ho : ok n ns W) (h : CR false n ns I R W) (hw : thw W) (hp : ∀ R', CR false n ns I R' W → R' 9 = R 9 → Q (some (.int (th_lh last 300 (nI 0) W))) (xq_s g J (xc false I R'))) : xq_wp (d + 2) 111 (xq_s g J (xc false I R)) 0 [.ref 46, .int last, xq_un, xq_un, xq_un, xq_un, xq_un] [] Q := by
  obtain ⟨kw, hk, ek⟩ := hw
  refine yt_111 (d := d + 2) ?_
  have e0 : R 1 0 = W 10 := CR_1 h 0 (by omega)
  have e1 : R 1 1 = W 11 := CR_1 h 1 (by omega)
  rw [e0, e1, (CR_0 h).1]
  exact yl_111_35 ek hk (R 9) 300 0 (nI 0) R W ho h ek (fun _ _ _ _ => rfl) rfl (by omega) hp
end yk_th
