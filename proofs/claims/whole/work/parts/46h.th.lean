/-! the class in thought: what its thoughts answer -/
section yk_ans
variable {d : Nat} {g : xq_V} {J : Nat → Nat → Int64} {I I' : Nat → Nat → Int32} {Q : Option Value → xq_S → Prop} {q : Bool} {n ns : Nat} {R R' : Nat → xw} {W W' : xw} {last blk wk : Int32} {idle b k : Nat}
theorem CR_told {j : Nat} {v : Int32} (ho : ok n ns W) (h : CR q n ns I R W) (hj : j < 12) : CR q n ns I (xq_w R 1 j v) (upd W (10 + j) v) := by
  refine CR_num ho h (fun p p1 p2 p3 => upd_ne (by omega)) (fun i hi => xw_i (by omega)) (by rw [xw_i (by omega)]) (fun i i1 i2 => by rw [xw_i (by omega)]) ?_ ?_ (fun i hi => ?_)
  · rw [xw_i (by omega), upd_ne (by omega)]; exact (CR_0 h).2.1
  · rw [xw_i (by omega), upd_ne (by omega)]; exact (CR_0 h).1
  · by_cases e : i = j
    · subst e; rw [xw_v, upd_eq]
    · rw [xw_x e, upd_ne (by omega)]; exact CR_1 h i hi
theorem CR_open {j : Nat} {v : Int32} (ho : ok n ns W) (h : CR q n ns I R W) (hj : j < 4) : CR q n ns I (xq_w R 2 j v) (upd W (24 + j) v) := by
  have n14 := ho.1.2.1
  refine CR_oth (F := fun p => p = 24 + j) ho h (fun p hp => upd_ne hp) (fun p hp => by omega) (xw_i (by omega)) (xw_i (by omega)) (xw_i (by omega)) (xw_i (by omega)) (by rw [xw_i (by omega)]) (xw_i (by omega)) (xw_i (by omega)) (xw_i (by omega)) (xw_i (by omega)) (xw_i (by omega)) ⟨by rw [xw_i (by omega)], by rw [xw_i (by omega)]⟩ ⟨?_, ?_, ?_, ?_, ?_⟩ (fun i hi => ?_) (fun i hi => ?_) (fun b hb => ?_) (fun hq b k hb hk => ?_)
  · rw [xw_i (by omega), upd_ne (by omega)]; exact (CR_0 h).1
  · rw [xw_i (by omega), upd_ne (by omega)]; exact (CR_0 h).2.1
  · rw [xw_i (by omega), upd_ne (by omega)]; exact (CR_0 h).2.2.1
  · rw [xw_i (by omega), upd_ne (by omega)]; exact (CR_0 h).2.2.2.1
  · rw [xw_i (by omega), upd_ne (by omega)]; exact (CR_0 h).2.2.2.2
  · rw [xw_i (by omega), upd_ne (by omega)]; exact CR_1 h i hi
  · by_cases e : i = j
    · subst e; rw [xw_v, upd_eq]
    · rw [xw_x e, upd_ne (by omega)]; exact CR_2 h i hi
  · rw [xw_i (by omega), upd_ne (by omega)]; exact CR_7 h b hb
  · rw [xw_i (by omega), upd_ne (by omega)]; exact CR_8 h hq b k hb hk
theorem yl_by0 (ho : ok n ns W) (h : CR false n ns I R W) (hw : thw W) (h10 : R 9 10 = Int32.ofInt (-1)) (hp : ∀ R', tk R' → R' 9 10 = Int32.ofInt (-1) → Q (some (.int (th_by n (Int32.ofInt (-1)) 0 last W))) (xq_s g J (xc false I R'))) : xq_wp (d + 5) 108 (xq_s g J (xc false I R)) 0 [.ref 46, .int last, xq_un, xq_un, xq_un] [] Q := by
  obtain ⟨kw, hk, ek⟩ := hw
  exact yl_108 (blk := Int32.ofInt (-1)) (idle := 0) ho h ek hk (hh_no ho.1.2.1 h10) (fun R2 t2 q10 q11 => hp R2 t2 (q10.trans h10))
theorem yl_121 (ho : ok n ns W) (h : CR true n ns I (xcR true I) W) (hw : thw W) (htk : tk R) (h10 : R 9 10 = Int32.ofInt (-1)) (hp : ∀ R', tk R' → R' 9 10 = Int32.ofInt (-1) → Q (some (.int (th_close n (Int32.ofInt (-1)) 0 (th_0 W)))) (xq_s g J (xc false I R'))) : xq_wp (d + 6) 121 (xq_s g J (xc false I R)) 0 [.ref 34] [] Q := by
  refine yt_121 (d := d + 3) ⟨ho, h, htk, fun R1 C1 r9 r1 => yl_by0 (d := d) (ok_0 ho) C1 (thw_0 hw) ((r1 10 (by omega)).trans h10) (fun R2 t2 q2 => ?_)⟩
  rw [lim_big (ok_0 ho) (thw_0 hw)]
  exact xq_wp.ret (k := 1) (fun F => rfl) (hp R2 t2 q2)
theorem hh_b {kw h : Nat} (hk : kw ≤ 19000) (hn : n ≤ 14) (hb : b < n) (hh : h ≤ 60) : ∀ i, i < 300 → ∀ b', b' < n → (nI b' = (if i < h then nI b else Int32.ofInt (-1)) ↔ nI b' = nI b ∧ nI (kw + i) < nI (kw + h)) := by
  intro i hi b' hb'
  rw [xn_lt (by omega) (by omega)]
  by_cases y : i < h
  · rw [if_pos y]; exact ⟨fun z => ⟨z, by omega⟩, fun z => z.1⟩
  · rw [if_neg y]; exact ⟨fun z => absurd z (nI_m1 (by omega)), fun z => by omega⟩
theorem yl_129_35 (ho : ok n ns W) (h : CR true n ns I (xcR true I) W) (hw : thw W) (hb : b < n) : ∀ (k : Nat) (R : Nat → xw), k ≤ 60 → tk R → R 9 10 = nI b → (∀ R', tk R' → R' 9 10 = Int32.ofInt (-1) → Q (some (.int (nI (th_sl n b wk (th_0 W) k)))) (xq_s g J (xc false I R'))) → xq_wp (d + 6) 129 (xq_s g J (xc false I R)) 35 [.ref 34, .int (nI b), .int wk, .int (nI 0), .int (nI k)] [] Q := by
  have n14 := ho.1.2.1
  have tkw : ∀ (R : Nat → xw) (v : Int32), tk R → tk (xq_w R 9 10 v) := fun R v t => ⟨by rw [xw_x (by omega)]; exact t.1, by rw [xw_i (by omega)]; exact t.2.1, by rw [xw_i (by omega)]; exact t.2.2⟩
  intro k
  induction k with
  | zero =>
    intro R hk htk h10 hp
    exact yt_129_35 (d := d + 3) (n := n) (ns := ns) (W := W) ⟨by omega, fun z => by omega, fun _ => hp _ (tkw R _ htk) xw_v⟩
  | succ k ih =>
    intro R hk htk h10 hp
    obtain ⟨kw, hkw, ek⟩ := hw
    refine yt_129_35 (d := d + 3) (n := n) (ns := ns) (W := W) ⟨by omega, fun _ => ⟨by omega, fun _ => ⟨ho, h, htk, fun R1 C1 r9 r1 => ?_⟩, fun z => absurd rfl z⟩, fun z => by omega⟩
    have ek0 : th_0 W 2 = nI kw := by rw [th_0, upd_ne (by omega)]; exact ek
    have e11 : R1 0 10 + nI (k + 1) = nI (kw + (k + 1)) := by rw [(CR_0 C1).1, ek0, nI_add]
    rw [e11]
    refine yl_108 (d := d) (kw := kw) (blk := nI b) (idle := k + 1) (ok_0 ho) (CR_r9 C1 (by omega)) ek0 hkw ?_ (fun R2 t2 q10 q11 => ?_)
    · rw [xw_v, xw_x (by omega), r1 10 (by omega), h10]
      exact hh_b hkw n14 hb (by omega)
    have p10 : R2 9 10 = nI b := by rw [q10, xw_x (by omega), r1 10 (by omega), h10]
    refine yt_129_73 (d := d + 6) ⟨fun y => ⟨by omega, ?_⟩, fun y => ⟨by omega, ?_⟩⟩
    · rw [by_in (ok_0 ho) (thw_0 ⟨kw, hkw, ek⟩)] at y
      simp only [th_sl, if_neg y] at hp
      exact ih R2 (by omega) t2 p10 hp
    · rw [by_in (ok_0 ho) (thw_0 ⟨kw, hkw, ek⟩)] at y
      have y := Classical.not_not.mp y
      simp only [th_sl, if_pos y] at hp
      exact yt_129_35 (d := d + 3) (n := n) (ns := ns) (W := W) ⟨by omega, fun _ => ⟨by omega, fun z => by omega, fun _ => hp _ (tkw R2 _ t2) xw_v⟩, fun _ => hp _ (tkw R2 _ t2) xw_v⟩
theorem yl_129 (ho : ok n ns W) (h : CR true n ns I (xcR true I) W) (hw : thw W) (hb : b < n) (h0 : W (50 + 14 * b + 4) = nI 0) (htk : tk R) (h10 : R 9 10 = Int32.ofInt (-1)) (hp : ∀ R', tk R' → R' 9 10 = Int32.ofInt (-1) → Q (some (.int (th_slack n b W))) (xq_s g J (xc false I R'))) : xq_wp (d + 6) 129 (xq_s g J (xc false I R)) 0 [.ref 34, .int (nI b), xq_un, xq_un, xq_un] [] Q := by
  unfold th_slack at hp
  refine yt_129 (d := d + 3) ⟨ho, h, htk, fun R1 C1 r9 r1 => yl_by0 (d := d) (ok_0 ho) C1 (thw_0 hw) ((r1 10 (by omega)).trans h10) (fun R2 t2 q2 => ?_)⟩
  rw [lim_big (ok_0 ho) (thw_0 hw)]
  refine yt_129_13 (d := d + 6) ⟨fun y => ?_, fun y => ?_⟩
  · rw [if_neg (fun z => z.2 y)] at hp
    exact hp R2 t2 q2
  · rw [if_pos ⟨h0, y⟩] at hp
    exact yl_129_35 ho h hw hb 60 _ (by omega) ⟨by rw [xw_x (by omega)]; exact t2.1, by rw [xw_i (by omega)]; exact t2.2.1, by rw [xw_i (by omega)]; exact t2.2.2⟩ xw_v hp
theorem or_0 (s : Int32) : s ||| nI 0 = s := by
  show s ||| 0 = s
  exact Int32.or_zero
theorem yl_131_25 (ho : ok n ns W) (h : CR true n ns I (xcR true I) W) (hw : thw W) : ∀ (c b : Nat) (s : Int32) (R : Nat → xw), b + c = n → tk R → R 9 10 = Int32.ofInt (-1) → (∀ R', tk R' → R' 9 10 = Int32.ofInt (-1) → Q (some (.int (th_sp n wk W c b s))) (xq_s g J (xc false I R'))) → xq_wp (d + 6) 131 (xq_s g J (xc false I R)) 25 [.ref 34, .int wk, .int s, .int (nI b)] [] Q := by
  have n14 := ho.1.2.1
  have e0 : I 2 0 = nI n := (CR_G h).1.trans ho.1.1
  intro c
  induction c with
  | zero =>
    intro b s R e htk h10 hp
    exact yt_131_25 (d := d + 3) (n := n) (ns := ns) (W := W) ⟨e0, by omega, by omega, fun z => by omega, fun _ => hp R htk h10⟩
  | succ c ih =>
    intro b s R e htk h10 hp
    have hb : b < n := by omega
    have e4 : I 22 b = W (50 + 14 * b + 4) := CR_4 h b hb
    rw [show th_sp n wk W (c + 1) b s = th_sp n wk W c (b + 1) (if W (50 + 14 * b + 4) = nI 0 ∨ W (50 + 14 * b + 4) = nI 4 then s else s ||| (if th_in wk (th_close n (Int32.ofInt (-1)) 0 (upd (th_0 W) (50 + 14 * b + 4) (nI 0))) then nI 1 <<< (nI b &&& 31) else nI 0)) from rfl] at hp
    refine yt_131_25 (d := d + 3) (n := n) (ns := ns) (W := W) ⟨e0, by omega, by omega, fun _ => ⟨by omega, fun z => ?_, fun z => ⟨fun z2 => ?_, fun z2 => ⟨ho, h, htk, fun R1 C1 r9 r1 => ?_⟩⟩⟩, fun z => by omega⟩
    · rw [e4] at z
      rw [if_pos (Or.inl z)] at hp
      exact ih (b + 1) s R (by omega) htk h10 hp
    · rw [e4] at z2
      rw [if_pos (Or.inr z2)] at hp
      exact ih (b + 1) s R (by omega) htk h10 hp
    · rw [e4] at z z2
      rw [if_neg (fun y => y.elim z z2)] at hp
      have ho1 : ok n ns (upd (th_0 W) (50 + 14 * b + 4) (nI 0)) := ok_wh (w := 0) (ok_0 ho) hb (by omega) (by omega)
      have hw1 : thw (upd (th_0 W) (50 + 14 * b + 4) (nI 0)) := thw_up (thw_0 hw) (by omega)
      have C2 := CR_wh (w := 0) (ok_0 ho) C1 hb (by rw [th_0, upd_ne (by omega)]; exact z2) (by omega)
      refine yl_by0 (d := d) ho1 C2 hw1 (by rw [xw_i (by omega), r1 10 (by omega)]; exact h10) (fun R2 t2 q2 => yt_131_92 (d := d + 6) ⟨fun y => ?_, fun y => ?_⟩)
      · rw [by_in ho1 hw1] at y
        rw [if_neg y, or_0] at hp
        exact ih (b + 1) s R2 (by omega) t2 q2 hp
      · rw [by_in ho1 hw1] at y
        rw [if_pos (Classical.not_not.mp y)] at hp
        exact ih (b + 1) _ R2 (by omega) t2 q2 hp
theorem yl_131 (ho : ok n ns W) (h : CR true n ns I (xcR true I) W) (hw : thw W) (htk : tk R) (h10 : R 9 10 = Int32.ofInt (-1)) (hp : ∀ R', tk R' → R' 9 10 = Int32.ofInt (-1) → Q (some (.int (th_spare n W))) (xq_s g J (xc false I R'))) : xq_wp (d + 6) 131 (xq_s g J (xc false I R)) 0 [.ref 34, xq_un, xq_un, xq_un] [] Q := by
  unfold th_spare at hp
  refine yt_131 (d := d + 3) ⟨ho, h, htk, fun R1 C1 r9 r1 => yl_by0 (d := d) (ok_0 ho) C1 (thw_0 hw) ((r1 10 (by omega)).trans h10) (fun R2 t2 q2 => ?_)⟩
  rw [lim_big (ok_0 ho) (thw_0 hw)]
  refine yt_131_13 (d := d + 6) ⟨fun y => ?_, fun y => ?_⟩
  · rw [if_pos y] at hp
    exact hp R2 t2 q2
  · rw [if_neg y] at hp
    exact yl_131_25 ho h hw n 0 (nI 0) R2 (by omega) t2 q2 hp
theorem yl_133_2 (ho : ok n ns W) (h : CR true n ns I (xcR true I) W) (hw : thw W) : ∀ (c k : Nat) (R : Nat → xw), k + c = 100 → tk R → R 9 10 = Int32.ofInt (-1) → (∀ R', tk R' → R' 9 10 = Int32.ofInt (-1) → Q (some (.int (th_fw n wk W c k))) (xq_s g J (xc false I R'))) → xq_wp (d + 6) 133 (xq_s g J (xc false I R)) 2 [.ref 34, .int wk, .int (nI k)] [] Q := by
  intro c
  induction c with
  | zero =>
    intro k R e htk h10 hp
    exact yt_133_2 (d := d + 3) (n := n) (ns := ns) (W := W) ⟨by omega, fun _ => hp R htk h10, fun z => by omega⟩
  | succ c ih =>
    intro k R e htk h10 hp
    rw [show th_fw n wk W (c + 1) k = if th_in wk (th_close n (Int32.ofInt (-1)) 0 (upd (th_0 W) 10 (nI k))) then nI k else th_fw n wk W c (k + 1) from rfl] at hp
    refine yt_133_2 (d := d + 3) (n := n) (ns := ns) (W := W) ⟨by omega, fun z => by omega, fun _ => ⟨ho, h, htk, fun R1 C1 r9 r1 => ?_⟩⟩
    have ho1 : ok n ns (upd (th_0 W) 10 (nI k)) := ok_told (i := 0) (ok_0 ho) (by omega) (show k ≤ 99 by omega)
    have hw1 : thw (upd (th_0 W) 10 (nI k)) := thw_up (thw_0 hw) (by omega)
    refine yl_by0 (d := d) ho1 (CR_told (j := 0) (ok_0 ho) C1 (by omega)) hw1 (by rw [xw_i (by omega), r1 10 (by omega)]; exact h10) (fun R2 t2 q2 => yt_133_33 (d := d + 6) ⟨fun y => ?_, fun y => ?_⟩)
    · rw [by_in ho1 hw1] at y
      rw [if_neg y] at hp
      exact ih (k + 1) R2 (by omega) t2 q2 hp
    · rw [by_in ho1 hw1] at y
      rw [if_pos (Classical.not_not.mp y)] at hp
      exact hp R2 t2 q2
theorem yl_148 {ve : Nat} (ho : ok n ns W) (h : CR true n ns I (xcR true I) W) (hw : thw W) (hv : ve < 4) (htk : tk R) (h10 : R 9 10 = Int32.ofInt (-1)) (hp : ∀ R', tk R' → R' 9 10 = Int32.ofInt (-1) → Q (some (.int (th_close n (Int32.ofInt (-1)) 0 (upd (th_0 W) (24 + ve) (nI 0))))) (xq_s g J (xc false I R'))) : xq_wp (d + 6) 148 (xq_s g J (xc false I R)) 0 [.ref 34, .int (nI ve)] [] Q := by
  have ho1 := ok_open (k := 0) (ok_0 ho) hv (by omega)
  have hw1 : thw (upd (th_0 W) (24 + ve) (nI 0)) := thw_up (thw_0 hw) (by omega)
  refine yt_148 (d := d + 3) ⟨ho, h, htk, fun R1 C1 r9 r1 => ⟨hv, yl_by0 (d := d) ho1 (CR_open (ok_0 ho) C1 hv) hw1 (by rw [xw_i (by omega), r1 10 (by omega)]; exact h10) (fun R2 t2 q2 => ?_)⟩⟩
  rw [lim_big ho1 hw1]
  exact xq_wp.ret (k := 1) (fun F => rfl) (hp R2 t2 q2)
end yk_ans
