/-! the model's thoughts: the herd, help -/
def e5 (W V : xw) : Prop := W 2 = V 2 ∧ W 3 = V 3 ∧ W 10 = V 10 ∧ W 11 = V 11 ∧ W 12 = V 12
def th_herd (n : Nat) (m ve : Nat) (W : xw) : Int32 := if ve = 2 then th_wks n m (th_0 W) 3 else th_wks n m (th_0 W) (10 + ve)
def th_hv (z : Int32) (r : Int32 × Int32) : Int32 := if z = nI 0 ∨ r.2 = Int32.ofInt (-1) then r.2 else r.1
section xk_thn
variable {d : Nat} {g : xq_V} {J : Nat → Nat → Int64} {I : Nat → Nat → Int32} {Q : Option Value → xq_S → Prop} {n ns : Nat} {A W P F N Y X B : xw}
theorem xl_262_27 {Wo : xw} {m ve : Nat} (hm : m ≤ 100) (hv : ve < 3) (hY : ∀ p, p < 250 → Y p = Wo p) : ∀ (c k kw : Nat) (A W P F N : xw), ok n ns W → W 6 = nI 200 → W 2 = nI kw → kw + c ≤ 19500 → A 29 = Int32.ofInt (-1) → k + c = m → (∀ p, 250 ≤ p → W p = Wo p) → (∀ (v' : Int32) (P' F' N' : xw), Q (some (.int (if ve = 2 then th_wks n c W 3 else th_wks n c W (10 + ve)))) (xq_s g J (xt I (upd A 30 v') Wo P' F' N' Y X B))) → xq_wp (d + 7) 262 (xq_s g J (xt I A W P F N Y X B)) 27 [.ref 126, .int (nI m), .int (nI ve), .int (nI k)] [] Q := by
  intro c
  induction c with
  | zero =>
    intro k kw A W P F N ho h6 ek hk h29 e hW hp
    refine xu_262_27 (n := n) (ns := ns) ⟨by omega, by omega, fun z => by omega, fun _ => ?_⟩
    have := hp (A 30) P F N
    rw [upd_self] at this
    refine xu_262_44 (d := d + 6) (Wo := Wo) ⟨by omega, fun z => ⟨hY, hW, ?_⟩, fun z => ⟨by omega, hY, hW, ?_⟩⟩
    · rw [if_pos z] at this; exact this
    · rw [if_neg z] at this; exact this
  | succ c ih =>
    intro k kw A W P F N ho h6 ek hk h29 e hW hp
    refine xu_262_27 (n := n) (ns := ns) ⟨by omega, by omega, fun _ => ⟨ho, fun v' P' F' N' => ?_⟩, fun z => by omega⟩
    rw [h29]
    refine ih (k + 1) (kw + 1) _ _ _ _ _ (ok_sweek (truly := false) ho (show kw < 20000 by omega) ek) (bkf_week ho h6).1 (th_wk ho ek) (by omega) (by rw [upd_ne (by omega)]; exact h29) (by omega) (fun p hp' => by rw [th_hi ho h6 p (by omega)]; exact hW p hp') (fun v1 P1 F1 N1 => by rw [upd_upd]; exact hp v1 P1 F1 N1)
theorem xl_262 {m ve : Nat} {u3 : Value} (ho : ok n ns W) (h29 : A 29 = Int32.ofInt (-1)) (hw : thw W) (hm : m ≤ 100) (hv : ve < 3) (hp : ∀ (v' : Int32) (P' F' N' Y' : xw), Q (some (.int (th_herd n m ve W))) (xq_s g J (xt I (upd A 30 v') W P' F' N' Y' X B))) : xq_wp (d + 7) 262 (xq_s g J (xt I A W P F N Y X B)) 21 [.ref 126, .int (nI m), .int (nI ve), u3] [] Q := by
  obtain ⟨kw, hk, ek⟩ := hw
  refine xu_262 (d := d + 6) (n := n) (ns := ns) (fun Y' hY => ?_)
  exact xl_262_27 (d := d) (Wo := W) hm hv hY m 0 kw A (upd W 6 (nI 200)) P F N (ok_0 ho) upd_eq (by rw [upd_ne (by omega)]; exact ek) (by omega) h29 (by omega) (fun p hp' => upd_ne (by omega)) (fun v' P' F' N' => hp v' P' F' N' Y')
theorem hv_ans {w : Nat} {wk wh : Int32} (hw : w < 2) : th_hv (nI w) (wk, wh) = if w = 0 ∨ wh = Int32.ofInt (-1) then wh else wk := by
  unfold th_hv
  simp only [xn_eq (a := w) (b := 0) (by omega) (by omega)]
theorem xl_263_21 {w : Nat} (hw2 : w < 2) (ho : ok n ns W) (hw : thw W) : ∀ (c k : Nat) (wk wh : Int32) (A P F N Y : xw) (u5 : Value), A 29 = Int32.ofInt (-1) → k + c = 6 → (∀ (v' : Int32) (P' F' N' Y' : xw), Q (some (.int (th_hv (nI w) (th_hp n W c k wk wh)))) (xq_s g J (xt I (upd A 30 v') W P' F' N' Y' X B))) → xq_wp (d + 8) 263 (xq_s g J (xt I A W P F N Y X B)) 21 [.ref 126, .int (nI w), .int wk, .int wh, .int (nI k), u5] [] Q := by
  intro c
  induction c with
  | zero =>
    intro k wk wh A P F N Y u5 h29 e hp
    have := hp (A 30) P F N Y
    rw [upd_self, show th_hp n W 0 k wk wh = (wk, wh) from rfl, hv_ans hw2] at this
    refine xu_263_21 (n := n) (ns := ns) ⟨by omega, fun _ => ⟨by omega, fun z => ?_, fun z => ⟨fun z2 => ?_, fun z2 => ?_⟩⟩, fun z => by omega⟩
    · rw [if_pos (Or.inl z)] at this; exact this
    · rw [if_pos (Or.inr z2)] at this; exact this
    · rw [if_neg (fun y => y.elim z z2)] at this; exact this
  | succ c ih =>
    intro k wk wh A P F N Y u5 h29 e hp
    rw [show th_hp n W (c + 1) k wk wh = if k = 1 ∨ W (10 + k) = xq_most (nI k) then th_hp n W c (k + 1) wk wh else if th_close n (Int32.ofInt (-1)) 0 (upd (th_0 W) (10 + k) (W (10 + k) + nI 1)) = Int32.ofInt (-1) ∨ (¬ wk = Int32.ofInt (-1) ∧ ¬ th_close n (Int32.ofInt (-1)) 0 (upd (th_0 W) (10 + k) (W (10 + k) + nI 1)) < wk) then th_hp n W c (k + 1) wk wh else th_hp n W c (k + 1) (th_close n (Int32.ofInt (-1)) 0 (upd (th_0 W) (10 + k) (W (10 + k) + nI 1))) (nI k) from rfl] at hp
    have eu : upd W 6 (nI 200) (10 + k) = W (10 + k) := upd_ne (by omega)
    have go : ∀ (wk wh : Int32) (A P F N Y : xw) (v' : Int32) (u5 : Value), A 29 = Int32.ofInt (-1) → (∀ (v' : Int32) (P' F' N' Y' : xw), Q (some (.int (th_hv (nI w) (th_hp n W c (k + 1) wk wh)))) (xq_s g J (xt I (upd A 30 v') W P' F' N' Y' X B))) → xq_wp (d + 8) 263 (xq_s g J (xt I (upd A 30 v') W P F N Y X B)) 21 [.ref 126, .int (nI w), .int wk, .int wh, .int (nI (k + 1)), u5] [] Q :=
      fun wk wh A P F N Y v' u5 h29 hp => ih (k + 1) wk wh _ P F N Y u5 (by rw [upd_ne (by omega)]; exact h29) (by omega) (fun v1 P1 F1 N1 Y1 => by rw [upd_upd]; exact hp v1 P1 F1 N1 Y1)
    refine xu_263_21 (n := n) (ns := ns) ⟨by omega, fun z => by omega, fun _ => ⟨fun z => ?_, fun z => ⟨by omega, fun z2 => ?_, fun z2 => fun Y' hY => ?_⟩⟩⟩
    · rw [if_pos (Or.inl z)] at hp
      exact ih (k + 1) wk wh A P F N Y u5 h29 (by omega) hp
    · rw [if_pos (Or.inr z2)] at hp
      exact ih (k + 1) wk wh A P F N Y u5 h29 (by omega) hp
    · rw [if_neg (fun y => y.elim z z2)] at hp
      unfold th_0 at hp
      rw [eu]
      obtain ⟨t, ht, et⟩ := ok_tl ho (i := k) (by omega)
      have ht2 : t + 1 ≤ sp_mx.getD k 0 := by
        rcases Nat.lt_or_ge t (sp_mx.getD k 0) with y | y
        · exact y
        · exfalso
          apply z2
          rw [et, show t = sp_mx.getD k 0 by omega]
          have : k = 0 ∨ k = 2 ∨ k = 3 ∨ k = 4 ∨ k = 5 := by omega
          rcases this with q | q | q | q | q <;> (subst q; decide)
      have ho1 : ok n ns (upd (upd W 6 (nI 200)) (10 + k) (W (10 + k) + nI 1)) := by
        rw [et, nI_add]; exact ok_told (ok_0 ho) (by omega) ht2
      refine ⟨ho1, h29, by rw [upd_ne (by omega), upd_eq], thw_up (thw_0 hw) (by omega), by omega, fun v' P' F' N' W' hW' => ⟨hY, fun p hp' => by rw [hW' p hp', upd_ne (by omega), upd_ne (by omega)], fun y => ?_, fun y => ⟨fun y2 => ?_, fun y2 => ⟨fun y3 => ?_, fun y3 => ?_⟩⟩⟩⟩
      · rw [if_pos (Or.inl y)] at hp
        exact go _ _ _ _ _ _ _ _ _ h29 hp
      · rw [if_neg (fun q => q.elim y (fun q => q.1 y2))] at hp
        exact go _ _ _ _ _ _ _ _ _ h29 hp
      · rw [if_neg (fun q => q.elim y (fun q => q.2 y3))] at hp
        exact go _ _ _ _ _ _ _ _ _ h29 hp
      · rw [if_pos (Or.inr ⟨y2, y3⟩)] at hp
        exact go _ _ _ _ _ _ _ _ _ h29 hp
def th_help (n : Nat) (z : Int32) (W : xw) : Int32 := th_hv z (th_hp n W 6 0 (th_close n (Int32.ofInt (-1)) 0 (th_0 W)) (Int32.ofInt (-1)))
theorem xl_263 {w : Nat} {u2 u3 u4 u5 : Value} (hw2 : w < 2) (ho : ok n ns W) (h29 : A 29 = Int32.ofInt (-1)) (hw : thw W) (hp : ∀ (v' : Int32) (P' F' N' Y' : xw), Q (some (.int (th_help n (nI w) W))) (xq_s g J (xt I (upd A 30 v') W P' F' N' Y' X B))) : xq_wp (d + 10) 263 (xq_s g J (xt I A W P F N Y X B)) 11 [.ref 126, .int (nI w), u2, u3, u4, u5] [] Q :=
  xu_263 (n := n) (ns := ns) (fun Y' hY => ⟨ok_0 ho, h29, upd_eq, thw_0 hw, by omega, fun v' P' F' N' W' hW' => ⟨hY, fun p hp' => by rw [hW' p hp', upd_ne (by omega)], xl_263_21 (d := d + 2) hw2 ho hw 6 0 _ _ _ _ _ _ _ _ (by rw [upd_ne (by omega)]; exact h29) (by omega) (fun v1 P1 F1 N1 Y1 => by rw [upd_upd]; exact hp v1 P1 F1 N1 Y1)⟩⟩)
end xk_thn
