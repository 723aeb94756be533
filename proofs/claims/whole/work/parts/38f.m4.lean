/-! the model: hauling, floods -/
section xq_m4f
variable {d : Nat} {g : xq_V} {J : Nat → Nat → Int64} {I : Nat → Nat → Int32} {Q : Option Value → xq_S → Prop} {A W P F N N' : xw} {n ns : Nat}
theorem upd_self (f : xw) (k : Nat) : upd f k (f k) = f := by
  funext j; simp only [upd]; split
  · rename_i e; rw [e]
  · rfl
theorem upd_upd (f : xw) (k : Nat) (u v : Int32) : upd (upd f k u) k v = upd f k v := by
  funext j; simp only [upd]; split <;> rfl
theorem sp_goes_cg {b : Nat} {z fr : Int32} (hk : sp_ix W (50 + 14 * b + 5) < 8) (hN : ∀ j, j < 8 → N j = N' j) : (sp_goes z W N fr b).1 = (sp_goes z W N' fr b).1 ∧ (sp_goes z W N fr b).2.2 = (sp_goes z W N' fr b).2.2 ∧ ∀ j, j < 8 → (sp_goes z W N fr b).2.1 j = (sp_goes z W N' fr b).2.1 j := by
  unfold sp_goes
  rw [hN _ hk]
  split
  · exact ⟨rfl, rfl, hN⟩
  · split
    · exact ⟨rfl, rfl, hN⟩
    · refine ⟨rfl, rfl, fun j hj => ?_⟩
      show upd N _ _ j = upd N' _ _ j
      simp only [upd]
      split
      · rfl
      · exact hN j hj
theorem sp_on_wh {b : Nat} {k : Int32} (h : sp_on W b k (50 + 14 * b + 4) = nI 2) (hb : b < 14) (ho : okb W) : ¬ (k < nI 0 ∨ W 1 - nI 1 < k) := by
  intro q
  rw [sp_on, if_pos q, sp_wr] at h
  obtain ⟨l, hl, el⟩ := okb_up (p := 50 + 14 * b + 6) (v := nI 0) (okb_up (p := 50 + 14 * b + 5) (v := nI 0) (okb_up (p := 50 + 14 * b + 4) (v := nI 3) ho (by omega)) (by omega)) (by omega)
  split at h
  · rw [upd_ne (by omega), upd_ne (by omega), upd_eq] at h
    exact absurd h (by decide)
  · rw [upd_ne (by omega), upd_ne (by omega), upd_ne (by omega), upd_ne (by omega), upd_ne (by omega), upd_ne (by omega), upd_ne (by omega), upd_eq] at h
    exact absurd h (by decide)
theorem sp_h1_cg {b : Nat} {z fr : Int32} (h : ok n ns W) (hb : b < n) (hN : ∀ j, j < 8 → N j = N' j) : (sp_h1 z W N fr b).1 = (sp_h1 z W N' fr b).1 ∧ (sp_h1 z W N fr b).2.2 = (sp_h1 z W N' fr b).2.2 ∧ ∀ j, j < 8 → (sp_h1 z W N fr b).2.1 j = (sp_h1 z W N' fr b).2.1 j := by
  unfold sp_h1
  split
  · split
    · rename_i q
      obtain ⟨k, _, k8, _, ik⟩ := ok_at (ok_on (k := nI 0) h hb) hb q
      exact sp_goes_cg (by omega) hN
    · exact ⟨rfl, rfl, hN⟩
  · split
    · rename_i q
      obtain ⟨k, _, k8, _, ik⟩ := ok_at h hb q
      exact sp_goes_cg (by omega) hN
    · exact ⟨rfl, rfl, hN⟩
theorem ok_hauls {z : Int32} : ∀ (c i : Nat) (W N : xw) (fr : Int32), ok n ns W → i + c = n → ok n ns (sp_hauls z c i W N fr).1 := by
  intro c
  induction c with
  | zero => exact fun i W N fr h _ => h
  | succ c ih =>
    intro i W N fr h e
    obtain ⟨b, hb, _, ib⟩ := ok_or h (show i < n by omega)
    simp only [sp_hauls, ib]
    exact ih _ _ _ _ (ok_h1 h hb) (by omega)
theorem sp_hauls_cg {z : Int32} : ∀ (c i : Nat) (W N N' : xw) (fr : Int32), ok n ns W → i + c = n → (∀ j, j < 8 → N j = N' j) → (sp_hauls z c i W N fr).1 = (sp_hauls z c i W N' fr).1 ∧ (sp_hauls z c i W N fr).2.2 = (sp_hauls z c i W N' fr).2.2 := by
  intro c
  induction c with
  | zero => exact fun i W N N' fr h _ hN => ⟨rfl, rfl⟩
  | succ c ih =>
    intro i W N N' fr h e hN
    obtain ⟨b, hb, _, ib⟩ := ok_or h (show i < n by omega)
    simp only [sp_hauls, ib]
    obtain ⟨q1, q2, q3⟩ := sp_h1_cg (z := z) (fr := fr) h hb hN
    have := ih (i + 1) (sp_h1 z W N fr b).1 _ _ (sp_h1 z W N fr b).2.2 (ok_h1 h hb) (by omega) q3
    rw [← q1, ← q2]
    exact this
theorem xl_221_32 {wet : Bool} {z2 : Value} : ∀ (c i : Nat) (A W N P F : xw) (z3 : Value), ok n ns W → i + c = n → (∀ (A' P' F' : xw) (z3' : Value), A' = upd A 30 (sp_hauls (sp_b2 wet) c i W N (A 30)).2.2 → xq_wp (d + 5) 221 (xq_s g J (xm I A' (sp_hauls (sp_b2 wet) c i W N (A 30)).1 P' F' (sp_hauls (sp_b2 wet) c i W N (A 30)).2.1)) 109 [.ref 126, .int (sp_b2 wet), z2, .int (nI 0), z3'] [] Q) → xq_wp (d + 5) 221 (xq_s g J (xm I A W P F N)) 32 [.ref 126, .int (sp_b2 wet), z2, .int (nI i), z3] [] Q := by
  intro c
  induction c with
  | zero =>
    intro i A W N P F z3 h e hp
    have := ok_n h
    exact xu_221_32 (n := n) (ns := ns) (b := 0) ⟨this.1, by omega, by omega, fun q => by omega, fun _ => hp A P F z3 (upd_self A 30).symm⟩
  | succ c ih =>
    intro i A W N P F z3 h e hp
    have hn := ok_n h
    obtain ⟨b, hb, eb, ib⟩ := ok_or h (show i < n by omega)
    simp only [sp_hauls, ib] at hp
    have go : ∀ (W' N' A' P' F' : xw) (fr : Int32), ok n ns W' → (W', N', fr) = sp_h1 (sp_b2 wet) W N (A 30) b → A' = upd A 30 fr → xq_wp (d + 5) 221 (xq_s g J (xm I A' W' P' F' N')) 32 [.ref 126, .int (sp_b2 wet), z2, .int (nI (i + 1)), .int (nI b)] [] Q := by
      intro W' N' A' P' F' fr h' eq eA
      have e1 : A' 30 = fr := by rw [eA, upd_eq]
      refine ih (i + 1) A' W' N' P' F' _ h' (by omega) (fun A2 P2 F2 z3' e2 => ?_)
      rw [← eq] at hp
      rw [e1]
      exact hp A2 P2 F2 z3' (by rw [e2, e1, eA, upd_upd])
    refine xu_221_32 (n := n) (ns := ns) (b := b) ⟨hn.1, by omega, by omega, fun _ => ⟨by omega, eb, by omega, fun q => ⟨by omega, h.2.1, fun q2 => ⟨ok_on h hb, hb, q2, fun P' F' => ?_⟩, fun q2 => ?_⟩, fun q => ⟨fun q2 => ⟨h, hb, q2, fun P' F' => ?_⟩, fun q2 => ?_⟩⟩, fun q => by omega⟩
    · exact go _ _ _ _ _ (sp_goes (sp_b2 wet) (sp_on W b (nI 0)) N (A 30) b).2.2 (ok_goes (ok_on h hb) hb) (by rw [sp_h1, if_pos q, if_pos q2]) rfl
    · exact go _ _ _ _ _ (A 30) (ok_on h hb) (by rw [sp_h1, if_pos q, if_neg q2]) (upd_self A 30).symm
    · exact go _ _ _ _ _ (sp_goes (sp_b2 wet) W N (A 30) b).2.2 (ok_goes h hb) (by rw [sp_h1, if_neg q, if_pos q2]) rfl
    · exact go _ _ _ _ _ (A 30) h (by rw [sp_h1, if_neg q, if_neg q2]) (upd_self A 30).symm
theorem ok_flood : ∀ (c i : Nat) (W : xw), ok n ns W → i + c = n → ok n ns (sp_flood c i W) := by
  intro c
  induction c with
  | zero => exact fun i W h _ => h
  | succ c ih =>
    intro i W h e
    obtain ⟨b, hb, _, ib⟩ := ok_or h (show i < n by omega)
    simp only [sp_flood, ib]
    refine ih _ _ ?_ (by omega)
    split
    · exact ok_over h hb
    · exact h
theorem xl_221_109 {z1 : Value} : ∀ (c i : Nat) (W : xw) (z3 : Value), ok n ns W → i + c = n → Q none (xq_s g J (xm I A (sp_flood c i W) P F N)) → xq_wp (d + 4) 221 (xq_s g J (xm I A W P F N)) 109 [.ref 126, z1, .int (sp_b2 true), .int (nI i), z3] [] Q := by
  intro c
  induction c with
  | zero =>
    intro i W z3 h e hp
    have := ok_n h
    exact xu_221_109 (n := n) (b := 0) (k := 0) ⟨this.1, by omega, by omega, fun q => by omega, fun _ => hp⟩
  | succ c ih =>
    intro i W z3 h e hp
    have hn := ok_n h
    obtain ⟨b, hb, eb, ib⟩ := ok_or h (show i < n by omega)
    simp only [sp_flood, ib] at hp
    by_cases hw : W (50 + 14 * b + 4) = nI 2
    · obtain ⟨k, hk, k8, ek, ik⟩ := ok_at h hb hw
      rw [ik] at hp
      refine xu_221_109 (n := n) (b := b) (k := k) ⟨hn.1, by omega, by omega, fun _ => ⟨fun q => absurd q (by decide), fun _ => ⟨by omega, eb, by omega, fun _ => ⟨by omega, ek, by omega, fun q2 => ⟨by omega, h.2.1, ?_⟩, fun q2 => ?_⟩, fun q => absurd hw q⟩⟩, fun q => by omega⟩
      · rw [if_pos ⟨hw, q2⟩] at hp
        exact ih _ _ _ (ok_over h hb) (by omega) hp
      · rw [if_neg (fun z => q2 z.2)] at hp
        exact ih _ _ _ h (by omega) hp
    · rw [if_neg (fun z => hw z.1)] at hp
      exact xu_221_109 (n := n) (b := b) (k := 0) ⟨hn.1, by omega, by omega, fun _ => ⟨fun q => absurd q (by decide), fun _ => ⟨by omega, eb, by omega, fun q => absurd q hw, fun q => ih _ _ _ h (by omega) hp⟩⟩, fun q => by omega⟩
theorem xl_221_11 {z1 z2 z3 : Value} : ∀ (c i : Nat) (N : xw), i + c = 8 → (∀ N' : xw, (∀ j, j < i → N' j = N j) → (∀ j, i ≤ j → j < 8 → N' j = nI 0) → xq_wp d 221 (xq_s g J (xm I A W P F N')) 32 [.ref 126, z1, z2, .int (nI 0), z3] [] Q) → xq_wp d 221 (xq_s g J (xm I A W P F N)) 11 [.ref 126, z1, z2, .int (nI i), z3] [] Q := by
  intro c
  induction c with
  | zero => exact fun i N e hp => xu_221_11 ⟨by omega, fun q => by omega, fun _ => hp N (fun _ _ => rfl) (fun j h1 h2 => by omega)⟩
  | succ c ih =>
    intro i N e hp
    refine xu_221_11 ⟨by omega, fun _ => ih (i + 1) _ (by omega) (fun N' h1 h2 => hp N' (fun j hj => ?_) (fun j h3 h4 => ?_)), fun q => by omega⟩
    · rw [h1 j (by omega), upd_ne (by omega)]
    · by_cases e : j = i
      · subst e
        rw [h1 j (by omega), upd_eq]
      · exact h2 j (by omega) h4
theorem xl_221 {wet flood : Bool} (h : ok n ns W) (hp : ∀ (v : Int32) (P' F' N' : xw), Q none (xq_s g J (xm I (upd A 30 v) (sp_haulw n wet flood W) P' F' N'))) : xq_wp (d + 5) 221 (xq_s g J (xm I A W P F N)) 0 [.ref 126, .int (sp_b2 wet), .int (sp_b2 flood), xq_un, xq_un] [] Q := by
  have hn := ok_n h
  refine xq_wp.go (k := 3) (x' := xq_s g J (xm I A W P F N)) (pc' := 3) (L' := [.ref 126, .int (sp_b2 wet), .int (sp_b2 flood), xq_un, xq_un]) (st' := [.int (nI 0), .ref 126, .ref 126]) (fun F => rfl) (xq_wp.call rfl rfl rfl rfl (xq_wp.ret (k := 7) (v := some (.int (W 10))) (fun F => rfl) ?_))
  refine xq_wp.go (k := 3) (x' := xq_s g J (xq_w (xm I A W P F N) 126 30 (W 10))) (pc' := 11) (L' := [.ref 126, .int (sp_b2 wet), .int (sp_b2 flood), .int (nI 0), xq_un]) (st' := []) (fun F => rfl) (xq_wp.hc xm_126 ?_)
  refine xl_221_11 8 0 N (by omega) (fun N' _ hz => ?_)
  refine xl_221_32 n 0 _ W N' P F _ h (by omega) (fun A' P' F' z3' eA => ?_)
  have e0 : upd A 30 (W 10) 30 = W 10 := upd_eq
  rw [e0] at eA ⊢
  rw [upd_upd] at eA
  subst eA
  obtain ⟨c1, c2⟩ := sp_hauls_cg (z := sp_b2 wet) n 0 W N' (fun _ => nI 0) (W 10) h (by omega) (fun j hj => hz j (by omega) hj)
  have ho := ok_hauls (z := sp_b2 wet) n 0 W N' (W 10) h (by omega)
  cases flood
  · have h0 := ok_n ho
    refine xu_221_109 (flood := false) (n := n) (b := 0) (k := 0) ⟨h0.1, by omega, by omega, fun q => ⟨fun _ => ?_, fun q => absurd rfl q⟩, fun _ => ?_⟩
    · have := hp (sp_hauls (sp_b2 wet) n 0 W N' (W 10)).2.2 P' F' (sp_hauls (sp_b2 wet) n 0 W N' (W 10)).2.1
      simp only [sp_haulw, ← c1] at this
      exact this
    · have := hp (sp_hauls (sp_b2 wet) n 0 W N' (W 10)).2.2 P' F' (sp_hauls (sp_b2 wet) n 0 W N' (W 10)).2.1
      simp only [sp_haulw, ← c1] at this
      exact this
  · refine xl_221_109 n 0 _ _ ho (by omega) ?_
    have := hp (sp_hauls (sp_b2 wet) n 0 W N' (W 10)).2.2 P' F' (sp_hauls (sp_b2 wet) n 0 W N' (W 10)).2.1
    simp only [sp_haulw, ← c1] at this
    exact this
end xq_m4f
