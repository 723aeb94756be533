/-! text: what the class's reader answers -/
section yk_rd
variable {d : Nat} {g : xq_V} {J : Nat → Nat → Int64} {I : Nat → xw} {Q : Option Value → xq_S → Prop} {r t i w K c k lo hi_ : Nat} {tc vl ss : Nat → Nat}
theorem cT_n (hT : cT r I t tc vl ss) (h0 : ¬ tc i = 0) (hi : i ≤ t) : i < t ∧ xq_min (I 104 6) (nI i + nI 1) = nI (i + 1) := by
  obtain ⟨h1, h2, h3, -⟩ := hT
  have hlt : i < t := by
    rcases Nat.lt_or_ge i t with z | z
    · exact z
    · exact absurd ((h3 i hi).mpr (by omega)) h0
  refine ⟨hlt, ?_⟩
  rw [h2, nI_add, xq_min]
  split
  · rfl
  · rename_i q
    rw [xn_lt (by omega) (by omega)] at q
    rw [show t = i + 1 by omega]
theorem yl_34 (hT : cT r I t tc vl ss) (hi : i ≤ t) (hp : (tc i = 0 → Q (some (.int (nI 1))) (xq_s g J (rs I i))) ∧ (¬ tc i = 0 → Q (some (.int (nI 0))) (xq_s g J (rs I i)))) : xq_wp d 34 (xq_s g J (rs I i)) 0 [.ref 104] [] Q := by
  have h := hT.2.2.2 i hi
  have h4 := hT.1
  exact tk_34 (d := d) ⟨by omega, fun z => hp.1 (h.2.1.mp z), fun z => hp.2 (fun y => z (h.2.1.mpr y))⟩
theorem yl_35_35 {s n : Nat} (hT : cT r I t tc vl ss) (hw : w < 32) (hi : i ≤ t) (hs : I 107 i = nI s) (hn : n = (xq_tx.getD w []).length) (hb : s + n ≤ 400) (hp : ((∀ k, k < n → I 105 (s + k) = (xq_tx.getD w []).getD k 0) → Q (some (.int (nI 1))) (xq_s g J (rs I i))) ∧ (¬ (∀ k, k < n → I 105 (s + k) = (xq_tx.getD w []).getD k 0) → Q (some (.int (nI 0))) (xq_s g J (rs I i)))) : ∀ (f k : Nat), k + f = n → (∀ j, j < k → I 105 (s + j) = (xq_tx.getD w []).getD j 0) → xq_wp d 35 (xq_s g J (rs I i)) 35 [.ref 104, .ref (w + 1000000), .int (nI n), .int (nI k)] [] Q := by
  have h4 := hT.1
  intro f
  induction f with
  | zero =>
    intro k e h
    exact tk_35_35 (d := d) (s := s) hw ⟨by omega, by omega, fun z => by omega, fun _ => hp.1 (fun j hj => h j (by omega))⟩
  | succ f ih =>
    intro k e h
    refine tk_35_35 (d := d) (s := s) hw ⟨by omega, by omega, fun _ => ⟨by omega, hs, by omega, by omega, fun z => ih (k + 1) (by omega) (fun j hj => ?_), fun z => hp.2 (fun y => z (y k (by omega)))⟩, fun z => by omega⟩
    by_cases q : j = k
    · subst q; exact z
    · exact h j (by omega)
theorem yl_35 (hT : cT r I t tc vl ss) (hw : w < 32) (hk : (w, K) ∈ kw r) (hi : i ≤ t) (hp : (tc i = K → Q (some (.int (nI 1))) (xq_s g J (rs I i))) ∧ (¬ tc i = K → Q (some (.int (nI 0))) (xq_s g J (rs I i)))) : xq_wp d 35 (xq_s g J (rs I i)) 0 [.ref 104, .ref (w + 1000000), xq_un, xq_un] [] Q := by
  obtain ⟨h1, h2, h3, h4, h5, h6, h7⟩ := hT.2.2.2 i hi
  have h4' := hT.1
  have hl : (xq_tx.getD w []).length ≤ 10 := (by decide +kernel : ∀ w, w < 32 → (xq_tx.getD w []).length ≤ 10) w hw
  by_cases q : I 106 i = nI 2
  · obtain ⟨z, e1, e2, e3, e4⟩ := h6 q
    have e4 := e4 w K hk
    refine tk_35 (d := d) (z := z) hw ⟨by omega, fun _ => ⟨e1, by omega, by omega, fun y => ?_, fun y => hp.2 (fun k => y (e4.mpr k).1)⟩, fun y => absurd q y⟩
    refine yl_35_35 hT hw hi h1 rfl (by omega) ⟨fun y2 => hp.1 (e4.mp ⟨y, fun k hk => y2 k (by omega)⟩), fun y2 => hp.2 (fun y3 => y2 (fun k hk => (e4.mpr y3).2 k (by omega)))⟩ (xq_tx.getD w []).length 0 (by omega) (fun j hj => by omega)
  · exact tk_35 (d := d) (z := 0) hw ⟨by omega, fun y => absurd y q, fun _ => hp.2 (h7 q w K hk)⟩
theorem yl_36 (hT : cT r I t tc vl ss) (hi : i ≤ t) (hp : Q (some (.int (nI 0))) (xq_s g J (rs (xq_w (xq_w I 104 8 (nI k)) 104 9 (nI (ss i))) i))) : xq_wp d 36 (xq_s g J (rs I i)) 0 [.ref 104, .int (nI k)] [] Q := by
  obtain ⟨h1, -⟩ := hT.2.2.2 i hi
  have h4' := hT.1
  rw [← h1] at hp
  exact tk_36 (d := d) ⟨by omega, hp⟩
theorem yl_38 (hT : cT r I t tc vl ss) (h0 : ¬ tc i = 0) (hi : i ≤ t) (hp : Q none (xq_s g J (rs I (i + 1)))) : xq_wp (d + 1) 38 (xq_s g J (rs I i)) 0 [.ref 104] [] Q := tk_38 (d := d) ⟨(cT_n hT h0 hi).2, hp⟩
theorem yl_40 (hT : cT r I t tc vl ss) (hlo : lo < 100000) (hi : i ≤ t) (hb : hi_ < 100000) (hp : (tc i = 2 → ((lo ≤ vl i ∧ vl i ≤ hi_) → Q (some (.int (nI 1))) (xq_s g J (rs I i))) ∧ (¬ (lo ≤ vl i ∧ vl i ≤ hi_) → Q (some (.int (nI 0))) (xq_s g J (rs (xq_w (xq_w I 104 8 (nI 2)) 104 9 (nI (ss i))) i)))) ∧ (¬ tc i = 2 → Q (some (.int (nI 0))) (xq_s g J (rs (xq_w (xq_w I 104 8 (nI 1)) 104 9 (nI (ss i))) i)))) : xq_wp (d + 1) 40 (xq_s g J (rs I i)) 0 [.ref 104, .int (nI lo), .int (nI hi_)] [] Q := by
  obtain ⟨h1, h2, h3, h4, -⟩ := hT.2.2.2 i hi
  have h4' := hT.1
  rw [← h1] at hp
  refine tk_40 (d := d) ⟨by omega, fun z => ?_, fun z => hp.2 (fun y => z (h3.mpr y))⟩
  obtain ⟨e1, e2⟩ := h4 (h3.mp z)
  have hp := hp.1 (h3.mp z)
  rw [e1]
  refine ⟨fun y => hp.2 (fun k => ?_), fun y => ⟨fun y2 => hp.2 (fun k => ?_), fun y2 => hp.1 ⟨?_, ?_⟩⟩⟩
  · rw [xn_lt (by omega) (by omega)] at y; omega
  · rw [xn_lt (by omega) (by omega)] at y2; omega
  · rw [xn_lt (by omega) (by omega)] at y; omega
  · rw [xn_lt (by omega) (by omega)] at y2; omega
theorem yl_40m (hT : cT r I t tc vl ss) (hi : i ≤ t) (hp : (tc i = 2 → Q (some (.int (nI 0))) (xq_s g J (rs (xq_w (xq_w I 104 8 (nI 2)) 104 9 (nI (ss i))) i))) ∧ (¬ tc i = 2 → Q (some (.int (nI 0))) (xq_s g J (rs (xq_w (xq_w I 104 8 (nI 1)) 104 9 (nI (ss i))) i)))) : xq_wp (d + 1) 40 (xq_s g J (rs I i)) 0 [.ref 104, .int (nI 0), .int (Int32.ofInt (-1))] [] Q := by
  obtain ⟨h1, h2, h3, h4, -⟩ := hT.2.2.2 i hi
  have h4' := hT.1
  rw [← h1] at hp
  refine tk_40 (d := d) ⟨by omega, fun z => ?_, fun z => hp.2 (fun y => z (h3.mpr y))⟩
  obtain ⟨e1, e2⟩ := h4 (h3.mp z)
  have hp := hp.1 (h3.mp z)
  refine ⟨fun y => hp, fun y => ⟨fun y2 => hp, fun y2 => absurd ?_ y2⟩⟩
  rw [e1, Int32.lt_iff_toInt_lt, nI_toInt (by omega)]
  have : (Int32.ofInt (-1)).toInt = -1 := by decide
  omega
theorem yl_41 (hT : cT r I t tc vl ss) (h2 : tc i = 2) (hi : i ≤ t) (hp : Q (some (.int (nI (vl i)))) (xq_s g J (rs I (i + 1)))) : xq_wp (d + 1) 41 (xq_s g J (rs I i)) 0 [.ref 104, xq_un] [] Q := by
  obtain ⟨h1, -, h3, h4, -⟩ := hT.2.2.2 i hi
  have h4' := hT.1
  rw [← (h4 h2).1] at hp
  exact tk_41 (d := d) ⟨by omega, (cT_n hT (by omega) hi).2, hp⟩
theorem yl_42 (hT : cT r I t tc vl ss) (hw : w < 32) (hk : (w, K) ∈ kw r) (hK : ¬ K = 0) (hi : i ≤ t) (hp : (tc i = K → Q (some (.int (nI 1))) (xq_s g J (rs I (i + 1)))) ∧ (¬ tc i = K → Q (some (.int (nI 0))) (xq_s g J (rs (xq_w (xq_w I 104 8 (nI 1)) 104 9 (nI (ss i))) i)))) : xq_wp (d + 1) 42 (xq_s g J (rs I i)) 0 [.ref 104, .ref (w + 1000000)] [] Q := by
  obtain ⟨h1, -⟩ := hT.2.2.2 i hi
  have h4' := hT.1
  rw [← h1] at hp
  refine tk_42 (d := d) (yl_35 hT hw hk hi ⟨fun z => tk_42_5 (d := d) ⟨fun y => absurd y (by decide), fun _ => ⟨(cT_n hT (by omega) hi).2, hp.1 z⟩⟩, fun z => tk_42_5 (d := d) ⟨fun _ => ⟨by omega, hp.2 z⟩, fun y => absurd rfl y⟩⟩)
theorem yl_45 (hT : cT r I t tc vl ss) (hc : c < 128) (hi : i ≤ t) (hp : (tc i = 100 + c → Q (some (.int (nI 1))) (xq_s g J (rs I i))) ∧ (¬ tc i = 100 + c → Q (some (.int (nI 0))) (xq_s g J (rs I i)))) : xq_wp d 45 (xq_s g J (rs I i)) 0 [.ref 104, .int (nI c)] [] Q := by
  obtain ⟨-, -, -, -, h5, -⟩ := hT.2.2.2 i hi
  have h4' := hT.1
  have h5 := h5 c hc
  exact tk_45 (d := d) ⟨by omega, fun z => ⟨fun y => hp.1 (h5.mp ⟨z, y⟩), fun y => hp.2 (fun k => y (h5.mpr k).2)⟩, fun z => hp.2 (fun k => z (h5.mpr k).1)⟩
theorem yl_44 (hT : cT r I t tc vl ss) (hc : c < 128) (hi : i ≤ t) (hp : (tc i = 100 + c → Q (some (.int (nI 1))) (xq_s g J (rs I (i + 1)))) ∧ (¬ tc i = 100 + c → Q (some (.int (nI 0))) (xq_s g J (rs (xq_w (xq_w I 104 8 (nI 1)) 104 9 (nI (ss i))) i)))) : xq_wp (d + 1) 44 (xq_s g J (rs I i)) 0 [.ref 104, .int (nI c)] [] Q := by
  obtain ⟨h1, -, -, -, h5, -⟩ := hT.2.2.2 i hi
  have h4' := hT.1
  have h5 := h5 c hc
  rw [← h1] at hp
  exact tk_44 (d := d) ⟨by omega, fun z => ⟨fun y => ⟨(cT_n hT (by have := h5.mp ⟨z, y⟩; omega) hi).2, hp.1 (h5.mp ⟨z, y⟩)⟩, fun y => hp.2 (fun k => y (h5.mpr k).2)⟩, fun z => hp.2 (fun k => z (h5.mpr k).1)⟩
theorem yl_54 (hT : cT r I t tc vl ss) (hi : i ≤ t) (hp : (tc i = 2 → Q (some (.int (nI 1))) (xq_s g J (rs I i))) ∧ (¬ tc i = 2 → Q (some (.int (nI 0))) (xq_s g J (rs I i)))) : xq_wp d 54 (xq_s g J (rs I i)) 0 [.ref 104] [] Q := by
  obtain ⟨-, -, h3, -⟩ := hT.2.2.2 i hi
  have h4' := hT.1
  exact tk_54 (d := d) ⟨by omega, fun z => hp.1 (h3.mp z), fun z => hp.2 (fun y => z (h3.mpr y))⟩
end yk_rd
/-! text: the tokens of a tape, as both have them -/
def wdB (tp : Nat → Nat) (s z w : Nat) : Bool := decide (z = (xq_tx.getD w []).length) && (List.range z).all (fun k => decide (nI (tp (s + k)) = (xq_tx.getD w []).getD k 0))
def wc (tp : Nat → Nat) (s z : Nat) : List (Nat × Nat) → Nat
  | [] => 1
  | p :: r => if wdB tp s z p.1 then p.2 else wc tp s z r
def tcF (r : Nat) (tp : Nat → Nat) (t : Nat) (st sz : Nat → Nat) (i : Nat) : Nat := if i < t then (if kd (tp (st i)) = 2 then wc tp (st i) (sz i) (kw r) else if kd (tp (st i)) = 1 then (if 4 < sz i then 1 else 2) else if kd (tp (st i)) = 3 then 100 + tp (st i) else 1) else 0
def vlF (tp st sz : Nat → Nat) (i : Nat) : Nat := dc tp (st i) (sz i)
def ssF (l t : Nat) (st : Nat → Nat) (i : Nat) : Nat := if i < t then st i else l
def enF (l t : Nat) (st sz : Nat → Nat) (i : Nat) : Nat := if i < t then st i + sz i else l
section xk_wc
variable {tp st sz : Nat → Nat} {s z w l t i r : Nat} {I : Nat → xw}
theorem wdB_iff : wdB tp s z w = true ↔ z = (xq_tx.getD w []).length ∧ ∀ k, k < z → nI (tp (s + k)) = (xq_tx.getD w []).getD k 0 := by
  rw [wdB, Bool.and_eq_true, decide_eq_true_eq, List.all_eq_true]
  refine ⟨fun h => ⟨h.1, fun k hk => of_decide_eq_true (h.2 k (List.mem_range.mpr hk))⟩, fun h => ⟨h.1, fun k hk => decide_eq_true (h.2 k (List.mem_range.mp hk))⟩⟩
theorem gDI {l : List Int32} {k : Nat} (h : k < l.length) : l.getD k 0 = l[k] := by
  rw [List.getD_eq_getElem?_getD, List.getElem?_eq_getElem h]; rfl
theorem wd_same {w' : Nat} (h : wdB tp s z w = true) (h' : wdB tp s z w' = true) : xq_tx.getD w [] = xq_tx.getD w' [] := by
  rw [wdB_iff] at h h'
  apply List.ext_getElem
  · rw [← h.1, ← h'.1]
  · intro k h1 h2
    have a := h.2 k (by omega)
    have b := h'.2 k (by omega)
    rw [a] at b
    rw [gDI h1, gDI h2] at b
    exact b
theorem wc_or : ∀ L : List (Nat × Nat), (wc tp s z L = 1 ∧ ∀ p ∈ L, wdB tp s z p.1 = false) ∨ ∃ p ∈ L, wdB tp s z p.1 = true ∧ wc tp s z L = p.2 := by
  intro L
  induction L with
  | nil => exact Or.inl ⟨rfl, fun p hp => absurd hp List.not_mem_nil⟩
  | cons p L ih =>
    rw [wc]
    cases h : wdB tp s z p.1
    · rw [if_neg (by decide)]
      rcases ih with ⟨a, b⟩ | ⟨q, a, b, c⟩
      · refine Or.inl ⟨a, fun q hq => ?_⟩
        rcases List.mem_cons.mp hq with e | e
        · rw [e]; exact h
        · exact b q e
      · exact Or.inr ⟨q, List.mem_cons_of_mem _ a, b, c⟩
    · rw [if_pos rfl]
      exact Or.inr ⟨p, List.mem_cons_self, h, rfl⟩
theorem kw_f : ∀ r, r < 4 → ∀ p ∈ kw r, p.1 < 32 ∧ 3 ≤ p.2 ∧ p.2 < 100 ∧ ∀ q ∈ kw r, (xq_tx.getD p.1 [] = xq_tx.getD q.1 [] → p.2 = q.2) ∧ (p.2 = q.2 → p.1 = q.1) := by decide +kernel
theorem wc_iff (hr : r < 4) {K : Nat} (hk : (w, K) ∈ kw r) : wdB tp s z w = true ↔ wc tp s z (kw r) = K := by
  have f := kw_f r hr
  refine ⟨fun h => ?_, fun h => ?_⟩
  · rcases wc_or (tp := tp) (s := s) (z := z) (kw r) with ⟨a, b⟩ | ⟨p, a, b, c⟩
    · rw [b (w, K) hk] at h; exact absurd h (by decide)
    · rw [c]
      exact ((f p a).2.2.2 (w, K) hk).1 (wd_same b h)
  · rcases wc_or (tp := tp) (s := s) (z := z) (kw r) with ⟨a, b⟩ | ⟨p, a, b, c⟩
    · have := (f (w, K) hk).2.1
      rw [a] at h
      have h : 1 = K := h
      have this : 3 ≤ K := this
      omega
    · have e := ((f p a).2.2.2 (w, K) hk).2 (by rw [← c]; exact h)
      have e : p.1 = w := e
      rw [← e]; exact b
theorem wc_r (hr : r < 4) : wc tp s z (kw r) = 1 ∨ (3 ≤ wc tp s z (kw r) ∧ wc tp s z (kw r) < 100) := by
  rcases wc_or (tp := tp) (s := s) (z := z) (kw r) with ⟨a, b⟩ | ⟨p, a, b, c⟩
  · exact Or.inl a
  · have f := kw_f r hr p a
    rw [c]
    exact Or.inr ⟨f.2.1, f.2.2.1⟩
/-- the class's tokens are those of the tape -/
theorem cT_of (hr : r < 4) (hl : l ≤ 400) (htl : t ≤ l) (htp : ∀ p, p < l → I 105 p = nI (tp p) ∧ tp p < 256) (hP : tkP tp l t st sz) (hR : tkR tp st sz t I) (h6 : I 104 6 = nI t) (h106 : I 106 t = nI 0) (h107 : I 107 t = nI l) : cT r I t (tcF r tp t st sz) (vlF tp st sz) (ssF l t st) := by
  refine ⟨by omega, h6, fun i hi => ?_, fun i hi => ?_⟩
  · rw [tcF]
    by_cases e : i < t
    · rw [if_pos e]
      have w := wc_r (tp := tp) (s := st i) (z := sz i) hr
      refine ⟨fun q => ?_, fun q => by omega⟩
      repeat' split at q
      all_goals omega
    · rw [if_neg e]
      exact ⟨fun _ => by omega, fun _ => rfl⟩
  · by_cases e : i < t
    · obtain ⟨r1, r2, r3, r4, r5⟩ := hR i e
      obtain ⟨a1, a2, a3, a4, a5, a6, a7, a8⟩ := hP.1 i e
      have w := wc_r (tp := tp) (s := st i) (z := sz i) hr
      have kr := kd_r (tp (st i))
      have tl := (htp (st i) (by omega)).2
      unfold cTi
      rw [ssF, if_pos e, vlF]
      have hk : kd (tp (st i)) = 1 ∨ kd (tp (st i)) = 2 ∨ kd (tp (st i)) = 3 ∨ kd (tp (st i)) = 4 := by omega
      rcases hk with k | k | k | k
      · rw [k] at a5
        by_cases z4 : 4 < sz i
        · rw [if_pos ⟨k, z4⟩] at r3
          rw [tcF, if_pos e, if_neg (by omega), if_pos k, if_pos z4, r3]
          refine ⟨r1, ⟨fun q => absurd q (by decide), fun q => by omega⟩, ⟨fun q => absurd q (by decide), fun q => by omega⟩, fun q => by omega, fun c hc => ⟨fun q => absurd q.1 (by decide), fun q => by omega⟩, fun q => absurd q (by decide), fun _ w K hk q => ?_⟩
          have := (kw_f r hr (w, K) hk).2.1
          have this : 3 ≤ K := this
          omega
        · rw [if_neg (fun q => z4 q.2), k] at r3
          rw [tcF, if_pos e, if_neg (by omega), if_pos k, if_neg z4, r3]
          have dl := dc_lt (tp := tp) (fun p hp => kd_1 hp) (s := st i) (sz i) a5
          have p4 : 10 ^ sz i ≤ 10 ^ 4 := Nat.pow_le_pow_right (by omega) (by omega)
          refine ⟨r1, ⟨fun q => absurd q (by decide), fun q => by omega⟩, ⟨fun _ => rfl, fun _ => rfl⟩, fun _ => ⟨r4 k (by omega), by omega⟩, fun c hc => ⟨fun q => absurd q.1 (by decide), fun q => by omega⟩, fun q => absurd q (by decide), fun _ w K hk q => ?_⟩
          have := (kw_f r hr (w, K) hk).2.1
          have this : 3 ≤ K := this
          omega
      · rw [if_neg (by omega), k] at r3
        rw [tcF, if_pos e, if_pos k, r3]
        refine ⟨r1, ⟨fun q => absurd q (by decide), fun q => by omega⟩, ⟨fun q => absurd q (by decide), fun q => by omega⟩, fun q => by omega, fun c hc => ⟨fun q => absurd q.1 (by decide), fun q => by omega⟩, fun _ => ⟨sz i, r2, by omega, by omega, fun w K hk => ?_⟩, fun q => absurd rfl q⟩
        rw [← wc_iff hr hk, wdB_iff]
        refine ⟨fun q => ⟨q.1, fun j hj => ?_⟩, fun q => ⟨q.1, fun j hj => ?_⟩⟩
        · rw [← (htp (st i + j) (by omega)).1]; exact q.2 j hj
        · rw [(htp (st i + j) (by omega)).1]; exact q.2 j hj
      · rw [if_neg (by omega), k] at r3
        rw [tcF, if_pos e, if_neg (by omega), if_neg (by omega), if_pos k, r3]
        refine ⟨r1, ⟨fun q => absurd q (by decide), fun q => by omega⟩, ⟨fun q => absurd q (by decide), fun q => by omega⟩, fun q => by omega, fun c hc => ⟨fun q => ?_, fun q => ⟨rfl, ?_⟩⟩, fun q => absurd q (by decide), fun _ w K hk q => ?_⟩
        · have := q.2
          rw [r5 k, xn_eq (by omega) (by omega)] at this
          omega
        · rw [r5 k]; congr 1; omega
        · have := (kw_f r hr (w, K) hk).2.2.1
          have this : K < 100 := this
          omega
      · rw [if_neg (by omega), k] at r3
        rw [tcF, if_pos e, if_neg (by omega), if_neg (by omega), if_neg (by omega), r3]
        refine ⟨r1, ⟨fun q => absurd q (by decide), fun q => by omega⟩, ⟨fun q => absurd q (by decide), fun q => by omega⟩, fun q => by omega, fun c hc => ⟨fun q => absurd q.1 (by decide), fun q => by omega⟩, fun q => absurd q (by decide), fun _ w K hk q => ?_⟩
        have := (kw_f r hr (w, K) hk).2.1
        have this : 3 ≤ K := this
        omega
    · have ei : i = t := by omega
      subst ei
      unfold cTi
      rw [tcF, if_neg e, ssF, if_neg e, h106]
      refine ⟨h107, ⟨fun _ => rfl, fun _ => rfl⟩, ⟨fun q => absurd q (by decide), fun q => by omega⟩, fun q => by omega, fun c hc => ⟨fun q => absurd q.1 (by decide), fun q => by omega⟩, fun q => absurd q (by decide), fun _ w K hk q => ?_⟩
      have := (kw_f r hr (w, K) hk).2.1
      have this : 3 ≤ K := this
      omega
end xk_wc
