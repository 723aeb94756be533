/-! weeks, undo: the model's loops -/
section xk_wkm
variable {d : Nat} {g : xq_V} {J : Nat → Nat → Int64} {I : Nat → Nat → Int32} {Q : Option Value → xq_S → Prop} {A W P F N K : xw} {c e n ns m : Nat}
theorem xl_212_10 (h1 : 1 ≤ c) (hA : A 4 = nI c) : ∀ (t i : Nat) (K : xw), i + t = 1000 → xq_wp d 212 (xq_s g J (xkp I (upd A 4 (nI (c - 1))) W P F N (fun p => if i ≤ p ∧ p < 1000 then K (p + 250) else K p))) 51 [.ref 126, .int (nI 0)] [] Q → xq_wp d 212 (xq_s g J (xkp I A W P F N K)) 10 [.ref 126, .int (nI i)] [] Q := by
  intro t
  induction t with
  | zero =>
    intro i K hi hp
    refine xu_212_10 (d := d) (c := c) ⟨by omega, fun h => absurd h (by omega), fun _ => ⟨hA, h1, ?_⟩⟩
    have : (fun p => if i ≤ p ∧ p < 1000 then K (p + 250) else K p) = K := by
      funext p; rw [if_neg (by omega)]
    rw [this] at hp
    exact hp
  | succ t ih =>
    intro i K hi hp
    refine xu_212_10 (d := d) (c := c) ⟨by omega, fun h => ⟨by omega, by omega, ih (i + 1) _ (by omega) ?_⟩, fun h => absurd (show i < 1000 by omega) h⟩
    have : (fun p => if i + 1 ≤ p ∧ p < 1000 then upd K i (K (i + 250)) (p + 250) else upd K i (K (i + 250)) p) = (fun p => if i ≤ p ∧ p < 1000 then K (p + 250) else K p) := by
      funext p
      by_cases ep : p = i
      · subst ep; rw [if_neg (by omega), if_pos (by omega), upd_eq]
      · by_cases hq : i + 1 ≤ p ∧ p < 1000
        · rw [if_pos hq, if_pos (by omega), upd_ne (by omega)]
        · rw [if_neg hq, if_neg (by omega), upd_ne (by omega)]
    rw [this]
    exact hp
theorem xl_212_51 (he : e ≤ 4) (hA : A 4 = nI e) : ∀ (t i : Nat) (K : xw), i + t = 250 → Q none (xq_s g J (xkp I (upd A 4 (nI (e + 1))) W P F N (fun p => if 250 * e + i ≤ p ∧ p < 250 * e + 250 then W (p - 250 * e) else K p))) → xq_wp d 212 (xq_s g J (xkp I A W P F N K)) 51 [.ref 126, .int (nI i)] [] Q := by
  intro t
  induction t with
  | zero =>
    intro i K hi hp
    refine xu_212_51 (d := d) (e := e) ⟨by omega, fun h => absurd h (by omega), fun _ => ⟨hA, ?_⟩⟩
    have : (fun p => if 250 * e + i ≤ p ∧ p < 250 * e + 250 then W (p - 250 * e) else K p) = K := by
      funext p; rw [if_neg (by omega)]
    rw [this] at hp
    exact hp
  | succ t ih =>
    intro i K hi hp
    refine xu_212_51 (d := d) (e := e) ⟨by omega, fun h => ⟨hA, by omega, by omega, ih (i + 1) _ (by omega) ?_⟩, fun h => absurd (show i < 250 by omega) h⟩
    have : (fun p => if 250 * e + (i + 1) ≤ p ∧ p < 250 * e + 250 then W (p - 250 * e) else upd K (250 * e + i) (W i) p) = (fun p => if 250 * e + i ≤ p ∧ p < 250 * e + 250 then W (p - 250 * e) else K p) := by
      funext p
      by_cases ep : p = 250 * e + i
      · subst ep; rw [if_neg (by omega), if_pos (by omega), upd_eq]; congr 1; omega
      · by_cases hq : 250 * e + (i + 1) ≤ p ∧ p < 250 * e + 250
        · rw [if_pos hq, if_pos (by omega)]
        · rw [if_neg hq, if_neg (by omega), upd_ne ep]
    rw [this]
    exact hp
theorem xl_212 (hc : c ≤ 5) (hA : A 4 = nI c) (hp : ∀ A' : xw, A' 4 = nI (min 5 (c + 1)) → (∀ j, ¬ j = 4 → A' j = A j) → Q none (xq_s g J (xkp I A' W P F N (kpK c K W)))) : xq_wp d 212 (xq_s g J (xkp I A W P F N K)) 0 [.ref 126, xq_un] [] Q := by
  refine xu_212 (d := d) (c := c) ⟨hA, by omega, fun h5 => ?_, fun h5 => ?_⟩
  · subst h5
    refine xl_212_10 (by omega) hA 1000 0 K (by omega) (xl_212_51 (e := 4) (by omega) upd_eq 250 0 _ (by omega) ?_)
    have ek : (fun p => if 250 * 4 + 0 ≤ p ∧ p < 250 * 4 + 250 then W (p - 250 * 4) else if 0 ≤ p ∧ p < 1000 then K (p + 250) else K p) = kpK 5 K W := by
      funext p
      unfold kpK
      by_cases h : 1000 ≤ p ∧ p < 1250
      · rw [if_pos (by omega), if_pos (by omega)]; rfl
      · by_cases h2 : p < 1000
        · rw [if_neg (by omega), if_pos (by omega), if_neg (by omega), if_pos (by omega)]
        · rw [if_neg (by omega), if_neg (by omega), if_neg (by omega), if_neg (by omega)]
    rw [ek]
    exact hp _ (by rw [upd_eq]; rfl) (fun j hj => by rw [upd_ne hj, upd_ne hj])
  · refine xl_212_51 (e := c) (by omega) hA 250 0 K (by omega) ?_
    have ek : (fun p => if 250 * c + 0 ≤ p ∧ p < 250 * c + 250 then W (p - 250 * c) else K p) = kpK c K W := by
      funext p
      unfold kpK
      rw [show min 4 c = c by omega]
      by_cases h : 250 * c ≤ p ∧ p < 250 * c + 250
      · rw [if_pos (by omega), if_pos (by omega)]
      · rw [if_neg (by omega), if_neg (by omega), if_neg (by omega)]
    rw [ek]
    exact hp _ (by rw [upd_eq, show min 5 (c + 1) = c + 1 by omega]) (fun j hj => upd_ne hj)
/-- weeks: what is, what was laid, the past -/
def wkI (n : Nat) : Nat → xw → Int32 → xw → Nat → xw × Int32 × xw × Nat
  | 0, W, v, K, c => (W, v, K, c)
  | t + 1, W, v, K, c => wkI n t (sp_week true (Int32.ofInt (-1)) n W).1 (v + (sp_week true (Int32.ofInt (-1)) n W).2) (kpK c K W) (min 5 (c + 1))
theorem wkI_ok : ∀ (t : Nat) (W : xw) (v : Int32) (K : xw) (c x : Nat), ok n ns W → W 2 = nI x → x + t ≤ 9999 → c ≤ 5 → ok n ns (wkI n t W v K c).1 ∧ w9 (wkI n t W v K c).1 ∧ (bkw W → bkw (wkI n t W v K c).1) ∧ (∀ p, stp p → (wkI n t W v K c).1 p = W p) ∧ (wkI n t W v K c).2.2.2 ≤ 5 := by
  intro t
  induction t with
  | zero => intro W v K c x ho e h hc; exact ⟨ho, ⟨x, by omega, e⟩, id, fun p hp => rfl, hc⟩
  | succ t ih =>
    intro W v K c x ho e h hc
    obtain ⟨a1, a2, a3, a4, a5⟩ := ih (sp_week true (Int32.ofInt (-1)) n W).1 (v + (sp_week true (Int32.ofInt (-1)) n W).2) (kpK c K W) (min 5 (c + 1)) (x + 1) (ok_sweek ho (show x < 20000 by omega) e) (by rw [wk_week ho, e, nI_add]) (by omega) (by omega)
    exact ⟨a1, a2, fun z => a3 ((bme_week ho).2 z), fun p hp => (a4 p hp).trans (stp_week ho hp), a5⟩
theorem xl_211_30 (hm : m ≤ 60) : ∀ (t k : Nat) (W : xw) (v : Int32) (K : xw) (c x : Nat) (A P F N : xw), k + t = m → ok n ns W → W 2 = nI x → x + t ≤ 9999 → c ≤ 5 → A 4 = nI c → A 29 = Int32.ofInt (-1) → (∀ A' P' F' N' : xw, A' 4 = nI (wkI n t W v K c).2.2.2 → (∀ j, ¬ j = 4 → ¬ j = 30 → A' j = A j) → Q (some (.int (wkI n t W v K c).2.1)) (xq_s g J (xkp I A' (wkI n t W v K c).1 P' F' N' (wkI n t W v K c).2.2.1))) → xq_wp (d + 7) 211 (xq_s g J (xkp I A W P F N K)) 30 [.ref 126, .int (nI m), .int v, .int (nI k)] [] Q := by
  intro t
  induction t with
  | zero =>
    intro k W v K c x A P F N hk ho ex hx hc hA h29 hp
    exact xu_211_30 (d := d + 6) ⟨by omega, by omega, fun h => absurd h (by omega), fun _ => hp A P F N hA (fun _ _ _ => rfl)⟩
  | succ t ih =>
    intro k W v K c x A P F N hk ho ex hx hc hA h29 hp
    refine xu_211_30 (d := d + 6) ⟨by omega, by omega, fun _ => xl_212 hc hA (fun A1 e4 e1 => ?_), fun h => absurd (show k < m by omega) h⟩
    have e29 : A1 29 = Int32.ofInt (-1) := (e1 29 (by omega)).trans h29
    refine xu_211_39 (d := d) (n := n) (ns := ns) ⟨ho, fun v' P' F' N' => ?_⟩
    rw [e29]
    refine ih (k + 1) _ _ _ _ (x + 1) _ P' F' N' (by omega) (ok_sweek ho (show x < 20000 by omega) ex) (by rw [wk_week ho, ex, nI_add]) (by omega) (by omega) (by rw [upd_ne (by omega)]; exact e4) (by rw [upd_ne (by omega)]; exact e29) (fun A' P2 F2 N2 q1 q2 => hp A' P2 F2 N2 q1 (fun j j1 j2 => ?_))
    rw [q2 j j1 j2, upd_ne j2]; exact e1 j j1
theorem xl_210_21 (he : e ≤ 4) (hA : A 4 = nI e) : ∀ (t i : Nat) (W : xw), i + t = 250 → Q (some (.int (nI 1))) (xq_s g J (xkp I A (fun p => if i ≤ p ∧ p < 250 then K (250 * e + p) else W p) P F N K)) → xq_wp d 210 (xq_s g J (xkp I A W P F N K)) 21 [.ref 126, .int (nI i)] [] Q := by
  intro t
  induction t with
  | zero =>
    intro i W hi hp
    refine xu_210_21 (d := d) (e := e) ⟨by omega, fun h => absurd h (by omega), fun _ => ?_⟩
    have : (fun p => if i ≤ p ∧ p < 250 then K (250 * e + p) else W p) = W := by
      funext p; rw [if_neg (by omega)]
    rw [this] at hp
    exact hp
  | succ t ih =>
    intro i W hi hp
    refine xu_210_21 (d := d) (e := e) ⟨by omega, fun h => ⟨hA, by omega, by omega, ih (i + 1) _ (by omega) ?_⟩, fun h => absurd (show i < 250 by omega) h⟩
    have : (fun p => if i + 1 ≤ p ∧ p < 250 then K (250 * e + p) else upd W i (K (250 * e + i)) p) = (fun p => if i ≤ p ∧ p < 250 then K (250 * e + p) else W p) := by
      funext p
      by_cases ep : p = i
      · subst ep; rw [if_neg (by omega), if_pos (by omega), upd_eq]
      · by_cases hq : i + 1 ≤ p ∧ p < 250
        · rw [if_pos hq, if_pos (by omega)]
        · rw [if_neg hq, if_neg (by omega), upd_ne ep]
    rw [this]
    exact hp
end xk_wkm
