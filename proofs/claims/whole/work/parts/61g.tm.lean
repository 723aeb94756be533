/-! text: letters, digits and words in the model -/
section xk_tm
variable {d : Nat} {g : xq_V} {J : Nat → Nat → Int64} {I : Nat → xw} {Q : Option Value → xq_S → Prop} {c w s z l : Nat} {tp : Nat → Nat}
theorem xl_172 (hc : c < 256) (hp : (kd c = 2 → Q (some (.int (nI 1))) (xq_s g J I)) ∧ (¬ kd c = 2 → Q (some (.int (nI 0))) (xq_s g J I))) : xq_wp (d + 1) 172 (xq_s g J I) 0 [.int (nI c)] [] Q := by
  have y : (97 ≤ c ∧ c ≤ 122) ∨ (65 ≤ c ∧ c ≤ 90) → kd c = 2 := fun h => by rw [kd, if_pos h]
  have n : ¬ ((97 ≤ c ∧ c ≤ 122) ∨ (65 ≤ c ∧ c ≤ 90)) → ¬ kd c = 2 := fun h q => by
    rw [kd, if_neg h] at q
    repeat' split at q
    all_goals omega
  exact tm_172 (d := d) ⟨by omega, fun _ => ⟨fun _ => hp.2 (n (by omega)), fun _ => ⟨fun _ => hp.2 (n (by omega)), fun _ => hp.1 (y (by omega))⟩⟩, fun _ => ⟨fun _ => ⟨fun _ => hp.2 (n (by omega)), fun _ => ⟨fun _ => hp.2 (n (by omega)), fun _ => hp.1 (y (by omega))⟩⟩, fun _ => hp.1 (y (by omega))⟩⟩
theorem xl_172m (hp : Q (some (.int (nI 0))) (xq_s g J I)) : xq_wp (d + 1) 172 (xq_s g J I) 0 [.int (Int32.ofInt (-1))] [] Q := tm_172m hp
theorem xl_179 (hc : c < 256) (hp : (kd c = 1 → Q (some (.int (nI 1))) (xq_s g J I)) ∧ (¬ kd c = 1 → Q (some (.int (nI 0))) (xq_s g J I))) : xq_wp (d + 1) 179 (xq_s g J I) 0 [.int (nI c)] [] Q := by
  have y : 48 ≤ c ∧ c ≤ 57 → kd c = 1 := fun h => by rw [kd, if_neg (by omega), if_pos h]
  have n : ¬ (48 ≤ c ∧ c ≤ 57) → ¬ kd c = 1 := fun h q => h (kd_1 q)
  exact tm_179 (d := d) ⟨by omega, fun _ => hp.2 (n (by omega)), fun _ => ⟨fun _ => hp.2 (n (by omega)), fun _ => hp.1 (y (by omega))⟩⟩
theorem xl_179m (hp : Q (some (.int (nI 0))) (xq_s g J I)) : xq_wp (d + 1) 179 (xq_s g J I) 0 [.int (Int32.ofInt (-1))] [] Q := tm_179m hp
theorem xl_175 (hw : w < 32) (h1 : I 126 19 = nI (s + z)) (h2 : I 126 21 = nI s) (h3 : s + z ≤ l) (h4 : l ≤ 400) (h5 : ∀ p, p < l → I 135 p = nI (tp p) ∧ tp p < 256) (hp : (wdB tp s z w = true → Q (some (.int (nI 1))) (xq_s g J I)) ∧ (¬ wdB tp s z w = true → Q (some (.int (nI 0))) (xq_s g J I))) : xq_wp d 175 (xq_s g J I) 0 [.ref 126, .ref (w + 1000000), xq_un, xq_un] [] Q := by
  have hl : (xq_tx.getD w []).length ≤ 10 := (by decide +kernel : ∀ w, w < 32 → (xq_tx.getD w []).length ≤ 10) w hw
  have no : ∀ k, k ≤ (xq_tx.getD w []).length → ¬ wdB tp s z w = true → xq_wp d 175 (xq_s g J I) 24 [.ref 126, .ref (w + 1000000), .int (nI 0), .int (nI k)] [] Q := fun k hk q => tm_175_24_0 (d := d) hw ⟨by omega, by omega, fun _ => hp.2 q, fun _ => hp.2 q⟩
  have lp : z = (xq_tx.getD w []).length → ∀ f k, k + f = (xq_tx.getD w []).length → (∀ j, j < k → nI (tp (s + j)) = (xq_tx.getD w []).getD j 0) → xq_wp d 175 (xq_s g J I) 24 [.ref 126, .ref (w + 1000000), .int (nI 1), .int (nI k)] [] Q := by
    intro ez f
    induction f with
    | zero =>
      intro k e h
      exact tm_175_24_1 (d := d) (s := s) hw ⟨by omega, by omega, fun q => by omega, fun _ => hp.1 (wdB_iff.mpr ⟨ez, fun j hj => h j (by omega)⟩)⟩
    | succ f ih =>
      intro k e h
      have ht := (h5 (s + k) (by omega)).1
      refine tm_175_24_1 (d := d) (s := s) hw ⟨by omega, by omega, fun _ => ⟨h2, by omega, by omega, fun q => ih (k + 1) (by omega) (fun j hj => ?_), fun q => no (k + 1) (by omega) (fun y => q ?_)⟩, fun q => by omega⟩
      · by_cases y : j = k
        · subst y; rw [← ht]; exact q
        · exact h j (by omega)
      · rw [ht]; exact (wdB_iff.mp y).2 k (by omega)
  refine tm_175 (d := d) (e := s + z) (s := s) hw ⟨h1, h2, by omega, by omega, by omega, fun q => lp (by omega) _ 0 (by rw [Nat.zero_add]) (fun j hj => by omega), fun q => no 0 (by omega) (fun y => q ?_)⟩
  have := (wdB_iff.mp y).1
  omega
end xk_tm
