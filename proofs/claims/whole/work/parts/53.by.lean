/-! feed: a byte -/
theorem xq_wp.decg {d m : Nat} {x : xq_S} {pc k len a b c : Nat} {L st : List Value} {v : Int32} {z : Int} {Q : Option Value → xq_S → Prop} (hc : xq_code m pc = some (.iinc k z, len, a, b, c)) (hL : L[k]? = some (.int v)) (g : xq_wp d m x (pc + 3) (L.set k (.int (v + Int32.ofInt z))) st Q) : xq_wp d m x pc L st Q := by
  refine xq_wp.step hc rfl (by simp only [xq_ret]) ?_ g
  simp only [xq_step, hL]
def by8 (z : Int32) (s : Nat) : Int32 := xq_ush z (nI s) &&& nI 255
theorem by_sh (x : BitVec 32) {s : Nat} (hs : s ≤ 24) : x.sshiftRight s &&& 255#32 = (x >>> s) &&& 255#32 := by
  apply BitVec.eq_of_getLsbD_eq
  intro i hi
  rw [BitVec.getLsbD_and, BitVec.getLsbD_and, BitVec.getLsbD_sshiftRight, BitVec.getLsbD_ushiftRight]
  by_cases h : i < 8
  · have h2 : s + i < 32 := by omega
    simp [h2, hi, Nat.not_le.mpr hi]
  · have h3 : (255#32).getLsbD i = false := (by decide +kernel : ∀ i, i < 32 → ¬ i < 8 → (255#32).getLsbD i = false) i hi h
    simp [h3]
theorem by_l : ∀ s, s ≤ 24 → ((nI s &&& 31).toBitVec.smod 32).toNat = s := by decide +kernel
theorem by_u : ∀ s, s ≤ 24 → (((nI s).toUInt32 &&& Int32.toUInt32 31).toBitVec % 32).toNat = s := by decide +kernel
theorem by8_eq (z : Int32) {s : Nat} (hs : s ≤ 24) : (z >>> (nI s &&& 31)) &&& nI 255 = by8 z s := by
  apply Int32.toBitVec_inj.1
  rw [by8, Int32.toBitVec_and, Int32.toBitVec_and, Int32.toBitVec_shiftRight]
  have h1 : z.toBitVec.sshiftRight' ((nI s &&& 31).toBitVec.smod 32) = z.toBitVec.sshiftRight s := by
    show z.toBitVec.sshiftRight ((nI s &&& 31).toBitVec.smod 32).toNat = _
    rw [by_l s hs]
  have h2 : (xq_ush z (nI s)).toBitVec = z.toBitVec >>> s := by
    show (z.toUInt32 >>> ((nI s).toUInt32 &&& Int32.toUInt32 31)).toBitVec = _
    rw [UInt32.toBitVec_shiftRight]
    show z.toBitVec >>> (((nI s).toUInt32 &&& Int32.toUInt32 31).toBitVec % 32).toNat = _
    rw [by_u s hs]
  rw [h1, h2]
  exact by_sh _ hs
theorem by8_lt (z : Int32) (s : Nat) : ∃ c, c < 256 ∧ by8 z s = nI c := by
  refine ⟨(by8 z s).toBitVec.toNat, ?_, ?_⟩
  · rw [by8, Int32.toBitVec_and, BitVec.toNat_and]
    have : (nI 255).toBitVec.toNat = 255 := by decide
    rw [this]
    exact Nat.lt_succ_of_le Nat.and_le_right
  · apply Int32.toBitVec_inj.1
    show (by8 z s).toBitVec = BitVec.ofNat 32 (by8 z s).toBitVec.toNat
    rw [BitVec.ofNat_toNat]
    simp
theorem by_k : ∀ k, k < 20 → nI 24 - nI 8 * xq_rem (nI k) (nI 4) = nI (24 - 8 * (k % 4)) := by decide +kernel
