/-! ===== the class: over the places of a view ===== -/
theorem zl_shr {x i : Nat} (hi : i < 64) : ((nL x) >>> ((nI i).toInt64 &&& 63)) &&& nL 1 = nL (if x.testBit i = true then 1 else 0) := by
  have e : ∀ i, i < 64 → (nI i).toInt64 &&& 63 = nL i := by decide
  have e2 : ∀ i, i < 64 → ((nL i).toBitVec.smod 64) = BitVec.ofNat 64 i := by decide
  rw [e i hi]
  apply Int64.toBitVec_inj.1
  rw [Int64.toBitVec_and, Int64.toBitVec_shiftRight, e2 i hi]
  apply BitVec.eq_of_getLsbD_eq
  intro j hj
  have ex : (nL x).toBitVec = BitVec.ofNat 64 x := rfl
  have e1 : ∀ n, (nL n).toBitVec = BitVec.ofNat 64 n := fun _ => rfl
  rw [BitVec.getLsbD_and, e1, e1, e1]
  unfold BitVec.sshiftRight'
  rw [BitVec.toNat_ofNat, Nat.mod_eq_of_lt (by omega), BitVec.getLsbD_sshiftRight, BitVec.getLsbD_ofNat, BitVec.getLsbD_ofNat, BitVec.getLsbD_ofNat]
  by_cases j0 : j = 0
  · subst j0
    rw [if_pos (by omega)]
    cases x.testBit i <;> simp [hi]
  · have : Nat.testBit 1 j = false := by
      have : ∀ j, j < 64 → j ≠ 0 → Nat.testBit 1 j = false := by decide
      exact this j hj j0
    rw [this]
    cases x.testBit i
    · simp
    · simp [this]
