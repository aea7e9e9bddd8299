/-! ===== the law's loop: small facts ===== -/
theorem nI_31 (x : Int32) : ∃ j : Nat, j < 32 ∧ x &&& nI 31 = nI j := by
  refine ⟨(x &&& nI 31).toBitVec.toNat, ?_, ?_⟩
  · rw [Int32.toBitVec_and, BitVec.toNat_and]
    exact Nat.lt_of_le_of_lt Nat.and_le_right (by decide +kernel)
  · apply Int32.toBitVec_inj.mp
    show (x &&& nI 31).toBitVec = BitVec.ofNat 32 (x &&& nI 31).toBitVec.toNat
    rw [BitVec.ofNat_toNat, BitVec.setWidth_eq]
theorem lw_bound {L i : Nat} (hL : L ≤ 2048) (hi : i ≤ L) (h : ¬ Int32.ofNat L - nI 4 < nI i) : i + 4 ≤ L := by
  refine Nat.not_lt.mp fun hlt => h ?_
  rcases Nat.lt_or_ge L 4 with q | q
  · apply Int32.lt_iff_toInt_lt.mpr
    rw [nI_toInt (by omega)]
    have hn : (Int32.ofNat L - nI 4).toInt < 0 := by
      rcases (show L = 0 ∨ L = 1 ∨ L = 2 ∨ L = 3 by omega) with rfl | rfl | rfl | rfl <;> decide +kernel
    omega
  · have e : Int32.ofNat L - nI 4 = nI (L - 4) := by
      obtain ⟨k, rfl⟩ : ∃ k, L = k + 4 := ⟨L - 4, by omega⟩
      show nI (k + 4) - nI 4 = nI (k + 4 - 4)
      rw [Nat.add_sub_cancel, ← nI_add, Int32.add_sub_cancel]
    rw [e]
    exact nI_lt (by omega) (by omega)
