/-! Draws. -/
def drw (x : Int32) : Int32 := x * nI 1103515245 + nI 12345
def dvl (x : Int32) : Nat := ((x >>> (nI 16 &&& 31)) &&& nI 32767).toBitVec.toNat
theorem and_nI (y : Int32) : y &&& nI 32767 = nI (y &&& nI 32767).toBitVec.toNat ∧ (y &&& nI 32767).toBitVec.toNat < 32768 := by
  constructor
  · refine Int32.toBitVec_inj.mp ?_
    show _ = BitVec.ofNat 32 _
    rw [BitVec.ofNat_toNat]
    simp
  · have : (y &&& nI 32767).toBitVec.toNat = y.toBitVec.toNat &&& 32767 := by
      rw [Int32.toBitVec_and, BitVec.toNat_and]
      rfl
    rw [this]
    have := @Nat.and_le_right y.toBitVec.toNat 32767
    omega
theorem drawn_s (x : Int32) : (x >>> (nI 16 &&& 31)) &&& nI 32767 = nI (dvl x) ∧ dvl x < 32768 := and_nI _
theorem drawn_u (x : Int32) : ((x.toUInt32 >>> ((nI 16 : Int32).toUInt32 &&& Int32.toUInt32 31)).toInt32) &&& nI 32767 = (x >>> (nI 16 &&& 31)) &&& nI 32767 := by
  refine Int32.toBitVec_inj.mp ?_
  rw [Int32.toBitVec_and, Int32.toBitVec_and, Int32.toBitVec_shiftRight]
  have e1 : ((x.toUInt32 >>> ((nI 16 : Int32).toUInt32 &&& Int32.toUInt32 31)).toInt32).toBitVec = x.toBitVec >>> 16 := rfl
  have e2 : x.toBitVec.sshiftRight' ((nI 16 &&& 31 : Int32).toBitVec.smod 32) = x.toBitVec.sshiftRight 16 := rfl
  rw [e1, e2]
  refine BitVec.eq_of_getLsbD_eq fun i hi => ?_
  rw [BitVec.getLsbD_and, BitVec.getLsbD_and, BitVec.getLsbD_ushiftRight, BitVec.getLsbD_sshiftRight]
  have hm : ∀ i, i < 32 → 15 ≤ i → (nI 32767).toBitVec.getLsbD i = false := by decide
  by_cases h : i < 15
  · have : ¬ 32 ≤ i := by omega
    have h2 : 16 + i < 32 := by omega
    simp [this, h2]
  · rw [hm i hi (by omega), Bool.and_false, Bool.and_false]
