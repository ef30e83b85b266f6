def zBy (w : Int32) (k : Nat) : Nat := (w.toBitVec.toNat / 2 ^ k) % 256
theorem zBy_lt (w : Int32) (k : Nat) : zBy w k < 256 := Nat.mod_lt _ (by decide)
theorem bv8 (b : BitVec 32) (n : Nat) (h : b.toNat % 256 = n) : b.signExtend 8 = (BitVec.ofNat 32 n).signExtend 8 := by
  apply BitVec.eq_of_toNat_eq
  rw [BitVec.signExtend_eq_setWidth_of_le _ (by decide), BitVec.signExtend_eq_setWidth_of_le _ (by decide), BitVec.toNat_setWidth, BitVec.toNat_setWidth, BitVec.toNat_ofNat]
  omega
theorem and255 (b : BitVec 32) : (b &&& 255#32).toNat = b.toNat % 256 := by
  rw [BitVec.toNat_and]
  exact Nat.and_two_pow_sub_one_eq_mod b.toNat 8
theorem zBy_c0 (w s : Int32) (k : Nat) (hs : ((s.toUInt32 &&& Int32.toUInt32 31).toBitVec % 32).toNat = k) : ((((w.toUInt32 >>> (s.toUInt32 &&& Int32.toUInt32 31)).toInt32 &&& (255 : Int32))).toUInt32 % 65536).toInt32 = nI (zBy w k) := by
  apply Int32.toBitVec_inj.mp
  apply BitVec.eq_of_toNat_eq
  have e1 : ((((w.toUInt32 >>> (s.toUInt32 &&& Int32.toUInt32 31)).toInt32 &&& (255 : Int32))).toUInt32 % 65536).toInt32.toBitVec = ((w.toBitVec >>> ((s.toUInt32 &&& Int32.toUInt32 31).toBitVec % 32)) &&& 255#32) % 65536#32 := rfl
  rw [e1, BitVec.toNat_umod, and255]
  have e2 : (w.toBitVec >>> ((s.toUInt32 &&& Int32.toUInt32 31).toBitVec % 32)).toNat = w.toBitVec.toNat / 2 ^ k := by
    rw [BitVec.ushiftRight_eq', BitVec.toNat_ushiftRight, hs, Nat.shiftRight_eq_div_pow]
  rw [e2]
  show w.toBitVec.toNat / 2 ^ k % 256 % 65536 = (BitVec.ofNat 32 (zBy w k)).toNat
  have := zBy_lt w k
  rw [BitVec.toNat_ofNat]
  unfold zBy at this ⊢
  omega
theorem t24 : (((24 : Int32).toUInt32 &&& Int32.toUInt32 31).toBitVec % 32).toNat = 24 := by decide
theorem zBy_m (w s : Int32) (k : Nat) (hk : k ≤ 24) (hs : ((s &&& 31).toBitVec.smod 32).toNat = k) : (w >>> (s &&& 31)).toInt8.toInt32 = sb_b (zBy w k) := by
  unfold sb_b
  congr 1
  apply Int8.toBitVec_inj.mp
  have e1 : (w >>> (s &&& 31)).toInt8.toBitVec = (w.toBitVec.sshiftRight' ((s &&& 31).toBitVec.smod 32)).signExtend 8 := rfl
  have e2 : (nI (zBy w k)).toInt8.toBitVec = (BitVec.ofNat 32 (zBy w k)).signExtend 8 := rfl
  rw [e1, e2]
  apply BitVec.eq_of_getLsbD_eq
  intro i hi
  rw [BitVec.signExtend_eq_setWidth_of_le _ (by decide), BitVec.signExtend_eq_setWidth_of_le _ (by decide), BitVec.getLsbD_setWidth, BitVec.getLsbD_setWidth]
  congr 1
  rw [BitVec.sshiftRight_eq', hs, BitVec.getLsbD_sshiftRight, BitVec.getLsbD_ofNat]
  unfold zBy
  have h32 : k + i < 32 := by omega
  simp only [h32]
  have : (w.toBitVec.toNat / 2 ^ k % 256).testBit i = w.toBitVec.getLsbD (k + i) := by
    rw [show (256 : Nat) = 2 ^ 8 from rfl, Nat.testBit_mod_two_pow, Nat.testBit_div_two_pow, BitVec.getLsbD]
    simp [hi, Nat.add_comm]
  rw [this]
  have : i < 32 := by omega
  simp [this]
theorem m24 : (((24 : Int32) &&& 31).toBitVec.smod 32).toNat = 24 := by decide
theorem m0 : (((0 : Int32) &&& 31).toBitVec.smod 32).toNat = 0 := by decide
theorem sb_lo : ∀ c, c < 128 → sb_b c = nI c := by decide +kernel
