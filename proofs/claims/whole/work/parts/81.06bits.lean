/-! BITS OF NUMBERS -/
theorem bv_of (a : Nat) : ((Int32.ofNat a)).toBitVec = BitVec.ofNat 32 a := Int32.toBitVec_ofNat'
theorem i_ext {x y : Int32} (h : x.toBitVec = y.toBitVec) : x = y := Int32.toBitVec_inj.mp h
theorem n_and (a b : Nat) : (Int32.ofNat a) &&& (Int32.ofNat b) = (Int32.ofNat (a &&& b)) := by
  apply i_ext
  rw [Int32.toBitVec_and, bv_of, bv_of, bv_of]
  apply BitVec.eq_of_toNat_eq
  simp only [BitVec.toNat_and, BitVec.toNat_ofNat]
  exact (Nat.and_mod_two_pow (a := a) (b := b) (n := 32)).symm
theorem n_or (a b : Nat) : (Int32.ofNat a) ||| (Int32.ofNat b) = (Int32.ofNat (a ||| b)) := by
  apply i_ext
  rw [Int32.toBitVec_or, bv_of, bv_of, bv_of]
  apply BitVec.eq_of_toNat_eq
  simp only [BitVec.toNat_or, BitVec.toNat_ofNat]
  exact (Nat.or_mod_two_pow (a := a) (b := b) (n := 32)).symm
theorem n_xor (a b : Nat) : (Int32.ofNat a) ^^^ (Int32.ofNat b) = (Int32.ofNat (a ^^^ b)) := by
  apply i_ext
  rw [Int32.toBitVec_xor, bv_of, bv_of, bv_of]
  apply BitVec.eq_of_toNat_eq
  simp only [BitVec.toNat_xor, BitVec.toNat_ofNat]
  exact (Nat.xor_mod_two_pow (a := a) (b := b) (n := 32)).symm
theorem smod_n {s : Nat} (hs : s < 32) : (((Int32.ofNat s)).toBitVec.smod 32).toNat = s := by
  have h : ∀ s, s < 32 → (((Int32.ofNat s)).toBitVec.smod 32).toNat = s := by decide +kernel
  exact h s hs
theorem n_shl {a s : Nat} (hs : s < 32) : (Int32.ofNat a) <<< (Int32.ofNat s) = (Int32.ofNat (a * 2 ^ s)) := by
  apply i_ext
  rw [Int32.toBitVec_shiftLeft, bv_of, bv_of (a * 2 ^ s)]
  apply BitVec.eq_of_toNat_eq
  rw [BitVec.shiftLeft_eq', smod_n hs]
  simp only [BitVec.toNat_shiftLeft, BitVec.toNat_ofNat, Nat.shiftLeft_eq]
  rw [Nat.mod_mul_mod]
theorem n_shr {a s : Nat} (ha : a < 2 ^ 31) (hs : s < 32) : (Int32.ofNat a) >>> (Int32.ofNat s) = (Int32.ofNat (a / 2 ^ s)) := by
  apply i_ext
  rw [Int32.toBitVec_shiftRight, bv_of, bv_of (a / 2 ^ s)]
  apply BitVec.eq_of_toNat_eq
  rw [BitVec.sshiftRight_eq', smod_n hs]
  have hm : (BitVec.ofNat 32 a).msb = false := by
    rw [BitVec.msb_eq_false_iff_two_mul_lt, BitVec.toNat_ofNat]
    omega
  rw [BitVec.sshiftRight_eq_of_msb_false hm]
  simp only [BitVec.toNat_ushiftRight, BitVec.toNat_ofNat, Nat.shiftRight_eq_div_pow]
  rw [Nat.mod_eq_of_lt (by omega : a < 2 ^ 32), Nat.mod_eq_of_lt]
  exact Nat.lt_of_le_of_lt (Nat.div_le_self _ _) (by omega)
theorem and31 {s : Nat} (hs : s < 32) : (Int32.ofNat s) &&& 31 = (Int32.ofNat s) := by
  have h : ∀ s, s < 32 → (Int32.ofNat s) &&& 31 = (Int32.ofNat s) := by decide +kernel
  exact h s hs
theorem and_mask (a n : Nat) : a &&& (2 ^ n - 1) = a % 2 ^ n := Nat.and_two_pow_sub_one_eq_mod a n
