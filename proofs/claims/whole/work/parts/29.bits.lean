theorem nI_or (a b : Nat) : nI a ||| nI b = nI (a ||| b) := by
  apply Int32.toBitVec_inj.mp
  simp only [nI, Int32.toBitVec_or, Int32.toBitVec_ofNat']
  exact (BitVec.ofNat_or).symm
theorem nI_and (a b : Nat) : nI a &&& nI b = nI (a &&& b) := by
  apply Int32.toBitVec_inj.mp
  simp only [nI, Int32.toBitVec_and, Int32.toBitVec_ofNat']
  exact (BitVec.ofNat_and).symm
theorem nI_orP {a i : Nat} (h : a < 2 ^ i) : nI a ||| nI (2 ^ i) = nI (a + 2 ^ i) := by
  rw [nI_or]
  congr 1
  have := Nat.two_pow_add_eq_or_of_lt h 1
  rw [Nat.mul_one] at this
  rw [Nat.or_comm, ← this, Nat.add_comm]
theorem nI_and1 (a : Nat) : nI a &&& 1 = nI (a % 2) := by
  rw [show (1 : Int32) = nI 1 from rfl, nI_and, Nat.and_one_is_mod]
theorem nI_31 {i : Nat} (h : i < 32) : nI i &&& 31 = nI i := by
  rw [show (31 : Int32) = nI (2 ^ 5 - 1) from rfl, nI_and, Nat.and_two_pow_sub_one_eq_mod, Nat.mod_eq_of_lt h]
theorem smod32 {i : Nat} (h : i < 32) : ((nI i).toBitVec.smod 32) = BitVec.ofNat 32 i := by
  have key : ∀ j : Fin 32, ((BitVec.ofNat 32 j.val).smod 32#32) = BitVec.ofNat 32 j.val := by decide
  have e : (nI i).toBitVec = BitVec.ofNat 32 i := by simp [nI]
  rw [e]
  exact key ⟨i, h⟩
theorem nI_shl {a i : Nat} (h : i < 32) : nI a <<< (nI i &&& 31) = nI (a * 2 ^ i) := by
  rw [nI_31 h]
  apply Int32.toBitVec_inj.mp
  rw [Int32.toBitVec_shiftLeft, smod32 h]
  have e : ∀ n, (nI n).toBitVec = BitVec.ofNat 32 n := fun n => by simp [nI]
  rw [e, e]
  apply BitVec.eq_of_toNat_eq
  rw [BitVec.shiftLeft_eq', BitVec.toNat_shiftLeft, BitVec.toNat_ofNat, BitVec.toNat_ofNat, BitVec.toNat_ofNat, Nat.shiftLeft_eq, Nat.mod_eq_of_lt (show i < 2 ^ 32 by omega), Nat.mod_mul_mod]
theorem nI_shr {a i : Nat} (ha : a < 2147483648) (h : i < 32) : nI a >>> (nI i &&& 31) = nI (a / 2 ^ i) := by
  rw [nI_31 h]
  apply Int32.toBitVec_inj.mp
  rw [Int32.toBitVec_shiftRight, smod32 h]
  have e : ∀ n, (nI n).toBitVec = BitVec.ofNat 32 n := fun n => by simp [nI]
  rw [e, e]
  have hm : (BitVec.ofNat 32 a).msb = false := by
    rw [BitVec.msb_eq_false_iff_two_mul_lt, BitVec.toNat_ofNat, Nat.mod_eq_of_lt (by omega)]
    omega
  rw [BitVec.sshiftRight_eq', BitVec.sshiftRight_eq_of_msb_false hm]
  apply BitVec.eq_of_toNat_eq
  rw [BitVec.toNat_ushiftRight, BitVec.toNat_ofNat, BitVec.toNat_ofNat, BitVec.toNat_ofNat, Nat.shiftRight_eq_div_pow, Nat.mod_eq_of_lt (show i < 2 ^ 32 by omega), Nat.mod_eq_of_lt (show a < 2 ^ 32 by omega), Nat.mod_eq_of_lt]
  have := Nat.div_le_self a (2 ^ i)
  omega
theorem one_shl {i : Nat} (h : i < 32) : (1 : Int32) <<< (nI i &&& 31) = nI (2 ^ i) := by
  have := nI_shl (a := 1) h
  rw [Nat.one_mul] at this
  exact this
