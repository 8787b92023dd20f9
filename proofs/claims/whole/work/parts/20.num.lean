/-! ints and longs by the whole numbers that they stand for -/
def iZ (z : Int) : Int32 := Int32.ofInt z
def lZ (z : Int) : Int64 := Int64.ofInt z
theorem nI_iZ (n : Nat) : nI n = iZ n := (Int32.ofInt_eq_ofNat (n := n)).symm
theorem iZ_nat (n : Nat) : Int32.ofNat n = iZ n := (Int32.ofInt_eq_ofNat (n := n)).symm
theorem lN_lZ (n : Nat) : lN n = lZ n := (Int64.ofInt_eq_ofNat (n := n)).symm
theorem iZ_add (a b : Int) : iZ a + iZ b = iZ (a + b) := (Int32.ofInt_add a b).symm
theorem iZ_sub (a b : Int) : iZ a - iZ b = iZ (a - b) := (Int32.ofInt_sub a b).symm
theorem iZ_mul (a b : Int) : iZ a * iZ b = iZ (a * b) := (Int32.ofInt_mul a b).symm
theorem iZ_neg (a : Int) : -iZ a = iZ (-a) := (Int32.ofInt_neg a).symm
theorem lZ_add (a b : Int) : lZ a + lZ b = lZ (a + b) := (Int64.ofInt_add a b).symm
theorem lZ_sub (a b : Int) : lZ a - lZ b = lZ (a - b) := (Int64.ofInt_sub a b).symm
theorem lZ_mul (a b : Int) : lZ a * lZ b = lZ (a * b) := (Int64.ofInt_mul a b).symm
theorem lZ_neg (a : Int) : -lZ a = lZ (-a) := (Int64.ofInt_neg a).symm
theorem iZ_toInt {z : Int} (h1 : -2147483648 ≤ z) (h2 : z < 2147483648) : (iZ z).toInt = z := Int32.toInt_ofInt_of_le h1 h2
theorem lZ_toInt {z : Int} (h1 : -9223372036854775808 ≤ z) (h2 : z < 9223372036854775808) : (lZ z).toInt = z := Int64.toInt_ofInt_of_le h1 h2
theorem iZ_self (x : Int32) : iZ x.toInt = x := Int32.ofInt_toInt x
theorem lZ_self (x : Int64) : lZ x.toInt = x := Int64.ofInt_toInt x
theorem iZ_le {a b : Int} (ha : -2147483648 ≤ a ∧ a < 2147483648) (hb : -2147483648 ≤ b ∧ b < 2147483648) : iZ a ≤ iZ b ↔ a ≤ b := by rw [Int32.le_iff_toInt_le, iZ_toInt ha.1 ha.2, iZ_toInt hb.1 hb.2]
theorem iZ_lt {a b : Int} (ha : -2147483648 ≤ a ∧ a < 2147483648) (hb : -2147483648 ≤ b ∧ b < 2147483648) : iZ a < iZ b ↔ a < b := by rw [Int32.lt_iff_toInt_lt, iZ_toInt ha.1 ha.2, iZ_toInt hb.1 hb.2]
theorem iZ_eq {a b : Int} (ha : -2147483648 ≤ a ∧ a < 2147483648) (hb : -2147483648 ≤ b ∧ b < 2147483648) : iZ a = iZ b ↔ a = b := by rw [← Int32.toInt_inj, iZ_toInt ha.1 ha.2, iZ_toInt hb.1 hb.2]
theorem lZ_le {a b : Int} (ha : -9223372036854775808 ≤ a ∧ a < 9223372036854775808) (hb : -9223372036854775808 ≤ b ∧ b < 9223372036854775808) : lZ a ≤ lZ b ↔ a ≤ b := by rw [Int64.le_iff_toInt_le, lZ_toInt ha.1 ha.2, lZ_toInt hb.1 hb.2]
theorem lZ_lt {a b : Int} (ha : -9223372036854775808 ≤ a ∧ a < 9223372036854775808) (hb : -9223372036854775808 ≤ b ∧ b < 9223372036854775808) : lZ a < lZ b ↔ a < b := by rw [Int64.lt_iff_toInt_lt, lZ_toInt ha.1 ha.2, lZ_toInt hb.1 hb.2]
theorem lZ_eq {a b : Int} (ha : -9223372036854775808 ≤ a ∧ a < 9223372036854775808) (hb : -9223372036854775808 ≤ b ∧ b < 9223372036854775808) : lZ a = lZ b ↔ a = b := by rw [← Int64.toInt_inj, lZ_toInt ha.1 ha.2, lZ_toInt hb.1 hb.2]
theorem iZ_l {z : Int} (h1 : -2147483648 ≤ z) (h2 : z < 2147483648) : (iZ z).toInt64 = lZ z := by
  rw [← Int64.ofInt_int32ToInt, iZ_toInt h1 h2]; rfl
theorem lZ_i (z : Int) : (lZ z).toInt32 = iZ z := Int64.toInt32_ofInt
theorem iZ_clamp {z : Int} (h1 : 0 ≤ z) (h2 : z < 2147483648) : (iZ z).toNatClampNeg = z.toNat := by
  show (iZ z).toInt.toNat = _
  rw [iZ_toInt (by omega) h2]
theorem iZ_clampN {n : Nat} (h2 : n < 2147483648) : (iZ (n : Int)).toNatClampNeg = n := by
  rw [iZ_clamp (by omega) (by omega)]; rfl
theorem iZ_n0 {n : Nat} (h : n < 2147483648) : ¬ iZ (n : Int) < 0 := by
  rw [show (0 : Int32) = iZ 0 from rfl, iZ_lt (by omega) (by omega)]; omega
theorem lc_lt {a b : Int} (ha : -9223372036854775808 ≤ a ∧ a < 9223372036854775808) (hb : -9223372036854775808 ≤ b ∧ b < 9223372036854775808) : lg_cmp (lZ a) (lZ b) = if b < a then 1 else if a = b then 0 else -1 := by
  unfold lg_cmp
  simp only [gt_iff_lt, lZ_lt hb ha, lZ_eq ha hb]
theorem iZ_bits (z : Int) : (iZ z).toBitVec.toNat = (z % 4294967296).toNat := by
  show (BitVec.ofInt 32 z).toNat = _
  rw [BitVec.toNat_ofInt]; rfl
theorem lZ_bits (z : Int) : (lZ z).toBitVec.toNat = (z % 18446744073709551616).toNat := by
  show (BitVec.ofInt 64 z).toNat = _
  rw [BitVec.toNat_ofInt]; rfl
theorem iZ_mask31 (z : Int) : iZ z &&& 2147483647 = iZ (z % 2147483648) := by
  rw [pk_and (iZ z) (m := 2147483647) 31 (by decide), iZ_bits, nI_iZ]
  congr 1
  omega
theorem iZ_mask16 (z : Int) : iZ z &&& 65535 = iZ (z % 65536) := by
  rw [pk_and (iZ z) (m := 65535) 16 (by decide), iZ_bits, nI_iZ]
  congr 1
  omega
theorem lZ_shr (z : Int) (s : Int64) (k : Nat) (hs : (s.toBitVec.smod 64).toNat = k) (h1 : -9223372036854775808 ≤ z) (h2 : z < 9223372036854775808) : lZ z >>> s = lZ (z / 2 ^ k) := by
  apply Int64.toInt_inj.mp
  have e : (lZ z >>> s).toInt = (lZ z).toInt >>> k := by
    rw [← hs]
    exact BitVec.toInt_sshiftRight ..
  have hp : (0 : Int) < 2 ^ k := by exact_mod_cast Nat.two_pow_pos k
  have hp1 : (1 : Int) ≤ 2 ^ k := hp
  have q1 : -9223372036854775808 ≤ z / 2 ^ k := by
    apply (Int.le_ediv_iff_mul_le hp).mpr
    generalize (2 : Int) ^ k = p at hp1
    omega
  have q2 : z / 2 ^ k < 9223372036854775808 := by
    apply (Int.ediv_lt_iff_lt_mul hp).mpr
    generalize (2 : Int) ^ k = p at hp1
    omega
  rw [e, lZ_toInt h1 h2, lZ_toInt q1 q2, Int.shiftRight_eq_div_pow]
  norm_cast
theorem lZ_shl (z : Int) (s : Int64) (k : Nat) (hk : k < 64) (hs : (s.toBitVec.smod 64).toNat = k) : lZ z <<< s = lZ (z * 2 ^ k) := by
  apply Int64.toBitVec_inj.mp
  rw [Int64.toBitVec_shiftLeft]
  apply BitVec.eq_of_toNat_eq
  rw [lZ_bits]
  show ((lZ z).toBitVec <<< (s.toBitVec.smod 64).toNat).toNat = _
  rw [hs, BitVec.toNat_shiftLeft, lZ_bits, Nat.shiftLeft_eq]
  have hp : (0 : Int) < 2 ^ k := by exact_mod_cast Nat.two_pow_pos k
  have h0 : 0 ≤ z % 18446744073709551616 := Int.emod_nonneg _ (by decide)
  have e1 : (((z % 18446744073709551616).toNat * 2 ^ k % 2 ^ 64 : Nat) : Int) = z * 2 ^ k % 18446744073709551616 := by
    rw [Int.natCast_emod, Int.natCast_mul, Int.toNat_of_nonneg h0, Int.natCast_pow]
    show z % 18446744073709551616 * 2 ^ k % 18446744073709551616 = _
    rw [Int.mul_emod, Int.emod_emod_of_dvd _ (Int.dvd_refl _), ← Int.mul_emod]
  omega
