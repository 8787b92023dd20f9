theorem lZ_mod {a b : Int} (h : a % 18446744073709551616 = b % 18446744073709551616) : lZ a = lZ b := by
  apply Int64.toBitVec_inj.mp
  apply BitVec.eq_of_toNat_eq
  rw [lZ_bits, lZ_bits, h]
theorem lZ_mask (z : Int) {m : Int64} (k : Nat) (hk : k ≤ 64) (hm : m.toBitVec.toNat = 2 ^ k - 1) : lZ z &&& m = lZ (z % ((2 ^ k : Nat) : Int)) := by
  apply Int64.toBitVec_inj.mp
  rw [Int64.toBitVec_and]
  apply BitVec.eq_of_toNat_eq
  rw [BitVec.toNat_and, hm, Nat.and_two_pow_sub_one_eq_mod, lZ_bits, lZ_bits]
  have hP : (0 : Int) < ((2 ^ k : Nat) : Int) := by exact_mod_cast Nat.two_pow_pos _
  have e64 : (18446744073709551616 : Int) = ((2 ^ k : Nat) : Int) * ((2 ^ (64 - k) : Nat) : Int) := by
    rw [← Int.natCast_mul, ← Nat.pow_add, show k + (64 - k) = 64 by omega]
    rfl
  have h0 : 0 ≤ z % 18446744073709551616 := Int.emod_nonneg _ (by decide)
  have h1 : 0 ≤ z % ((2 ^ k : Nat) : Int) := Int.emod_nonneg _ (by omega)
  have h2 : z % ((2 ^ k : Nat) : Int) < ((2 ^ k : Nat) : Int) := Int.emod_lt_of_pos _ hP
  have hP64 : ((2 ^ k : Nat) : Int) ≤ 18446744073709551616 := by
    have : 2 ^ k ≤ 2 ^ 64 := Nat.pow_le_pow_right (by decide) hk
    rw [show (2 : Nat) ^ 64 = 18446744073709551616 from by decide] at this
    omega
  rw [Int.emod_eq_of_lt h1 (by omega)]
  have e : (((z % 18446744073709551616).toNat % 2 ^ k : Nat) : Int) = z % ((2 ^ k : Nat) : Int) := by
    rw [Int.natCast_emod, Int.toNat_of_nonneg h0]
    exact Int.emod_emod_of_dvd _ (e64 ▸ Int.dvd_mul_right _ _)
  omega
theorem lgc0 {x y : Int64} : lg_cmp x y = 0 ↔ x = y := by
  unfold lg_cmp
  by_cases h : x > y
  · rw [if_pos h]
    constructor
    · intro q; exact absurd q (by decide)
    · intro q; subst q; exact absurd h Int64.lt_irrefl
  · rw [if_neg h]
    by_cases h2 : x = y
    · simp [h2]
    · rw [if_neg h2]
      constructor
      · intro q; exact absurd q (by decide)
      · intro q; exact absurd q h2
theorem lowLong_s {M : me_M} {w a cap s v : Nat} {f : Nat → Int32} (h : WS M w a cap s v f) : f_X5_lowLong [.ref w] M = some (some (.long (lZ v)), M) := by
  have l0 : f_X5_limbOrZero [.ref w, .int 0] M = _ := limbOrZero_s h (i := 0) (by decide)
  have l1 : f_X5_limbOrZero [.ref w, .int 1] M = _ := limbOrZero_s h (i := 1) (by decide)
  have l2 : f_X5_limbOrZero [.ref w, .int 2] M = _ := limbOrZero_s h (i := 2) (by decide)
  have d0 := dg_31 v 0
  have d1 := dg_31 v 1
  have d2 := dg_31 v 2
  have m3 : v % 2 ^ (31 * 3) = dg 31 v 0 + 2147483648 * dg 31 v 1 + 4611686018427387904 * dg 31 v 2 := by
    rw [dg_mod 31 v 2, dg_mod 31 v 1, dg_mod 31 v 0]
    simp only [Nat.mul_zero, Nat.pow_zero, Nat.mod_one, Nat.one_mul]
    omega
  rw [e_X5_lowLong]
  simp only [h.1, l0, l1, l2, bS, vL, c00]
  rw [lZ_shl31, lZ_shl _ _ 62 (by decide) (by decide), lZ_or' 31 (by decide) (by omega) (by omega) ⟨dg 31 v 1, by omega⟩, lZ_or' 62 (by decide) (by omega) (by omega) ⟨dg 31 v 2, by omega⟩]
  have : lZ ((dg 31 v 0 : Int) + (dg 31 v 1 : Int) * 2147483648 + (dg 31 v 2 : Int) * 2 ^ 62) = lZ v := by
    apply lZ_mod
    have h1 : (v : Int) = 9903520314283042199192993792 * ((v / 2 ^ (31 * 3) : Nat) : Int) + ((v % 2 ^ (31 * 3) : Nat) : Int) := by
      have := Nat.div_add_mod v (2 ^ (31 * 3))
      rw [show (2 : Nat) ^ (31 * 3) = 9903520314283042199192993792 from by decide] at this ⊢
      omega
    rw [m3] at h1
    omega
  rw [this]
theorem isOdd_s {M : me_M} {w a cap s v : Nat} {f : Nat → Int32} (h : WS M w a cap s v f) : f_X5_isOdd [.ref w] M = some (some (.int (if v % 2 = 1 then 1 else 0)), M) := by
  have l0 : f_X5_limbOrZero [.ref w, .int 0] M = _ := limbOrZero_s h (i := 0) (by decide)
  have d0 := dg_31 v 0
  have e0 : dg 31 v 0 % 2 = v % 2 := by
    unfold dg
    simp only [Nat.mul_zero, Nat.pow_zero, Nat.div_one]
    omega
  rw [e_X5_isOdd]
  simp only [h.1, l0, bS, vL, c00, or_true, true_or, ↓reduceIte]
  rw [lZ_mask _ 1 (by decide) (by decide), show (1 : Int64) = lZ 1 from rfl]
  by_cases h1 : v % 2 = 1
  · rw [if_pos h1, if_pos (by rw [lgc0, lZ_eq (by omega) (by omega)]; omega)]
  · rw [if_neg h1, if_neg (by rw [lgc0, lZ_eq (by omega) (by omega)]; omega)]
theorem fitsLong_s {M : me_M} {w a cap s v : Nat} {f : Nat → Int32} (h : WS M w a cap s v f) (hb : bl v < 10000) (mi : Int32) : f_X5_fitsLong [.ref w, .int mi] M = some (some (.int (if v < 9223372036854775808 ∨ (mi ≠ 0 ∧ v = 9223372036854775808) then 1 else 0)), M) := by
  have hl := length_s h
  have h63 : bl v ≤ 63 ↔ v < 9223372036854775808 := bl_le_iff
  have h64 : bl v ≤ 64 ↔ v < 18446744073709551616 := bl_le_iff
  rw [e_X5_fitsLong]
  simp only [h.1, hl, lowLong_s h, bS, vI, vL, c00, or_true, true_or, ↓reduceIte]
  rw [show (64 : Int32) = iZ 64 from rfl, show (-9223372036854775808 : Int64) = lZ 9223372036854775808 from rfl]
  by_cases h1 : v < 9223372036854775808
  · rw [if_pos ((iZ_lt (by omega) (by omega)).mpr (by omega)), if_pos (Or.inl h1)]
  · rw [if_neg (by rw [iZ_lt (by omega) (by omega)]; omega)]
    by_cases h2 : mi = 0
    · rw [if_pos h2, if_neg (nob h1 (fun z => z.1 h2))]
    · rw [if_neg h2]
      by_cases h3 : v < 18446744073709551616
      · rw [if_pos (by rw [iZ_eq (by omega) (by omega)]; omega)]
        have hq : lg_cmp (lZ (v : Int)) (lZ 9223372036854775808) = 0 ↔ v = 9223372036854775808 := by
          rw [lgc0]
          constructor
          · intro q
            have := congrArg (fun x : Int64 => x.toBitVec.toNat) q
            simp only [lZ_bits] at this
            omega
          · intro q; rw [q]; rfl
        by_cases h4 : v = 9223372036854775808
        · rw [if_pos (hq.mpr h4), if_pos (Or.inr ⟨h2, h4⟩)]
        · rw [if_neg (fun q => h4 (hq.mp q)), if_neg (nob h1 (fun z => h4 z.2))]
      · rw [if_neg (by rw [iZ_eq (by omega) (by omega)]; omega), if_neg (nob h1 (fun z => by omega))]
theorem setLong_s {M : me_M} {w la cap V : Nat} {sw : Value} {f : Nat → Int32} (hw : me_obj M 5 w = some [.ref la, sw]) (hl : me_int M 0 la = some (cap, f)) (hc : cap < 1000) (h3 : 3 ≤ cap) (hV : V < 18446744073709551616) :
    ∃ (s' : Nat) (g' : Nat → Int32), f_X5_setLong [.ref w, .long (lZ V)] M = some (none, mW M w la cap g' s') ∧ WS (mW M w la cap g' s') w la cap s' V g' := by
  have hwl := oi_ne hw hl
  rw [e_X5_setLong]
  have e0 : (lZ (V : Int)).toInt32 &&& 2147483647 = iZ (dg 31 V 0) := by
    rw [lZ_i, iZ_mask31]
    congr 1
    have : dg 31 V 0 = V % 2147483648 := by
      unfold dg
      rw [Nat.mul_zero, Nat.pow_zero, Nat.div_one]
    omega
  have e1 : (((lZ (V : Int)).toUInt64 >>> ((31 : Int32).toInt64.toUInt64 &&& Int64.toUInt64 63)).toInt64).toInt32 &&& 2147483647 = iZ (dg 31 V 1) := by
    rw [lZ_ushr31 (by omega) (by omega), lZ_i, iZ_mask31]
    congr 1
  have e2 : ((lZ (V : Int)).toUInt64 >>> ((62 : Int32).toInt64.toUInt64 &&& Int64.toUInt64 63)).toInt64.toInt32 = iZ (dg 31 V 2) := by
    rw [lZ_ushr _ _ 62 (by decide) (by omega) (by omega), lZ_i]
    congr 1
    have : dg 31 V 2 = V / 4611686018427387904 := by
      unfold dg
      refine Nat.mod_eq_of_lt ?_
      have : (2 : Nat) ^ (31 * 2) = 4611686018427387904 := by decide
      omega
    omega
  have k0 : me_set M la (.inl (0, cap, .inl (upd f 0 (iZ (dg 31 V 0))))) = mA M la cap (upd f 0 (iZ (dg 31 V 0))) := rfl
  simp only [e0, e1, e2, hw, hl, bS, g0, vR, cl0, cl1, cl2, k0, mA_o hwl, mA_i, mA_A]
  rw [if_neg (nob n0 (by omega)), if_neg (nob n1 (by omega)), if_neg (nob n2 (by omega))]
  simp only [bS, l2, s21]
  rw [show (3 : Int32) = iZ ((3 : Nat) : Int) from rfl, mA_W]
  have hd : ∀ j, j < 3 → upd (upd (upd f 0 (iZ (dg 31 V 0))) 1 (iZ (dg 31 V 1))) 2 (iZ (dg 31 V 2)) j = iZ (dg 31 V j) := by
    intro j hj
    rcases (show j = 0 ∨ j = 1 ∨ j = 2 by omega) with rfl | rfl | rfl
    · rw [upd_n _ _ (by decide), upd_n _ _ (by decide), upd_s]
    · rw [upd_n _ _ (by decide), upd_s]
    · rw [upd_s]
  obtain ⟨s', q1, q2⟩ := trimW (M := M) (w := w) (a := la) (cap := cap) (s := 3) (v := V) (g := upd (upd (upd f 0 (iZ (dg 31 V 0))) 1 (iZ (dg 31 V 1))) 2 (iZ (dg 31 V 2))) hwl.symm hc h3 (Nat.lt_of_lt_of_le hV (by decide)) hd
  refine ⟨s', _, ?_, q2⟩
  rw [e_X5_setLong_41]
  simp only [mW_o, bS, q1, cNn, c00]
