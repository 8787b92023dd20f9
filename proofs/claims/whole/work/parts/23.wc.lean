/-! sums of digits with a carry -/
theorem lZ_ushr (z : Int) (s : UInt64) (k : Nat) (hs : s.toNat % 64 = k) (h1 : 0 ≤ z) (h2 : z < 18446744073709551616) : ((lZ z).toUInt64 >>> s).toInt64 = lZ (z / 2 ^ k) := by
  apply Int64.toBitVec_inj.mp
  apply BitVec.eq_of_toNat_eq
  rw [lZ_bits]
  show ((lZ z).toUInt64 >>> s).toNat = _
  rw [UInt64.toNat_shiftRight, Nat.shiftRight_eq_div_pow, hs]
  show (lZ z).toBitVec.toNat / 2 ^ k = _
  rw [lZ_bits, Int.emod_eq_of_lt h1 h2]
  have hp : (0 : Int) < 2 ^ k := by exact_mod_cast Nat.two_pow_pos k
  have q0 : 0 ≤ z / 2 ^ k := Int.ediv_nonneg h1 (Int.le_of_lt hp)
  have q1 : z / 2 ^ k ≤ z := Int.ediv_le_self _ h1
  rw [Int.emod_eq_of_lt q0 (by omega)]
  obtain ⟨m, rfl⟩ := Int.eq_ofNat_of_zero_le h1
  rw [Int.toNat_natCast, show ((2 : Int) ^ k) = ((2 ^ k : Nat) : Int) by rw [Int.natCast_pow]; rfl, ← Int.natCast_ediv, Int.toNat_natCast]
theorem lZ_ushr31 {z : Int} (h1 : 0 ≤ z) (h2 : z < 18446744073709551616) : ((lZ z).toUInt64 >>> ((31 : Int32).toInt64.toUInt64 &&& Int64.toUInt64 63)).toInt64 = lZ (z / 2147483648) := lZ_ushr z _ 31 (by decide) h1 h2
theorem lZ_sshr31 {z : Int} (h1 : -9223372036854775808 ≤ z) (h2 : z < 9223372036854775808) : lZ z >>> ((31 : Int32).toInt64 &&& 63) = lZ (z / 2147483648) := lZ_shr z _ 31 (by decide) h1 h2
/-- what is carried into place i of p U + q V -/
def ca (k : Nat) (p q : Int) (U V i : Nat) : Int := (p * ((U % 2 ^ (k * i) : Nat) : Int) + q * ((V % 2 ^ (k * i) : Nat) : Int)) / ((2 ^ (k * i) : Nat) : Int)
theorem ca_0 (k : Nat) (p q : Int) (U V : Nat) : ca k p q U V 0 = 0 := by
  unfold ca
  simp [Nat.mod_one]
theorem ca_s (k : Nat) (p q : Int) (U V i : Nat) : ca k p q U V (i + 1) = (p * (dg k U i : Int) + q * (dg k V i : Int) + ca k p q U V i) / ((2 ^ k : Nat) : Int) := by
  unfold ca
  rw [dg_mod, dg_mod]
  have hP : (0 : Int) < ((2 ^ (k * i) : Nat) : Int) := by exact_mod_cast Nat.two_pow_pos _
  have e : ((2 ^ (k * (i + 1)) : Nat) : Int) = ((2 ^ (k * i) : Nat) : Int) * ((2 ^ k : Nat) : Int) := by rw [Nat.mul_add, Nat.mul_one, Nat.pow_add, Int.natCast_mul]
  rw [e]
  generalize U % 2 ^ (k * i) = u
  generalize V % 2 ^ (k * i) = v
  generalize dg k U i = du
  generalize dg k V i = dv
  have e2 : p * ((u + 2 ^ (k * i) * du : Nat) : Int) + q * ((v + 2 ^ (k * i) * dv : Nat) : Int) = (p * (u : Int) + q * (v : Int)) + ((2 ^ (k * i) : Nat) : Int) * (p * (du : Int) + q * (dv : Int)) := by
    simp only [Int.natCast_add, Int.natCast_mul]
    grind
  rw [e2, ← Int.ediv_ediv_of_nonneg (Int.le_of_lt hP), Int.add_mul_ediv_left _ _ (Int.ne_of_gt hP), Int.add_comm]
theorem ca_d (k : Nat) (p q : Int) (U V i : Nat) : (p * (U : Int) + q * (V : Int)) / ((2 ^ (k * i) : Nat) : Int) % ((2 ^ k : Nat) : Int) = (p * (dg k U i : Int) + q * (dg k V i : Int) + ca k p q U V i) % ((2 ^ k : Nat) : Int) := by
  unfold ca dg
  have hP : (0 : Int) < ((2 ^ (k * i) : Nat) : Int) := by exact_mod_cast Nat.two_pow_pos _
  have hU : (U : Int) = ((2 ^ (k * i) : Nat) : Int) * ((U / 2 ^ (k * i) : Nat) : Int) + ((U % 2 ^ (k * i) : Nat) : Int) := by exact_mod_cast (Nat.div_add_mod U (2 ^ (k * i))).symm
  have hV : (V : Int) = ((2 ^ (k * i) : Nat) : Int) * ((V / 2 ^ (k * i) : Nat) : Int) + ((V % 2 ^ (k * i) : Nat) : Int) := by exact_mod_cast (Nat.div_add_mod V (2 ^ (k * i))).symm
  generalize hu : U % 2 ^ (k * i) = u at hU ⊢
  generalize hv : V % 2 ^ (k * i) = v at hV ⊢
  generalize U / 2 ^ (k * i) = x at hU ⊢
  generalize V / 2 ^ (k * i) = y at hV ⊢
  have hx : (x : Int) = ((2 ^ k : Nat) : Int) * ((x / 2 ^ k : Nat) : Int) + ((x % 2 ^ k : Nat) : Int) := by exact_mod_cast (Nat.div_add_mod x (2 ^ k)).symm
  have hy : (y : Int) = ((2 ^ k : Nat) : Int) * ((y / 2 ^ k : Nat) : Int) + ((y % 2 ^ k : Nat) : Int) := by exact_mod_cast (Nat.div_add_mod y (2 ^ k)).symm
  have e2 : p * (U : Int) + q * (V : Int) = (p * (u : Int) + q * (v : Int)) + ((2 ^ (k * i) : Nat) : Int) * (p * (x : Int) + q * (y : Int)) := by
    rw [hU, hV]
    grind
  rw [e2, Int.add_mul_ediv_left _ _ (Int.ne_of_gt hP)]
  generalize (p * (u : Int) + q * (v : Int)) / ((2 ^ (k * i) : Nat) : Int) = c
  generalize x / 2 ^ k = x1 at hx
  generalize y / 2 ^ k = y1 at hy
  have e3 : c + (p * (x : Int) + q * (y : Int)) = (p * ((x % 2 ^ k : Nat) : Int) + q * ((y % 2 ^ k : Nat) : Int) + c) + ((2 ^ k : Nat) : Int) * (p * (x1 : Int) + q * (y1 : Int)) := by
    generalize x % 2 ^ k = x2 at hx ⊢
    generalize y % 2 ^ k = y2 at hy ⊢
    rw [hx, hy]
    grind
  rw [e3, Int.add_mul_emod_self_left]
theorem dg_int (k v i : Nat) : (dg k v i : Int) = (v : Int) / ((2 ^ (k * i) : Nat) : Int) % ((2 ^ k : Nat) : Int) := by
  unfold dg
  rw [Int.natCast_emod, Int.natCast_ediv]
/-- digits of p U + q V, where that is the number Z -/
theorem ca_dg {k : Nat} {p q : Int} {U V Z : Nat} (hZ : p * (U : Int) + q * (V : Int) = (Z : Int)) (i : Nat) : (p * (dg k U i : Int) + q * (dg k V i : Int) + ca k p q U V i) % ((2 ^ k : Nat) : Int) = (dg k Z i : Int) := by
  rw [← ca_d, hZ, dg_int]
/-- nothing is carried out of the highest place -/
theorem ca_top {k : Nat} {p q : Int} {U V Z n : Nat} (hZ : p * (U : Int) + q * (V : Int) = (Z : Int)) (hU : U < 2 ^ (k * n)) (hV : V < 2 ^ (k * n)) : ca k p q U V n = (Z / 2 ^ (k * n) : Nat) := by
  unfold ca
  rw [Nat.mod_eq_of_lt hU, Nat.mod_eq_of_lt hV, hZ, Int.natCast_ediv]
/-- bounds of what is carried -/
theorem ca_bd {k : Nat} {p q A B : Int} (U V i : Nat) (hA : ∀ x y : Int, 0 ≤ x → 0 ≤ y → A * (if x ≤ y then y else x) ≤ p * x + q * y) : True := trivial
/-! memory with other limbs -/
def mA (M : me_M) (a cap : Nat) (g : Nat → Int32) : me_M := me_set M a (.inl (0, cap, .inl g))
theorem mA_i (M : me_M) (a cap : Nat) (g : Nat → Int32) : me_int (mA M a cap g) 0 a = some (cap, g) := mi_set _ _ _ _ _
theorem mA_o {M : me_M} {a cap q ci : Nat} {g : Nat → Int32} (h : q ≠ a) : me_obj (mA M a cap g) ci q = me_obj M ci q := mo_ne _ _ _ _ _ h
theorem mA_ne {M : me_M} {a cap q kd : Nat} {g : Nat → Int32} (h : q ≠ a) : me_int (mA M a cap g) kd q = me_int M kd q := mi_ne _ _ _ _ _ h
theorem mA_A (M : me_M) (a cap : Nat) (g g2 : Nat → Int32) : me_set (mA M a cap g) a (.inl (0, cap, .inl g2)) = mA M a cap g2 := set_set _ _ _ _
theorem mA_self {M : me_M} {a cap : Nat} {f : Nat → Int32} (h : me_int M 0 a = some (cap, f)) : mA M a cap f = M := set_self (me_int_eq h)
theorem mA_W (M : me_M) (w a cap : Nat) (g : Nat → Int32) (s : Nat) : me_set (mA M a cap g) w (.inr (5, [.ref a, .int (iZ s)])) = mW M w a cap g s := rfl
/-- a limb of a whole, while the limbs below are being written, perhaps its own -/
theorem limb_mA {M : me_M} {x ax capx s v la cap i : Nat} {fx f g : Nat → Int32} (hx : WS M x ax capx s v fx) (hl : me_int M 0 la = some (cap, f)) (hg : ∀ j, i ≤ j → g j = f j) (hi : i < 2147483648) :
    f_X5_limbOrZero [.ref x, .int (iZ i)] (mA M la cap g) = some (some (.long (lZ (dg 31 v i))), mA M la cap g) := by
  obtain ⟨ho, ha, hs, hc, ⟨hv, -⟩, hf⟩ := hx
  have hn := iZ_n0 hi
  have hcl := iZ_clampN hi
  have h31 := dg_31 v i
  have hol : me_obj (mA M la cap g) 5 x = some [.ref ax, .int (iZ s)] := by rw [mA_o (oi_ne ho hl)]; exact ho
  have hal : ∃ f2 : Nat → Int32, me_int (mA M la cap g) 0 ax = some (capx, f2) ∧ f2 i = fx i := by
    by_cases h : ax = la
    · subst h
      rw [ha] at hl
      cases hl
      exact ⟨g, mA_i _ _ _ _, hg i (Nat.le_refl i)⟩
    · exact ⟨fx, by rw [mA_ne h]; exact ha, rfl⟩
  obtain ⟨f2, hal, hf2⟩ := hal
  rw [e_X5_limbOrZero]
  simp only [if_neg hn, hol, hal, bS, g0, g1, vI, vR]
  by_cases hle : s ≤ i
  · rw [if_pos ((iZ_le (by omega) (by omega)).mpr (by omega)), if_pos (by decide)]
    rw [dg_zero (Nat.lt_of_lt_of_le hv (pw_le 31 hle))]
    rfl
  · rw [if_neg (fun q => hle (by have := (iZ_le (by omega) (by omega)).mp q; omega)), hcl, if_neg (nob hn (by omega)), if_pos (by decide), hf2, hf i (by omega), iZ_l (by omega) (by omega)]
theorem upd_s (f : Nat → Int32) (k : Nat) (x : Int32) : upd f k x k = x := by simp [upd]
theorem upd_n (f : Nat → Int32) {k j : Nat} (x : Int32) (h : j ≠ k) : upd f k x j = f j := by simp [upd, h]
