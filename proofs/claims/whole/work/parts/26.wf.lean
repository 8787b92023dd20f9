theorem lZ_or {a b : Int} (k : Nat) (hk : k ≤ 64) (ha : 0 ≤ a) (ha2 : a < ((2 ^ k : Nat) : Int)) (hb : ((2 ^ k : Nat) : Int) ∣ b) : lZ b ||| lZ a = lZ (b + a) := by
  apply Int64.toBitVec_inj.mp
  rw [Int64.toBitVec_or]
  apply BitVec.eq_of_toNat_eq
  rw [BitVec.toNat_or, lZ_bits, lZ_bits, lZ_bits]
  have hP : (0 : Int) < ((2 ^ k : Nat) : Int) := by exact_mod_cast Nat.two_pow_pos _
  have e64 : (18446744073709551616 : Int) = ((2 ^ k : Nat) : Int) * ((2 ^ (64 - k) : Nat) : Int) := by
    rw [← Int.natCast_mul, ← Nat.pow_add, show k + (64 - k) = 64 by omega]
    rfl
  have hd : ((2 ^ k : Nat) : Int) ∣ b % 18446744073709551616 := by
    rw [Int.emod_def]
    exact Int.dvd_sub hb (Int.dvd_trans (e64 ▸ Int.dvd_mul_right _ _) (Int.dvd_mul_right _ _))
  obtain ⟨q, hq⟩ := hd
  have hB0 : 0 ≤ b % 18446744073709551616 := Int.emod_nonneg _ (by decide)
  have hB1 : b % 18446744073709551616 < 18446744073709551616 := Int.emod_lt_of_pos _ (by decide)
  have hP64 : ((2 ^ k : Nat) : Int) ≤ 18446744073709551616 := by
    have : 2 ^ k ≤ 2 ^ 64 := Nat.pow_le_pow_right (by decide) hk
    rw [show (2 : Nat) ^ 64 = 18446744073709551616 from by decide] at this
    omega
  have hq0 : 0 ≤ q := by
    apply Int.not_lt.mp
    intro h
    have := Int.mul_neg_of_pos_of_neg hP h
    omega
  have hqt : q < ((2 ^ (64 - k) : Nat) : Int) := by
    apply Int.not_le.mp
    intro h
    have := Int.mul_le_mul_of_nonneg_left h (Int.le_of_lt hP)
    omega
  have hsum : ((2 ^ k : Nat) : Int) * q + a < 18446744073709551616 := by
    have h1 : ((2 ^ k : Nat) : Int) * (q + 1) ≤ ((2 ^ k : Nat) : Int) * ((2 ^ (64 - k) : Nat) : Int) := Int.mul_le_mul_of_nonneg_left (by omega) (Int.le_of_lt hP)
    rw [Int.mul_add, Int.mul_one] at h1
    omega
  have e1 : (b + a) % 18446744073709551616 = ((2 ^ k : Nat) : Int) * q + a := by
    rw [← Int.emod_add_mul_ediv b 18446744073709551616, hq, Int.add_assoc, Int.add_comm (18446744073709551616 * _) a, ← Int.add_assoc, Int.add_mul_emod_self_left]
    have : 0 ≤ ((2 ^ k : Nat) : Int) * q := Int.mul_nonneg (Int.le_of_lt hP) hq0
    exact Int.emod_eq_of_lt (by omega) hsum
  rw [e1, hq, Int.emod_eq_of_lt ha (by omega)]
  obtain ⟨q, rfl⟩ := Int.eq_ofNat_of_zero_le hq0
  obtain ⟨a, rfl⟩ := Int.eq_ofNat_of_zero_le ha
  rw [← Int.natCast_mul, ← Int.natCast_add, Int.toNat_natCast, Int.toNat_natCast, Int.toNat_natCast]
  exact (Nat.two_pow_add_eq_or_of_lt (by exact_mod_cast ha2) q).symm
theorem lZ_or' {a b : Int} (k : Nat) (hk : k ≤ 64) (ha : 0 ≤ a) (ha2 : a < ((2 ^ k : Nat) : Int)) (hb : ((2 ^ k : Nat) : Int) ∣ b) : lZ a ||| lZ b = lZ (a + b) := by
  rw [Int64.or_comm, lZ_or k hk ha ha2 hb, Int.add_comm]
theorem lZ_shl31 (z : Int) : lZ z <<< ((31 : Int32).toInt64 &&& 63) = lZ (z * 2147483648) := lZ_shl z _ 31 (by decide) (by decide)
theorem lZ_div {a b : Nat} (ha : a < 9223372036854775808) (h0 : 0 < b) (hb : b < 9223372036854775808) : lZ a / lZ b = lZ ((a / b : Nat) : Int) := by
  rw [← lN_lZ, ← lN_lZ, ← lN_lZ]; exact pk_lDiv ha h0 hb
theorem lZ_rem {a b : Nat} (ha : a < 9223372036854775808) (h0 : 0 < b) (hb : b < 9223372036854775808) : lZ a - lZ a / lZ b * lZ b = lZ ((a % b : Nat) : Int) := by
  rw [← lN_lZ, ← lN_lZ, ← lN_lZ]; exact pk_lRem ha h0 hb
/-- one step of a division from the highest limb on -/
theorem sh_step {k v d i : Nat} (hd : 0 < d) : (v / 2 ^ (k * i)) % d = ((v / 2 ^ (k * (i + 1))) % d * 2 ^ k + dg k v i) % d ∧ dg k (v / d) i = ((v / 2 ^ (k * (i + 1))) % d * 2 ^ k + dg k v i) / d := by
  have h := dv_s k v i
  generalize hx : v / 2 ^ (k * (i + 1)) = x at h
  have hm := Nat.div_add_mod x d
  have hr := Nat.mod_lt x hd
  have hg := dg_lt k v i
  have hlt : (x % d * 2 ^ k + dg k v i) / d < 2 ^ k := by
    rw [Nat.div_lt_iff_lt_mul hd]
    have : (x % d + 1) * 2 ^ k ≤ d * 2 ^ k := Nat.mul_le_mul_right _ (by omega)
    rw [Nat.add_mul, Nat.one_mul] at this
    have e9 : 2 ^ k * d = d * 2 ^ k := Nat.mul_comm _ _
    omega
  have e : v / 2 ^ (k * i) = d * (x / d * 2 ^ k) + (x % d * 2 ^ k + dg k v i) := by
    rw [h]
    have : 2 ^ k * x = d * (x / d * 2 ^ k) + x % d * 2 ^ k := by
      conv => lhs; rw [← hm]
      grind
    omega
  constructor
  · rw [e, Nat.mul_add_mod]
  · show v / d / 2 ^ (k * i) % 2 ^ k = _
    rw [Nat.div_div_eq_div_mul, Nat.mul_comm d, ← Nat.div_div_eq_div_mul, e, Nat.mul_add_div hd, Nat.add_comm, Nat.mul_comm (x / d) (2 ^ k), Nat.add_mul_mod_self_left]
    exact Nat.mod_eq_of_lt hlt
theorem shrink_l {M : me_M} {w a cap s v d : Nat} {f : Nat → Int32} (hw : me_obj M 5 w = some [.ref a, .int (iZ s)]) (hl : me_int M 0 a = some (cap, f)) (hc : cap < 1000) (hs : s ≤ cap) (hv : v < 2 ^ (31 * s)) (hf : ∀ j, j < s → f j = iZ (dg 31 v j)) (hd : 0 < d) (hd2 : d < 2147483648) :
    ∀ (i : Nat) (g : Nat → Int32), i ≤ s → (∀ j, j < i → g j = f j) → (∀ j, i ≤ j → j < s → g j = iZ (dg 31 (v / d) j)) →
      ∃ (s' : Nat) (g' : Nat → Int32), sm T_X5_shrink (16, [(0, .ref w), (1, .int (iZ d)), (2, .long (lZ ((v / 2 ^ (31 * i) % d : Nat) : Int))), (4, .int (iZ ((i : Int) - 1)))], [], mA M a cap g, 0, 0) = some (some (.int (iZ ((v % d : Nat) : Int))), mW M w a cap g' s') ∧ WS (mW M w a cap g' s') w a cap s' (v / d) g' := by
  have hwl := oi_ne hw hl
  intro i
  induction i with
  | zero =>
    intro g _ hg1 hg2
    have hvd : v / d < 2 ^ (31 * s) := Nat.lt_of_le_of_lt (Nat.div_le_self _ _) hv
    have hW : mA M a cap g = mW M w a cap g s := by
      rw [← mA_W, set_self]
      exact me_obj_eq (by rw [mA_o hwl]; exact hw)
    obtain ⟨s', q1, q2⟩ := trimW (M := M) (w := w) (a := a) (cap := cap) (s := s) (v := v / d) (g := g) hwl.symm hc hs hvd (fun j hj => hg2 j (by omega) hj)
    refine ⟨s', g, ?_, q2⟩
    rw [e_X5_shrink_16, if_pos (by decide), hW]
    simp only [mW_o, bS, q1, cNn, c00, lZ_i, Nat.mul_zero, Nat.pow_zero, Nat.div_one]
  | succ i ih =>
    intro g hi hg1 hg2
    have d1 := dg_31 v i
    have e0 : (((i + 1 : Nat) : Int) - 1) = (i : Int) := by omega
    have hcl := iZ_clampN (n := i) (by omega)
    have hn := iZ_n0 (n := i) (by omega)
    have hdl : (iZ (d : Int)).toInt64 = lZ d := iZ_l (by omega) (by omega)
    have hd0 : ¬ lZ (d : Int) = 0 := by rw [show (0 : Int64) = lZ 0 from rfl, lZ_eq (by omega) (by omega)]; omega
    have hgi : g i = iZ (dg 31 v i) := by rw [hg1 i (by omega), hf i (by omega)]
    obtain ⟨t1, t2⟩ := sh_step (k := 31) (v := v) (i := i) hd
    have hr := Nat.mod_lt (v / 2 ^ (31 * (i + 1))) hd
    generalize hL : v / 2 ^ (31 * (i + 1)) % d = L at t1 t2 hr ⊢
    have hor : lZ ((L : Int) * 2147483648) ||| lZ (dg 31 v i : Int) = lZ ((L * 2 ^ 31 + dg 31 v i : Nat) : Int) := by
      rw [lZ_or 31 (by decide) (by omega) (by exact_mod_cast dg_31 v i) ⟨L, by rw [Int.mul_comm]; rfl⟩]
      rfl
    have hb : L * 2 ^ 31 + dg 31 v i < 9223372036854775808 := by omega
    rw [e0, e_X5_shrink_16, if_neg hn]
    simp only [mA_o hwl, hw, mA_i, bS, g0, vR, hcl, hdl, hgi]
    rw [if_neg (nob hn (by omega)), if_neg hd0, if_neg (nob hn (by omega)), if_neg hd0, iZ_l (by omega) (by omega), lZ_shl31, hor, lZ_div hb hd (by omega), lZ_i, mA_A]
    have hrem := lZ_rem hb hd (show d < 9223372036854775808 by omega)
    rw [lZ_div hb hd (by omega)] at hrem
    rw [hrem, ← t1, ← t2, show iZ (i : Int) + -1 = iZ ((i : Int) - 1) by rw [show (-1 : Int32) = iZ (-1) from rfl, iZ_add]; rfl]
    exact ih (upd g i (iZ (dg 31 (v / d) i))) (by omega) (fun j hj => by rw [upd_n _ _ (by omega)]; exact hg1 j (by omega)) (fun j hj hj2 => by
      by_cases hji : j = i
      · rw [hji, upd_s]
      · rw [upd_n _ _ hji]; exact hg2 j (by omega) hj2)
theorem shrink_s {M : me_M} {w a cap s v d : Nat} {f : Nat → Int32} (h : WS M w a cap s v f) (hd : 0 < d) (hd2 : d < 2147483648) :
    ∃ (s' : Nat) (g' : Nat → Int32), f_X5_shrink [.ref w, .int (iZ d)] M = some (some (.int (iZ ((v % d : Nat) : Int))), mW M w a cap g' s') ∧ WS (mW M w a cap g' s') w a cap s' (v / d) g' := by
  have hs := h.sz
  obtain ⟨ho, ha, hs, hc, ⟨hv, hv2⟩, hf⟩ := h
  have key := shrink_l ho ha hc hs hv hf hd hd2 s f (Nat.le_refl _) (fun j _ => rfl) (fun j h1 h2 => by omega)
  rw [mA_self ha, Nat.div_eq_of_lt hv, Nat.zero_mod] at key
  rw [e_X5_shrink, if_pos (by rw [z_0, iZ_lt (by omega) (by omega)]; omega)]
  simp only [ho, bS, g1, vI, show iZ (s : Int) - 1 = iZ ((s : Int) - 1) by rw [z_1, iZ_sub]]
  exact key
