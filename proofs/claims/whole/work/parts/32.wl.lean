/-! the guess of a quotient's limb -/
/-- a limb as it lies in the array, or 0 outside -/
theorem lZ_c {a b : Int} {M : me_M} (h : a = b) : (some (some (.long (lZ a)), M) : Option sm_R) = some (some (.long (lZ b)), M) := by rw [h]
def Lm (M : me_M) (w : Nat) (i : Int) (e : Nat) : Prop := f_X5_limbOrZero [.ref w, .int (iZ i)] M = some (some (.long (lZ e)), M)
theorem Lm_neg {M : me_M} {w : Nat} {i : Int} (h1 : i < 0) (h2 : -2147483648 ≤ i) : Lm M w i 0 := limbNeg_s h1 h2
theorem Lm_of {M : me_M} {w a cap s v : Nat} {f : Nat → Int32} (h : WS M w a cap s v f) {i : Nat} (hi : i < 2147483648) : Lm M w i (dg 31 v i) := limbOrZero_s h hi
theorem Lm_raw {M : me_M} {w a cap s e i : Nat} {g : Nat → Int32} (ho : me_obj M 5 w = some [.ref a, .int (iZ s)]) (ha : me_int M 0 a = some (cap, g)) (hs : s ≤ cap) (hc : cap < 1000) (hi : i < s) (hg : g i = iZ e) (he : e < 2147483648) : Lm M w i e := by
  have hn := iZ_n0 (n := i) (by omega)
  have hcl := iZ_clampN (n := i) (by omega)
  unfold Lm
  rw [e_X5_limbOrZero]
  simp only [if_neg hn, ho, ha, bS, g0, g1, vI, vR]
  rw [if_neg (fun q => by have := (iZ_le (by omega) (by omega)).mp q; omega), hcl, if_neg (nob hn (by omega)), if_pos (by decide), hg, iZ_l (by omega) (by omega)]
theorem cntS (sh : Nat) : ∀ k : Nat, k < 64 → (((iZ (k : Int)).toInt64 &&& 63).toBitVec.smod 64).toNat = k := by decide +kernel
theorem cntU : ∀ k : Nat, k < 64 → ((iZ (k : Int)).toInt64.toUInt64 &&& Int64.toUInt64 63).toNat % 64 = k := by decide +kernel
def tl (e0 e1 e2 sh : Nat) : Nat := (e0 * 2 ^ (31 + sh) + e1 * 2 ^ sh + e2 / 2 ^ (31 - sh)) % 4611686018427387904
theorem twoLimbs_s {M : me_M} {w e0 e1 e2 sh : Nat} {i : Int} {fs : List Value} (ho : me_obj M 5 w = some fs) (h0 : Lm M w i e0) (h1 : Lm M w (i - 1) e1) (h2 : Lm M w (i - 2) e2) (hsh : sh ≤ 30) (b1 : e1 < 2147483648) (b2 : e2 < 2147483648) :
    f_X5_twoLimbs [.ref w, .int (iZ i), .int (iZ sh)] M = some (some (.long (lZ (tl e0 e1 e2 sh))), M) := by
  unfold Lm at h0 h1 h2
  rw [e_X5_twoLimbs]
  have ei1 : iZ i - 1 = iZ (i - 1) := by rw [z_1, iZ_sub]
  have ei2 : iZ i - 2 = iZ (i - 2) := by rw [z_2, iZ_sub]
  simp only [ho, h0, h1, h2, ei1, ei2, bS, vL, c00]
  have es1 : (31 : Int32) + iZ (sh : Int) = iZ ((31 + sh : Nat) : Int) := by rw [show (31 : Int32) = iZ 31 from rfl, iZ_add]; rfl
  have es2 : (31 : Int32) - iZ (sh : Int) = iZ ((31 - sh : Nat) : Int) := by rw [show (31 : Int32) = iZ 31 from rfl, iZ_sub]; congr 1; omega
  have p1 : (2 : Nat) ^ (31 + sh) = 2147483648 * 2 ^ sh := by rw [Nat.pow_add]
  have hp := Nat.two_pow_pos sh
  have hsmall : e2 / 2 ^ (31 - sh) < 2 ^ sh := by
    rw [Nat.div_lt_iff_lt_mul (Nat.two_pow_pos _), ← Nat.pow_add, show sh + (31 - sh) = 31 by omega]
    exact b2
  have hm1 : e1 * 2 ^ sh + e2 / 2 ^ (31 - sh) < 2 ^ (31 + sh) := by
    have : (e1 + 1) * 2 ^ sh ≤ 2147483648 * 2 ^ sh := Nat.mul_le_mul_right _ (by omega)
    rw [Nat.add_mul, Nat.one_mul] at this
    omega
  rw [es1, es2, lZ_shl _ _ (31 + sh) (by omega) (cntS 0 _ (by omega)), lZ_shl _ _ sh (by omega) (cntS 0 _ (by omega)), lZ_ushr _ _ (31 - sh) (cntU _ (by omega)) (by omega) (by omega)]
  have z0 : (e0 : Int) * 2 ^ (31 + sh) = ((e0 * 2 ^ (31 + sh) : Nat) : Int) := by rw [Int.natCast_mul, Int.natCast_pow]; rfl
  have z1 : (e1 : Int) * 2 ^ sh = ((e1 * 2 ^ sh : Nat) : Int) := by rw [Int.natCast_mul, Int.natCast_pow]; rfl
  have z2 : (e2 : Int) / 2 ^ (31 - sh) = ((e2 / 2 ^ (31 - sh) : Nat) : Int) := by rw [Int.natCast_ediv, Int.natCast_pow]; rfl
  rw [z0, z1, z2, Int64.or_assoc]
  unfold tl
  have dv0 : 2 ^ (31 + sh) ∣ e0 * 2 ^ (31 + sh) := Nat.dvd_mul_left _ _
  have dv1 : 2 ^ sh ∣ e1 * 2 ^ sh := Nat.dvd_mul_left _ _
  generalize e0 * 2 ^ (31 + sh) = A at dv0 ⊢
  generalize e1 * 2 ^ sh = B at dv1 hm1 ⊢
  generalize e2 / 2 ^ (31 - sh) = C at hsmall hm1 ⊢
  rw [lZ_or sh (by omega) (by omega) (by exact_mod_cast hsmall) (by exact_mod_cast dv1), lZ_or (31 + sh) (by omega) (by omega) (by exact_mod_cast hm1) (by exact_mod_cast dv0), lZ_mask _ 62 (by decide) (by decide), show (((2 ^ 62 : Nat)) : Int) = 4611686018427387904 from rfl]
  exact lZ_c (by omega)
theorem freeBits_s {M : me_M} {w a cap s v : Nat} {f : Nat → Int32} (h : WS M w a cap s v f) (h0 : 0 < s) : f_X5_freeBits [.ref w] M = some (some (.int (iZ ((31 - bl (dg 31 v (s - 1)) : Nat) : Int))), M) := by
  have hs := h.sz
  obtain ⟨ho, ha, hs1, hc, hv, hf⟩ := h
  obtain ⟨hb, hp⟩ := hv.bl h0
  have hd := dg_31 v (s - 1)
  have hbl : bl (dg 31 v (s - 1)) ≤ 31 := bl_le_iff.mpr hd
  have e1 : iZ (s : Int) - 1 = iZ ((s - 1 : Nat) : Int) := by rw [z_1, iZ_sub]; congr 1; omega
  have hcl := iZ_clampN (n := s - 1) (by omega)
  have hn := iZ_n0 (n := s - 1) (by omega)
  rw [e_X5_freeBits]
  simp only [ho, ha, bS, g0, g1, vI, vR, c00, e1, hcl]
  rw [if_neg (by rw [z_0, iZ_eq (by omega) (by omega)]; omega), if_neg (nob hn (by omega)), hf (s - 1) (by omega), nlz_s hp hd]
  simp only [bS, vI]
  rw [z_1, iZ_sub]
  exact iZ_c (by omega)
/-- Knuth's guess: high two limbs over one, mended by the next -/
def gs (high low d1 d2 : Nat) : Nat := if high - min (high / d1) 2147483647 * d1 ≤ 2147483647 ∧ (high - min (high / d1) 2147483647 * d1) * 2147483648 + low < min (high / d1) 2147483647 * d2 then min (high / d1) 2147483647 - 1 else min (high / d1) 2147483647
theorem guess_s {M : me_M} {high low d1 d2 : Nat} (hh : high < 4611686018427387904) (hl : low < 2147483648) (h1 : 0 < d1) (h1b : d1 < 2147483648) (h2 : d2 < 2147483648) :
    f_X5_guess [.long (lZ high), .long (lZ low), .long (lZ ((d1 * 2147483648 + d2 : Nat) : Int))] M = some (some (.long (lZ (gs high low d1 d2))), M) := by
  have e1 : ((lZ ((d1 * 2147483648 + d2 : Nat) : Int)).toUInt64 >>> ((31 : Int32).toInt64.toUInt64 &&& Int64.toUInt64 63)).toInt64 = lZ d1 := by
    rw [lZ_ushr31 (by omega) (by omega)]
    congr 1
    omega
  have e2 : lZ ((d1 * 2147483648 + d2 : Nat) : Int) &&& 2147483647 = lZ d2 := by
    rw [lZ_mask _ 31 (by decide) (by decide)]
    congr 1
    omega
  have e3 : lZ (high : Int) / lZ (d1 : Int) = lZ ((high / d1 : Nat) : Int) := lZ_div (by omega) h1 (by omega)
  have hq : high / d1 ≤ high := Nat.div_le_self _ _
  generalize hQ : high / d1 = Q at hq e3
  have e4 : (if (2147483647 : Int64) < lZ (Q : Int) then (2147483647 : Int64) else lZ (Q : Int)) = lZ ((min Q 2147483647 : Nat) : Int) := by
    rw [show (2147483647 : Int64) = lZ 2147483647 from rfl]
    by_cases h : 2147483647 < Q
    · rw [if_pos ((lZ_lt (by omega) (by omega)).mpr (by omega)), Nat.min_eq_right (by omega)]
      rfl
    · rw [if_neg (by rw [lZ_lt (by omega) (by omega)]; omega), Nat.min_eq_left (by omega)]
  have hz : ¬ lg_cmp (lZ (d1 : Int)) 0 = 0 := by
    rw [lgc0, show (0 : Int64) = lZ 0 from rfl, lZ_eq (by omega) (by omega)]
    omega
  have hz2 : ¬ lZ (d1 : Int) = 0 := by
    rw [show (0 : Int64) = lZ 0 from rfl, lZ_eq (by omega) (by omega)]
    omega
  rw [e_X5_guess]
  simp only [e1, e2, e3, e4, c00]
  rw [if_neg hz, if_neg hz2]
  unfold gs
  have hm1 : min Q 2147483647 ≤ Q := Nat.min_le_left _ _
  have hm2 : min Q 2147483647 ≤ 2147483647 := Nat.min_le_right _ _
  have hmul : min Q 2147483647 * d1 ≤ high := Nat.le_trans (Nat.mul_le_mul_right d1 hm1) (by rw [← hQ]; exact Nat.div_mul_le_self _ _)
  have hmul2 : min Q 2147483647 * d2 ≤ 2147483647 * 2147483647 := Nat.mul_le_mul hm2 (by omega)
  rw [hQ]
  generalize min Q 2147483647 = D at hm1 hm2 hmul hmul2 ⊢
  have e5 : lZ (high : Int) - lZ (D : Int) * lZ (d1 : Int) = lZ ((high - D * d1 : Nat) : Int) := by
    rw [lZ_mul, lZ_sub]
    congr 1
    rw [Int.ofNat_sub hmul, Int.natCast_mul]
  have e6 : lZ (D : Int) * lZ (d2 : Int) = lZ ((D * d2 : Nat) : Int) := by
    rw [lZ_mul, Int.natCast_mul]
  rw [e5, e6]
  have hL : high - D * d1 < 4611686018427387904 := by omega
  generalize high - D * d1 = L at hL ⊢
  generalize hE : D * d2 = E at hmul2 ⊢
  rw [show (2147483647 : Int64) = lZ 2147483647 from rfl]
  by_cases h : 2147483647 < L
  · rw [if_pos (by rw [lc_lt (by omega) (by omega), if_pos (by omega)]; decide), if_neg (fun q => by omega)]
  · have e7 : lZ (L : Int) <<< ((31 : Int32).toInt64 &&& 63) ||| lZ (low : Int) = lZ ((L * 2147483648 + low : Nat) : Int) := by
      rw [lZ_shl31, lZ_or 31 (by decide) (by omega) (by omega) ⟨L, by omega⟩]
      rfl
    have h8 : ¬ 0 < lg_cmp (lZ (L : Int)) (lZ 2147483647) := by
      rw [lc_lt (by omega) (by omega), if_neg (by omega)]
      by_cases h9 : (L : Int) = 2147483647
      · rw [if_pos h9]; decide
      · rw [if_neg h9]; decide
    rw [if_neg h8, e7]
    by_cases h5 : L * 2147483648 + low < E
    · rw [if_neg (by rw [lc_lt (by omega) (by omega), if_pos (by omega)]; decide), if_pos ⟨by omega, h5⟩, show (1 : Int64) = lZ 1 from rfl, lZ_sub]
      have : 0 < D := by
        apply Nat.pos_of_ne_zero
        intro hD
        rw [hD, Nat.zero_mul] at hE
        omega
      exact lZ_c (by omega)
    · have h10 : lg_cmp (lZ (E : Int)) (lZ ((L * 2147483648 + low : Nat) : Int)) ≤ 0 := by
        rw [lc_lt (by omega) (by omega), if_neg (by omega)]
        by_cases h9 : (E : Int) = ((L * 2147483648 + low : Nat) : Int)
        · rw [if_pos h9]; decide
        · rw [if_neg h9]; decide
      rw [if_pos h10, if_neg (fun q => h5 q.2)]
