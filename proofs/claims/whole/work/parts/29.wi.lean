/-! how many bits -/
def bl (v : Nat) : Nat := if v = 0 then 0 else v.log2 + 1
theorem bl_lt (v : Nat) : v < 2 ^ bl v := by
  unfold bl
  by_cases h : v = 0
  · subst h; decide
  · rw [if_neg h]; exact Nat.lt_log2_self
theorem bl_le {v : Nat} (h : v ≠ 0) : 2 ^ (bl v - 1) ≤ v := by
  unfold bl
  rw [if_neg h]
  exact Nat.log2_self_le h
theorem bl_pos {v : Nat} (h : v ≠ 0) : 0 < bl v := by unfold bl; rw [if_neg h]; omega
theorem bl_0 : bl 0 = 0 := rfl
theorem bl_le_iff {v n : Nat} : bl v ≤ n ↔ v < 2 ^ n := by
  constructor
  · intro h
    exact Nat.lt_of_lt_of_le (bl_lt v) (Nat.pow_le_pow_right (by decide) h)
  · intro h
    by_cases h0 : v = 0
    · subst h0; exact Nat.zero_le _
    · apply Nat.le_of_not_lt
      intro h2
      have h3 := bl_le h0
      have : 2 ^ n ≤ 2 ^ (bl v - 1) := Nat.pow_le_pow_right (by decide) (by omega)
      omega
theorem bl_of {v n : Nat} (h1 : v < 2 ^ n) (h2 : n = 0 ∨ 2 ^ (n - 1) ≤ v) : bl v = n := by
  have h3 := bl_le_iff.mpr h1
  rcases h2 with h2 | h2
  · omega
  · apply Nat.le_antisymm h3
    apply Nat.le_of_not_lt
    intro h4
    have := bl_lt v
    have : 2 ^ bl v ≤ 2 ^ (n - 1) := Nat.pow_le_pow_right (by decide) (by omega)
    omega
theorem bl_div {v k : Nat} (h : 2 ^ k ≤ v) : bl (v / 2 ^ k) + k = bl v := by
  have h0 : v ≠ 0 := by have := Nat.two_pow_pos k; omega
  have h1 := bl_lt v
  have h2 := bl_le h0
  have hk : k < bl v := by
    apply Nat.lt_of_not_le
    intro h3
    have := bl_le_iff.mp h3
    omega
  have h4 : bl (v / 2 ^ k) = bl v - k := by
    apply bl_of
    · rw [Nat.div_lt_iff_lt_mul (Nat.two_pow_pos _), ← Nat.pow_add, show bl v - k + k = bl v by omega]
      exact h1
    · right
      rw [Nat.le_div_iff_mul_le (Nat.two_pow_pos _), ← Nat.pow_add, show bl v - k - 1 + k = bl v - 1 by omega]
      exact h2
  omega
theorem iZ_c {a b : Int} {M : me_M} (h : a = b) : (some (some (.int (iZ a)), M) : Option sm_R) = some (some (.int (iZ b)), M) := by rw [h]
theorem iZ_ushr {x : Nat} (hx : x < 4294967296) (s : Int32) (k : Nat) (hs : ((s.toUInt32 &&& Int32.toUInt32 31).toBitVec % 32).toNat = k) : ((iZ (x : Int)).toUInt32 >>> (s.toUInt32 &&& Int32.toUInt32 31)).toInt32 = iZ ((x / 2 ^ k : Nat) : Int) := by
  rw [← nI_iZ, ← nI_iZ]; exact pk_ushrN hx s k hs
theorem bl_small : ∀ x : Fin 4, 0 < x.val → bl x.val = x.val / 2 + 1 := by decide +kernel
theorem nlz73 {x : Nat} {m : Int} {M : me_M} (h0 : 0 < x) (h : x < 4) : sm T_J6_numberOfLeadingZeros_0f7a4 (73, [(0, .int (iZ x)), (1, .int (iZ m))], [], M, 0, 0) = some (some (.int (iZ (m + 1 - bl x))), M) := by
  have hb := bl_small ⟨x, h⟩ h0
  simp only at hb
  rw [e_J6_numberOfLeadingZeros_0f7a4_73, c00, iZ_ushr (by omega) 1 1 (by decide), iZ_sub, hb]
  exact iZ_c (by omega)
theorem nlz61 {x : Nat} {m : Int} {M : me_M} (h0 : 0 < x) (h : x < 16) : sm T_J6_numberOfLeadingZeros_0f7a4 (61, [(0, .int (iZ x)), (1, .int (iZ m))], [], M, 0, 0) = some (some (.int (iZ (m + 1 - bl x))), M) := by
  rw [e_J6_numberOfLeadingZeros_0f7a4_61, show (4 : Int32) = iZ 4 from rfl]
  by_cases hx : x < 4
  · rw [if_pos ((iZ_lt (by omega) (by omega)).mpr (by omega))]
    exact nlz73 h0 hx
  · have hb := bl_div (v := x) (k := 2) (by omega)
    rw [if_neg (by rw [iZ_lt (by omega) (by omega)]; omega), iZ_ushr (by omega) 2 2 (by decide), show (-2 : Int32) = iZ (-2) from rfl, iZ_add, nlz73 (by omega) (by omega)]
    exact iZ_c (by omega)
theorem nlz48 {x : Nat} {m : Int} {M : me_M} (h0 : 0 < x) (h : x < 256) : sm T_J6_numberOfLeadingZeros_0f7a4 (48, [(0, .int (iZ x)), (1, .int (iZ m))], [], M, 0, 0) = some (some (.int (iZ (m + 1 - bl x))), M) := by
  rw [e_J6_numberOfLeadingZeros_0f7a4_48, show (16 : Int32) = iZ 16 from rfl]
  by_cases hx : x < 16
  · rw [if_pos ((iZ_lt (by omega) (by omega)).mpr (by omega))]
    exact nlz61 h0 hx
  · have hb := bl_div (v := x) (k := 4) (by omega)
    rw [if_neg (by rw [iZ_lt (by omega) (by omega)]; omega), iZ_ushr (by omega) 4 4 (by decide), show (-4 : Int32) = iZ (-4) from rfl, iZ_add, nlz61 (by omega) (by omega)]
    exact iZ_c (by omega)
theorem nlz33 {x : Nat} {m : Int} {M : me_M} (h0 : 0 < x) (h : x < 65536) : sm T_J6_numberOfLeadingZeros_0f7a4 (33, [(0, .int (iZ x)), (1, .int (iZ m))], [], M, 0, 0) = some (some (.int (iZ (m + 1 - bl x))), M) := by
  rw [e_J6_numberOfLeadingZeros_0f7a4_33, show (256 : Int32) = iZ 256 from rfl]
  by_cases hx : x < 256
  · rw [if_pos ((iZ_lt (by omega) (by omega)).mpr (by omega))]
    exact nlz48 h0 hx
  · have hb := bl_div (v := x) (k := 8) (by omega)
    rw [if_neg (by rw [iZ_lt (by omega) (by omega)]; omega), iZ_ushr (by omega) 8 8 (by decide), show (-8 : Int32) = iZ (-8) from rfl, iZ_add, nlz48 (by omega) (by omega)]
    exact iZ_c (by omega)
theorem nlz_s {x : Nat} {M : me_M} (h0 : 0 < x) (h : x < 2147483648) : f_J6_numberOfLeadingZeros_0f7a4 [.int (iZ x)] M = some (some (.int (iZ (32 - bl x))), M) := by
  rw [e_J6_numberOfLeadingZeros_0f7a4, if_pos (by rw [z_0, iZ_lt (by omega) (by omega)]; omega), show (65536 : Int32) = iZ 65536 from rfl]
  by_cases hx : x < 65536
  · rw [if_pos ((iZ_lt (by omega) (by omega)).mpr (by omega)), show Value.int (31 : Int32) = .int (iZ 31) from rfl, nlz33 h0 hx]
    exact iZ_c (by omega)
  · have hb := bl_div (v := x) (k := 16) (by omega)
    rw [if_neg (by rw [iZ_lt (by omega) (by omega)]; omega), iZ_ushr (by omega) 16 16 (by decide), show (31 : Int32) + (-16) = iZ 15 from rfl, nlz33 (by omega) (by omega)]
    exact iZ_c (by omega)
/-- bits by the highest limb -/
theorem Sz.bl {v s : Nat} (h : Sz 31 v s) (hs : 0 < s) : bl v = 31 * (s - 1) + bl (dg 31 v (s - 1)) ∧ 0 < dg 31 v (s - 1) := by
  obtain ⟨h1, h2⟩ := h
  have h2 : 2 ^ (31 * (s - 1)) ≤ v := by
    rcases h2 with h2 | h2
    · omega
    · exact h2
  have hb := bl_div h2
  have e : dg 31 v (s - 1) = v / 2 ^ (31 * (s - 1)) := by
    unfold dg
    refine Nat.mod_eq_of_lt ?_
    rw [Nat.div_lt_iff_lt_mul (Nat.two_pow_pos _), ← Nat.pow_add, show 31 + 31 * (s - 1) = 31 * s by omega]
    exact h1
  rw [e]
  refine ⟨by omega, ?_⟩
  exact (Nat.le_div_iff_mul_le (Nat.two_pow_pos _)).mpr (by omega)
theorem Sz.z {v : Nat} (h : Sz 31 v 0) : v = 0 := by
  have := h.1
  simp at this
  exact this
theorem length_s {M : me_M} {w a cap s v : Nat} {f : Nat → Int32} (h : WS M w a cap s v f) : f_X5_length [.ref w] M = some (some (.int (iZ (bl v))), M) := by
  have hs := h.sz
  obtain ⟨ho, ha, hs1, hc, hv, hf⟩ := h
  rw [e_X5_length]
  simp only [ho, ha, bS, g0, g1, vI, vR, c00]
  by_cases h0 : s = 0
  · subst h0
    rw [if_pos (by rfl), hv.z]
    rfl
  · obtain ⟨hb, hp⟩ := hv.bl (by omega)
    have hd := dg_31 v (s - 1)
    have e1 : iZ (s : Int) - 1 = iZ ((s - 1 : Nat) : Int) := by rw [z_1, iZ_sub]; congr 1; omega
    have hcl := iZ_clampN (n := s - 1) (by omega)
    have hn := iZ_n0 (n := s - 1) (by omega)
    rw [if_neg (by rw [z_0, iZ_eq (by omega) (by omega)]; omega), e1, hcl, if_neg (nob hn (by omega)), hf (s - 1) (by omega), nlz_s hp hd]
    simp only [bS, vI]
    rw [show (31 : Int32) = iZ 31 from rfl, z_1, iZ_mul, iZ_add, iZ_sub, hb]
    exact iZ_c (by omega)
