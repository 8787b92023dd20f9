/-! what changes but a Whole and its limbs -/
def Fr (M M' : me_M) (w : Nat) : Prop := M'.1 = M.1 ∧ ∀ p, p ≠ w → p ≠ w + 1 → M'.2 p = M.2 p
theorem Fr_W (M : me_M) (w cap : Nat) (g : Nat → Int32) (s : Nat) : Fr M (mW M w (w + 1) cap g s) w := ⟨rfl, fun _ h1 h2 => mW_ne _ _ _ _ h1 h2⟩
theorem one_0 (v : Nat) : (dg 31 1 0 : Int) + ca 31 1 1 v 1 0 = 1 := by rw [ca_0]; rfl
theorem dg_1 (i : Nat) : dg 31 1 (i + 1) = 0 := dg_zero (Nat.lt_of_lt_of_le (show 1 < 2 ^ (31 * 1) by decide) (pw_le 31 (by omega)))
theorem one_s (v i : Nat) : (dg 31 1 (i + 1) : Int) + ca 31 1 1 v 1 (i + 1) = ((dg 31 v i : Int) + ((dg 31 1 i : Int) + ca 31 1 1 v 1 i)) / 2147483648 := by
  rw [dg_1, ca_s, show ((2 ^ 31 : Nat) : Int) = 2147483648 from rfl]
  omega
theorem one_d (v i : Nat) : (dg 31 (v + 1) i : Int) = ((dg 31 v i : Int) + ((dg 31 1 i : Int) + ca 31 1 1 v 1 i)) % 2147483648 := by
  rw [← ca_dg (k := 31) (p := 1) (q := 1) (U := v) (V := 1) (Z := v + 1) (by omega) i, show ((2 ^ 31 : Nat) : Int) = 2147483648 from rfl]
  congr 1
  omega
theorem addOne_l {M : me_M} {w cap s v : Nat} {f : Nat → Int32} (h : WS M w (w + 1) cap s v f) (hs : s < cap) :
    ∀ (n i : Nat) (g : Nat → Int32), i + n = s → (∀ j, j < i → g j = iZ (dg 31 (v + 1) j)) → (∀ j, i ≤ j → g j = f j) → (dg 31 1 i : Int) + ca 31 1 1 v 1 i = 1 →
      ∃ M' : me_M, sm T_X5_addOne (2, [(0, .ref w), (1, .int (iZ i))], [], mA M (w + 1) cap g, 0, 0) = some (none, M') ∧ Wh M' w cap (v + 1) ∧ Fr M M' w := by
  have hsz := h.sz
  obtain ⟨ho, ha, hs1, hc, hv, hf⟩ := h
  have hwl := oi_ne ho ha
  intro n
  induction n with
  | zero =>
    intro i g hi hg1 hg2 hcc
    have his : i = s := by omega
    subst his
    have hcl := iZ_clampN (n := i) (by omega)
    have hn0 := iZ_n0 (n := i) (by omega)
    have hd := one_d v i
    rw [hcc, dg_zero hv.1] at hd
    have hd : dg 31 (v + 1) i = 1 := by omega
    have hvb : v + 1 = 2 ^ (31 * i) := by
      have h1 := dg_ge (k := 31) (v := v + 1) (s := i) (by omega)
      have := hv.1
      omega
    rw [e_X5_addOne_2]
    simp only [mA_o hwl, ho, bS, g1, vI]
    rw [if_pos ((iZ_le (by omega) (by omega)).mpr (by omega)), e_X5_addOne_34]
    simp only [mA_o hwl, ho, bS, g0, g1, vI, vR, mA_i, hcl]
    rw [if_pos trivial, if_neg (nob hn0 (by omega)), mA_A, mA_o hwl, ho]
    simp only [bS, g1, vI, l2, s21]
    rw [z_p1, e_X5_addOne_59, mA_W, mW_o]
    simp only [bS, g0, vR, mW_i M cap _ _ (Ne.symm hwl), hcl]
    rw [if_neg (nob hn0 (by omega)), if_neg (nob hn0 (by omega)), c00]
    refine ⟨_, rfl, ?_, ?_⟩
    · refine ⟨i + 1, upd (upd g i 0) i (iZ 1), ?_, ?_, by omega, hc, ⟨?_, Or.inr ?_⟩, fun j hj => ?_⟩
      · rw [mo_ne _ _ _ _ _ hwl, mW_o]
      · rw [upd_s, mi_set]; rfl
      · rw [hvb]; exact Nat.pow_lt_pow_right (by decide) (by omega)
      · rw [hvb]; exact Nat.le_refl _
      · by_cases hji : j = i
        · rw [hji, upd_s, hd]; rfl
        · rw [upd_n _ _ hji, upd_n _ _ hji]; exact hg1 j (by omega)
    · refine ⟨rfl, fun p h1 h2 => ?_⟩
      rw [set_ne h2, mW_ne _ _ _ _ h1 h2]
  | succ n ih =>
    intro i g hi hg1 hg2 hcc
    have hcl := iZ_clampN (n := i) (by omega)
    have hn0 := iZ_n0 (n := i) (by omega)
    have hgi : g i = iZ (dg 31 v i) := by rw [hg2 i (Nat.le_refl _)]; exact hf i (by omega)
    have d1 := dg_31 v i
    have hd := one_d v i
    have hs' := one_s v i
    rw [hcc] at hd hs'
    rw [e_X5_addOne_2]
    simp only [mA_o hwl, ho, bS, g0, g1, vI, vR, mA_i, hcl]
    rw [if_neg (by rw [iZ_le (by omega) (by omega)]; omega), if_neg (nob hn0 (by omega))]
    by_cases hm : dg 31 v i = 2147483647
    · rw [if_pos (by rw [hgi, hm]; rfl), if_neg (nob hn0 (by omega)), mA_A, z_p1]
      refine ih (i + 1) (upd g i 0) (by omega) (fun j hj => ?_) (fun j hj => ?_) ?_
      · by_cases hji : j = i
        · have : dg 31 (v + 1) i = 0 := by omega
          rw [hji, upd_s, this]; rfl
        · rw [upd_n _ _ hji]; exact hg1 j (by omega)
      · rw [upd_n _ _ (by omega)]; exact hg2 j (by omega)
      · rw [hs', hm]; rfl
    · rw [if_neg (by rw [hgi, show (2147483647 : Int32) = iZ 2147483647 from rfl, iZ_eq (by omega) (by omega)]; omega), e_X5_addOne_34]
      simp only [mA_o hwl, ho, bS, g1, vI]
      rw [if_neg (by rw [iZ_eq (by omega) (by omega)]; omega), e_X5_addOne_59]
      simp only [mA_o hwl, ho, bS, g0, vR, mA_i, hcl]
      rw [if_neg (nob hn0 (by omega)), if_neg (nob hn0 (by omega)), c00, mA_A, hgi, z_p1]
      have hz : ∀ k, (dg 31 1 (i + 1 + k) : Int) + ca 31 1 1 v 1 (i + 1 + k) = 0 := by
        intro k
        induction k with
        | zero => rw [Nat.add_zero, hs']; omega
        | succ k ihk =>
          have := one_s v (i + 1 + k)
          have d2 := dg_31 v (i + 1 + k)
          rw [ihk] at this
          rw [← Nat.add_assoc, this]
          omega
      have hvs : v + 1 < 2 ^ (31 * s) := by
        have h0 := hz (s - (i + 1))
        rw [show i + 1 + (s - (i + 1)) = s by omega] at h0
        have h1 : dg 31 1 s = 0 := by
          have := dg_1 (s - 1)
          rw [show s - 1 + 1 = s by omega] at this
          exact this
        have h2 := ca_top (k := 31) (p := 1) (q := 1) (U := v) (V := 1) (Z := v + 1) (n := s) (by omega) hv.1 (Nat.lt_of_lt_of_le (show 1 < 2 ^ (31 * 1) by decide) (pw_le 31 (by omega)))
        rw [h1, h2] at h0
        have h3 : (v + 1) / 2 ^ (31 * s) = 0 := by omega
        rcases Nat.div_eq_zero_iff.mp h3 with h4 | h4
        · have := Nat.two_pow_pos (31 * s); omega
        · exact h4
      refine ⟨_, rfl, ⟨s, upd g i (iZ ((dg 31 v i + 1 : Nat) : Int)), ?_, mA_i _ _ _ _, hs1, hc, ⟨hvs, ?_⟩, fun j hj => ?_⟩, rfl, fun p _ h2 => set_ne h2⟩
      · rw [mA_o hwl, ho]
      · rcases hv.2 with h5 | h5
        · exact Or.inl h5
        · exact Or.inr (by omega)
      · by_cases hji : j = i
        · have : dg 31 (v + 1) i = dg 31 v i + 1 := by omega
          rw [hji, upd_s, this]
        · rw [upd_n _ _ hji]
          by_cases hlt : j < i
          · exact hg1 j hlt
          · rw [hg2 j (by omega), hf j hj]
            have h6 := one_d v j
            have h7 := hz (j - (i + 1))
            rw [show i + 1 + (j - (i + 1)) = j by omega] at h7
            have d3 := dg_31 v j
            rw [h7] at h6
            have : dg 31 (v + 1) j = dg 31 v j := by omega
            rw [this]
theorem addOne_s {M : me_M} {w cap v m : Nat} (h : Wh M w cap v) (hv : v < 2 ^ (31 * m)) (hm : m < cap) : ∃ M' : me_M, f_X5_addOne [.ref w] M = some (none, M') ∧ Wh M' w cap (v + 1) ∧ Fr M M' w := by
  obtain ⟨s, f, h⟩ := h
  have hsm : s ≤ m := h.2.2.2.2.1.le hv
  have key := addOne_l h (by omega) s 0 f (by omega) (fun j hj => by omega) (fun j _ => rfl) (one_0 v)
  rw [mA_self h.2.1] at key
  rw [e_X5_addOne]
  exact key
theorem iZ_mod {a b : Int} (h : a % 4294967296 = b % 4294967296) : iZ a = iZ b := by
  apply Int32.toBitVec_inj.mp
  apply BitVec.eq_of_toNat_eq
  rw [iZ_bits, iZ_bits, h]
theorem word_s {M : me_M} {w cap v k : Nat} (h : Wh M w cap v) (hk : k ≤ 30) : f_X5_word [.ref w, .int (iZ k)] M = some (some (.int (iZ ((v / 2 ^ (32 * k) % 4294967296 : Nat) : Int))), M) := by
  obtain ⟨s, f, h⟩ := h
  have e1 : (32 : Int32) * iZ (k : Int) / 31 = iZ (k : Int) := by
    have : ∀ j : Fin 31, (32 : Int32) * iZ (j.val : Int) / 31 = iZ (j.val : Int) := by decide +kernel
    exact this ⟨k, by omega⟩
  have e2 : (32 : Int32) * iZ (k : Int) - iZ (k : Int) * 31 = iZ (k : Int) := by
    rw [show (32 : Int32) = iZ 32 from rfl, show (31 : Int32) = iZ 31 from rfl, iZ_mul, iZ_mul, iZ_sub]
    congr 1
    omega
  have e3 : (31 : Int32) - iZ (k : Int) = iZ ((31 - k : Nat) : Int) := by
    rw [show (31 : Int32) = iZ 31 from rfl, iZ_sub]
    congr 1
    omega
  have b1 := dg_31 v k
  have b2 := dg_31 v (k + 1)
  rw [e_X5_word, if_neg (by decide), if_neg (by decide)]
  simp only [h.1, bS, e1, z_p1, limbOrZero_s h (show k < 2147483648 by omega), limbOrZero_s h (show k + 1 < 2147483648 by omega), vL, e2, e3, c00]
  rw [lZ_ushr _ _ k (cntU _ (by omega)) (by omega) (by omega), lZ_shl _ _ (31 - k) (by omega) (cntS 0 _ (by omega))]
  have hp := Nat.two_pow_pos k
  have z1 : ((dg 31 v k : Nat) : Int) / 2 ^ k = ((dg 31 v k / 2 ^ k : Nat) : Int) := by rw [Int.natCast_ediv, Int.natCast_pow]; rfl
  have z2 : ((dg 31 v (k + 1) : Nat) : Int) * 2 ^ (31 - k) = ((dg 31 v (k + 1) * 2 ^ (31 - k) : Nat) : Int) := by rw [Int.natCast_mul, Int.natCast_pow]; rfl
  have hlt : dg 31 v k / 2 ^ k < 2 ^ (31 - k) := by
    rw [Nat.div_lt_iff_lt_mul hp, ← Nat.pow_add, show 31 - k + k = 31 by omega]
    exact b1
  rw [z1, z2, lZ_or' (31 - k) (by omega) (Int.natCast_nonneg _) (by exact_mod_cast hlt) (by exact_mod_cast Nat.dvd_mul_left _ _), lZ_i]
  have key : (dg 31 v k / 2 ^ k + dg 31 v (k + 1) * 2 ^ (31 - k)) % 4294967296 = v / 2 ^ (32 * k) % 4294967296 := by
    have h1 := dv_s 31 v k
    have h2 := dv_s 31 v (k + 1)
    have e4 : v / 2 ^ (32 * k) = v / 2 ^ (31 * k) / 2 ^ k := by
      rw [Nat.div_div_eq_div_mul, ← Nat.pow_add]
      congr 2
      omega
    have e5 : (2 : Nat) ^ 31 = 2 ^ k * 2 ^ (31 - k) := by rw [← Nat.pow_add]; congr 1; omega
    have e6 : (2 : Nat) ^ (31 - k) * 2 ^ 31 = 4294967296 * 2 ^ (30 - k) := by
      rw [show (4294967296 : Nat) = 2 ^ 32 from by decide, ← Nat.pow_add, ← Nat.pow_add]
      congr 1
      omega
    rw [e4, h1, e5, Nat.mul_assoc, Nat.mul_add_div hp, h2, Nat.mul_add, ← Nat.mul_assoc, e6, Nat.mul_assoc, Nat.add_assoc, Nat.mul_add_mod, Nat.mul_comm (2 ^ (31 - k)), Nat.add_comm]
  have : (iZ (((dg 31 v k / 2 ^ k : Nat) : Int) + ((dg 31 v (k + 1) * 2 ^ (31 - k) : Nat) : Int))) = iZ ((v / 2 ^ (32 * k) % 4294967296 : Nat) : Int) := by
    apply iZ_mod
    rw [← Int.natCast_add]
    omega
  rw [this]
