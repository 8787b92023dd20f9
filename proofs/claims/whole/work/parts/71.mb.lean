theorem lZ_shl16 (z : Int) : lZ z <<< ((16 : Int32).toInt64 &&& 63) = lZ (z * 65536) := lZ_shl z _ 16 (by decide) (by decide)
theorem lowM_l {M : me_M} {B x v : Nat} {rf nf : Nat → Int32} (h : Lo M B rf nf) (hx : x < 19) (hR : RX rf nf x v) : ∀ (k : Nat), k ≤ 4 →
    sm T_X7_lowest (5, [(0, .ref B), (1, .int (iZ x)), (2, .long (lZ ((v / 2 ^ (16 * k) : Nat) : Int))), (4, .int (iZ ((k : Int) - 1)))], [], M, 0, 0) = some (some (.long (lZ v)), M) := by
  intro k
  induction k with
  | zero =>
    intro _
    rw [e_X7_lowest_5, if_pos (by decide), c00, Nat.mul_zero, Nat.pow_zero, Nat.div_one]
  | succ k ih =>
    intro hk
    have e0 : ((k + 1 : Nat) : Int) - 1 = (k : Int) := by omega
    have e2 : iZ (k : Int) + -1 = iZ ((k : Int) - 1) := by rw [show (-1 : Int32) = iZ (-1) from rfl, iZ_add]; congr 1
    have d16 := dg_16 v k
    rw [e0, e_X7_lowest_5, if_neg (iZ_n0 (by omega)), h.i0, at_g h hx hR (by omega)]
    simp only [bS, vI, e2]
    have e16 : ((2 ^ 16 : Nat) : Int) = 65536 := by decide
    rw [lZ_shl16, iZ_l (by omega) (by omega), lZ_or (a := ((dg 16 v k : Nat) : Int)) (b := ((v / 2 ^ (16 * (k + 1)) : Nat) : Int) * 65536) 16 (by decide) (by omega) (by rw [e16]; omega) ⟨_, Int.mul_comm _ _⟩]
    have e3 : ((v / 2 ^ (16 * (k + 1)) : Nat) : Int) * 65536 + ((dg 16 v k : Nat) : Int) = ((v / 2 ^ (16 * k) : Nat) : Int) := by
      have := dv_s 16 v k
      have e4 : (2 : Nat) ^ 16 = 65536 := by decide
      rw [e4] at this
      omega
    rw [e3]
    exact ih (by omega)
/-- the low 64 bits -/
theorem low_g {M : me_M} {B x : Nat} {reg : Nat → Nat} (h : RG M B reg) (hx : x < 19) (hv : reg x < 18446744073709551616) : f_X7_lowest [.ref B, .int (iZ x)] M = some (some (.long (lZ (reg x))), M) := by
  obtain ⟨rf, nf, h, hR⟩ := h
  have e := lowM_l h hx (hR x hx) 4 (Nat.le_refl _)
  rw [Nat.div_eq_of_lt (show reg x < 2 ^ (16 * 4) by rw [show 2 ^ (16 * 4) = 18446744073709551616 by decide]; exact hv)] at e
  rw [e_X7_lowest]
  exact e
theorem copyM_l {M : me_M} {B x y v s : Nat} {rf nf : Nat → Int32} {reg : Nat → Nat} (h : Lo M B rf nf) (hR : ∀ y, y < 19 → RX rf nf y (reg y)) (hx : x < 19) (hy : y < 19) (hxy : x ≠ y) (hs : nf y = iZ s) (hs2 : s ≤ 160) (hz : Sz 16 v s) (hf : ∀ j, j < s → rf (160 * y + j) = iZ (dg 16 v j)) : ∀ (d k : Nat) (g : Nat → Int32), d + k = s → Ot g rf x → (∀ j, j < k → g (160 * x + j) = iZ (dg 16 v j)) →
    ∃ M' : me_M, sm T_X7_copy (2, [(0, .ref B), (1, .int (iZ x)), (2, .int (iZ y)), (3, .int (iZ k))], [], mA M (B + 1) 3040 g, 0, 0) = some (none, M') ∧ RG M' B (up reg x v) ∧ FM M M' B := by
  intro d
  induction d with
  | zero =>
    intro k g hd hO hg
    have e : k = s := by omega
    subst e
    obtain ⟨⟨t, tl, h0⟩, h1, h2⟩ := h.a g
    obtain ⟨P, F⟩ := RG.up h hR hO hs2 hz hg
    refine ⟨_, ?_, P, F⟩
    rw [e_X7_copy_2]
    simp only [h0, bS, g2, vF, h2]
    rw [iZ_clampN (by omega : y < 2147483648), if_neg (nob (iZ_n0 (by omega)) (by omega))]
    simp only [hs]
    rw [if_pos (by rw [iZ_le (by omega) (by omega)]; omega), if_neg (nob (iZ_n0 (by omega)) (by omega)), iZ_clampN (by omega : x < 2147483648), if_neg (nob (iZ_n0 (by omega)) (by omega)), c00]
  | succ d ih =>
    intro k g hd hO hg
    obtain ⟨⟨t, tl, h0⟩, h1, h2⟩ := h.a g
    have eM : ∀ z, me_set (mA M (B + 1) 3040 g) (B + 1) (.inl (0, 3040, .inl z)) = mA M (B + 1) 3040 z := fun z => set_set _ _ _ _
    rw [e_X7_copy_2]
    simp only [h0, bS, g1, g2, vF, h1, h2, ix16, eM, z_p1]
    rw [iZ_clampN (by omega : y < 2147483648), if_neg (nob (iZ_n0 (by omega)) (by omega))]
    simp only [hs]
    rw [if_neg (by rw [iZ_le (by omega) (by omega)]; omega), iZ_clampN (by omega : 160 * y + k < 2147483648), iZ_clampN (by omega : 160 * x + k < 2147483648), if_neg (nob (iZ_n0 (by omega)) (by omega)), if_neg (nob (iZ_n0 (by omega)) (by omega)), hO (160 * y + k) (by omega), hf k (by omega)]
    refine ih (k + 1) _ (by omega) (hO.upd (by omega)) (fun j hj => ?_)
    by_cases e : j = k
    · subst e; rw [upd_s]
    · rw [upd_n _ _ (by omega)]; exact hg j (by omega)
theorem copy_g {M : me_M} {B x y : Nat} {reg : Nat → Nat} (h : RG M B reg) (hx : x < 19) (hy : y < 19) (hxy : x ≠ y) : ∃ M' : me_M, f_X7_copy [.ref B, .int (iZ x), .int (iZ y)] M = some (none, M') ∧ RG M' B (up reg x (reg y)) ∧ FM M M' B := by
  obtain ⟨rf, nf, h, hR⟩ := h
  obtain ⟨s, a, b, c, d⟩ := hR y hy
  obtain ⟨M', f, P, F⟩ := copyM_l h hR hx hy hxy a b c d s 0 rf (by omega) (Ot.refl _ _) (fun j hj => absurd hj (by omega))
  refine ⟨M', ?_, P, F⟩
  rw [mA_self h.2.1] at f
  rw [e_X7_copy]
  exact f
theorem iZ_shr {x : Nat} (hx : x < 2147483648) (s : Int32) (k : Nat) (hs : (s.toBitVec.smod 32).toNat = k) : iZ (x : Int) >>> s = iZ ((x / 2 ^ k : Nat) : Int) := by
  rw [← nI_iZ, ← nI_iZ]; exact pk_shrN hx s k hs
theorem bl_half {v : Nat} (h : v ≠ 0) : bl v = bl (v / 2) + 1 := by
  by_cases h1 : v = 1
  · subst h1; rfl
  · have := bl_div (v := v) (k := 1) (by rw [Nat.pow_one]; omega)
    rw [Nat.pow_one] at this
    exact this.symm
theorem bits_40 {M : me_M} : ∀ (v b : Nat), v < 65536 → sm T_X7_bits (40, [(2, .int (iZ b)), (3, .int (iZ v))], [], M, 0, 0) = some (some (.int (iZ ((b + bl v : Nat) : Int))), M) := by
  intro v
  induction v using Nat.strongRecOn with
  | _ v ih =>
    intro b hv
    rw [e_X7_bits_40]
    by_cases h : v = 0
    · rw [if_pos (by rw [h]; decide), c00, h, bl_0]; rfl
    · rw [if_neg (by rw [z_0, iZ_le (by omega) (by omega)]; omega), iZ_shr (by omega) _ 1 (by decide), Nat.pow_one, z_p1, ih (v / 2) (by omega) (b + 1) (by omega), bl_half h, show b + 1 + bl (v / 2) = b + (bl (v / 2) + 1) by omega]
theorem sz_bl16 {v s : Nat} (h : Sz 16 v s) (hs : 0 < s) : bl v = 16 * (s - 1) + bl (dg 16 v (s - 1)) := by
  have h1 : 2 ^ (16 * (s - 1)) ≤ v := by
    rcases h.2 with k | k
    · omega
    · exact k
  have e := bl_div h1
  have e2 : dg 16 v (s - 1) = v / 2 ^ (16 * (s - 1)) := by
    unfold dg
    refine Nat.mod_eq_of_lt ?_
    rw [Nat.div_lt_iff_lt_mul (Nat.two_pow_pos _), ← Nat.pow_add]
    have := h.1
    rw [show 16 * s = 16 + 16 * (s - 1) by omega] at this
    exact this
  rw [e2]
  omega
theorem bits_g {M : me_M} {B x : Nat} {reg : Nat → Nat} (h : RG M B reg) (hx : x < 19) : f_X7_bits [.ref B, .int (iZ x)] M = some (some (.int (iZ (bl (reg x)))), M) := by
  obtain ⟨rf, nf, h, hR⟩ := h
  have hRx := hR x hx
  obtain ⟨s, a, b, c, d⟩ := hR x hx
  have hL := h
  obtain ⟨⟨t, tl, h0⟩, h1, h2⟩ := h
  rw [e_X7_bits]
  simp only [h0, bS, g2, vF, h2]
  rw [iZ_clampN (by omega), if_neg (nob (iZ_n0 (by omega)) (by omega)), if_neg (nob (iZ_n0 (by omega)) (by omega))]
  simp only [a]
  by_cases hs : s = 0
  · subst hs
    have hz : reg x = 0 := by have := c.1; rw [Nat.mul_zero, Nat.pow_zero] at this; omega
    rw [if_pos (by rfl), e_X7_bits_25]
    simp only [h0, bS, g2, vF, h2]
    rw [iZ_clampN (by omega), if_neg (nob (iZ_n0 (by omega)) (by omega)), a, z_1, iZ_sub, at_n (by omega) (by omega)]
    simp only [bS, vI]
    have := bits_40 (M := M) 0 0 (by omega)
    rw [hz]
    exact this
  · rw [if_neg (by rw [z_0, iZ_eq (by omega) (by omega)]; omega), e_X7_bits_25]
    simp only [h0, bS, g2, vF, h2]
    rw [iZ_clampN (by omega), if_neg (nob (iZ_n0 (by omega)) (by omega)), a, z_1, iZ_sub, show (s : Int) - 1 = ((s - 1 : Nat) : Int) by omega, at_g hL hx hRx (by omega)]
    simp only [bS, vI]
    rw [show (16 : Int32) = iZ 16 from rfl, iZ_mul, iZ_sub, show (16 : Int) * (s : Int) - 16 = ((16 * (s - 1) : Nat) : Int) by omega, bits_40 _ _ (dg_16 _ _), sz_bl16 c (by omega)]
theorem cmpM_l {M : me_M} {B x y U V s : Nat} {rf nf : Nat → Int32} (h : Lo M B rf nf) (hx : x < 19) (hy : y < 19) (hs : s ≤ 160) (hU : ∀ j, j < s → rf (160 * x + j) = iZ (dg 16 U j)) (hV : ∀ j, j < s → rf (160 * y + j) = iZ (dg 16 V j)) : ∀ i : Nat, i ≤ s → U / 2 ^ (16 * i) = V / 2 ^ (16 * i) →
    sm T_X7_compare (45, [(0, .ref B), (1, .int (iZ x)), (2, .int (iZ y)), (3, .int (iZ ((i : Int) - 1)))], [], M, 0, 0) = some (some (.int (cmpN U V)), M) := by
  obtain ⟨⟨t, tl, h0⟩, h1, h2⟩ := h
  intro i
  induction i with
  | zero =>
    intro _ h
    simp only [Nat.mul_zero, Nat.pow_zero, Nat.div_one] at h
    rw [e_X7_compare_45, if_pos (by decide), c00]
    unfold cmpN
    rw [h, if_neg (by omega), if_pos rfl]
  | succ i ih =>
    intro hi h
    have d1 := dg_16 U i
    have d2 := dg_16 V i
    have e0 : (((i + 1 : Nat) : Int) - 1) = (i : Int) := by omega
    have e2 : iZ (i : Int) + -1 = iZ ((i : Int) - 1) := by rw [show (-1 : Int32) = iZ (-1) from rfl, iZ_add]; congr 1
    rw [e0, e_X7_compare_45, if_neg (iZ_n0 (by omega))]
    simp only [h0, bS, g1, vF, h1, ix16, e2]
    rw [iZ_clampN (by omega : 160 * x + i < 2147483648), iZ_clampN (by omega : 160 * y + i < 2147483648), if_neg (nob (iZ_n0 (by omega)) (by omega)), if_neg (nob (iZ_n0 (by omega)) (by omega)), if_neg (nob (iZ_n0 (by omega)) (by omega)), if_neg (nob (iZ_n0 (by omega)) (by omega)), c00, c00]
    simp only [hU i (by omega), hV i (by omega)]
    by_cases hd : dg 16 U i = dg 16 V i
    · rw [if_pos (by rw [hd])]
      exact ih (by omega) (by rw [dv_s 16 U i, dv_s 16 V i, h, hd])
    · rw [if_neg (by rw [iZ_eq (by omega) (by omega)]; omega)]
      unfold cmpN
      by_cases hlt : dg 16 U i < dg 16 V i
      · rw [if_neg (by rw [iZ_le (by omega) (by omega)]; omega), if_pos (cmp_lt h hlt)]
      · have hgt := cmp_lt h.symm (show dg 16 V i < dg 16 U i by omega)
        rw [if_pos (by rw [iZ_le (by omega) (by omega)]; omega), if_neg (by omega), if_neg (by omega)]
theorem cmp_g {M : me_M} {B x y : Nat} {reg : Nat → Nat} (h : RG M B reg) (hx : x < 19) (hy : y < 19) : f_X7_compare [.ref B, .int (iZ x), .int (iZ y)] M = some (some (.int (cmpN (reg x) (reg y))), M) := by
  obtain ⟨rf, nf, h, hR⟩ := h
  obtain ⟨s, a, b, c, d⟩ := hR x hx
  obtain ⟨s', a', b', c', d'⟩ := hR y hy
  have hL := h
  obtain ⟨⟨t, tl, h0⟩, h1, h2⟩ := h
  rw [e_X7_compare]
  simp only [h0, bS, g2, vF, h2]
  rw [iZ_clampN (by omega : x < 2147483648), iZ_clampN (by omega : y < 2147483648), if_neg (nob (iZ_n0 (by omega)) (by omega)), if_neg (nob (iZ_n0 (by omega)) (by omega)), if_neg (nob (iZ_n0 (by omega)) (by omega)), if_neg (nob (iZ_n0 (by omega)) (by omega)), if_neg (nob (iZ_n0 (by omega)) (by omega)), c00, c00]
  simp only [a, a']
  by_cases e : s = s'
  · subst e
    rw [if_pos rfl, z_1, iZ_sub]
    exact cmpM_l hL hx hy b d d' s (Nat.le_refl _) (by rw [Nat.div_eq_of_lt c.1, Nat.div_eq_of_lt c'.1])
  · rw [if_neg (by rw [iZ_eq (by omega) (by omega)]; omega)]
    unfold cmpN
    by_cases hlt : s < s'
    · rw [if_neg (by rw [iZ_le (by omega) (by omega)]; omega), if_pos (c.lt c' hlt)]
    · have := c'.lt c (show s' < s by omega)
      rw [if_pos (by rw [iZ_le (by omega) (by omega)]; omega), if_neg (by omega), if_neg (by omega)]
/-! the sum -/
theorem plusM_l {M : me_M} {B z x y U V m : Nat} {rf nf : Nat → Int32} {reg : Nat → Nat} (h : Lo M B rf nf) (hR : ∀ y, y < 19 → RX rf nf y (reg y)) (hz : z < 19) (hx : x < 19) (hy : y < 19) (eU : reg x = U) (eV : reg y = V) (hm : m < 160) (hU : U < 2 ^ (16 * m)) (hV : V < 2 ^ (16 * m)) : ∀ (d i : Nat) (g : Nat → Int32), d + i = m → (∀ p, (p < 160 * z ∨ 160 * z + i ≤ p) → g p = rf p) → (∀ j, j < i → g (160 * z + j) = iZ (dg 16 (U + V) j)) →
    ∃ M' : me_M, sm T_X7_plus (38, [(0, .ref B), (1, .int (iZ z)), (2, .int (iZ x)), (3, .int (iZ y)), (4, .int (iZ m)), (5, .int (iZ (ca 16 1 1 U V i))), (6, .int (iZ i))], [], mA M (B + 1) 3040 g, 0, 0) = some (none, M') ∧ RG M' B (up reg z (U + V)) ∧ FM M M' B := by
  have hZ : (1 : Int) * (U : Int) + 1 * (V : Int) = ((U + V : Nat) : Int) := by simp
  intro d
  induction d with
  | zero =>
    intro i g hd hO hg
    have e : i = m := by omega
    subst e
    obtain ⟨⟨t, tl, h0⟩, h1, h2⟩ := h.a g
    have hc := ca_top (k := 16) hZ hU hV
    have hlt : U + V < 2 ^ (16 * (i + 1)) := by
      rw [show 16 * (i + 1) = 16 * i + 16 by omega, Nat.pow_add]
      have : 2 ^ (16 * i) * 2 ≤ 2 ^ (16 * i) * 2 ^ 16 := Nat.mul_le_mul_left _ (by decide)
      omega
    have hd2 : dg 16 (U + V) i = (U + V) / 2 ^ (16 * i) := by
      unfold dg
      refine Nat.mod_eq_of_lt ?_
      rw [Nat.div_lt_iff_lt_mul (Nat.two_pow_pos _), ← Nat.pow_add, show 16 + 16 * i = 16 * (i + 1) by omega]
      exact hlt
    obtain ⟨M', f, P, F⟩ := trim_g (k := i + 1) (v := U + V) (g := upd g (160 * z + i) (iZ ((dg 16 (U + V) i : Nat) : Int))) h hR hz (by omega) hlt (fun j hj => by
      by_cases e : j = i
      · subst e; rw [upd_s]
      · rw [upd_n _ _ (by omega)]; exact hg j (by omega)) (fun p hp => by
      rw [upd_n _ _ (by omega)]; exact hO p (by omega))
    have eM : ∀ q, me_set (mA M (B + 1) 3040 g) (B + 1) (.inl (0, 3040, .inl q)) = mA M (B + 1) 3040 q := fun q => set_set _ _ _ _
    refine ⟨M', ?_, P, F⟩
    rw [e_X7_plus_38, if_pos (by rw [iZ_le (by omega) (by omega)]; omega)]
    simp only [h0, bS, g1, vF, h1, ix16, eM]
    rw [iZ_clampN (by omega), if_neg (nob (iZ_n0 (by omega)) (by omega)), hc, ← hd2, e_X7_plus_111, (h.a _).i0, z_p1, f]
    simp only [bS, cNn]
    exact c00
  | succ d ih =>
    intro i g hd hO hg
    have hL := h.a g
    obtain ⟨⟨t, tl, h0⟩, h1, h2⟩ := h.a g
    obtain ⟨s, a, b, c, d1⟩ := hR x hx
    obtain ⟨s', a', b', c', d1'⟩ := hR y hy
    rw [eU] at c d1
    rw [eV] at c' d1'
    have dU := dg_16 U i
    have dV := dg_16 V i
    have cb := ca_11 16 U V i
    have f1 := at_s (i := i) hL hx a b c.1 (fun hi => by rw [hO _ (by omega)]; exact d1 i hi) (by omega)
    have f2 := at_s (i := i) hL hy a' b' c'.1 (fun hi => by rw [hO _ (by omega)]; exact d1' i hi) (by omega)
    have eM : ∀ q, me_set (mA M (B + 1) 3040 g) (B + 1) (.inl (0, 3040, .inl q)) = mA M (B + 1) 3040 q := fun q => set_set _ _ _ _
    rw [e_X7_plus_38, if_neg (by rw [iZ_le (by omega) (by omega)]; omega), hL.i0, f1]
    simp only [bS, vI]
    rw [hL.i0, f2]
    simp only [bS, vI, h0, g1, vF, h1, ix16, eM]
    rw [iZ_clampN (by omega), if_neg (nob (iZ_n0 (by omega)) (by omega)), iZ_add, iZ_add, iZ_mask16]
    have cs := ca_s 16 1 1 U V i
    have cd := ca_dg (k := 16) hZ i
    have e16 : ((2 ^ 16 : Nat) : Int) = 65536 := by decide
    rw [e16] at cs cd
    obtain ⟨w, hw⟩ : ∃ w : Nat, (w : Int) = (dg 16 U i : Int) + (dg 16 V i : Int) + ca 16 1 1 U V i := ⟨((dg 16 U i : Int) + (dg 16 V i : Int) + ca 16 1 1 U V i).toNat, by omega⟩
    rw [Int.one_mul, Int.one_mul, ← hw] at cs cd
    rw [← hw, cd, iZ_shr (by omega) _ 16 (by decide), show ((w / 2 ^ 16 : Nat) : Int) = (w : Int) / 65536 by rw [Int.natCast_ediv, e16], ← cs, z_p1]
    refine ih (i + 1) _ (by omega) (fun p hp => by rw [upd_n _ _ (by omega)]; exact hO p (by omega)) (fun j hj => ?_)
    by_cases e : j = i
    · subst e; rw [upd_s]
    · rw [upd_n _ _ (by omega)]; exact hg j (by omega)
theorem plus_g {M : me_M} {B z x y : Nat} {reg : Nat → Nat} (h : RG M B reg) (hz : z < 19) (hx : x < 19) (hy : y < 19) (hU : reg x < 2 ^ (16 * 159)) (hV : reg y < 2 ^ (16 * 159)) : ∃ M' : me_M, f_X7_plus [.ref B, .int (iZ z), .int (iZ x), .int (iZ y)] M = some (none, M') ∧ RG M' B (up reg z (reg x + reg y)) ∧ FM M M' B := by
  obtain ⟨rf, nf, h, hR⟩ := h
  obtain ⟨s, a, b, c, d⟩ := hR x hx
  obtain ⟨s', a', b', c', d'⟩ := hR y hy
  have hs : s ≤ 159 := by
    rcases c.2 with k | k
    · omega
    · rcases Nat.lt_or_ge s 160 with q | q
      · omega
      · have := pw_le 16 (show 159 ≤ s - 1 by omega); omega
  have hs' : s' ≤ 159 := by
    rcases c'.2 with k | k
    · omega
    · rcases Nat.lt_or_ge s' 160 with q | q
      · omega
      · have := pw_le 16 (show 159 ≤ s' - 1 by omega); omega
  have key : ∀ m, s ≤ m → s' ≤ m → m < 160 → ∃ M' : me_M, sm T_X7_plus (38, [(0, .ref B), (1, .int (iZ z)), (2, .int (iZ x)), (3, .int (iZ y)), (4, .int (iZ m)), (5, .int (0 : Int32)), (6, .int (0 : Int32))], [], M, 0, 0) = some (none, M') ∧ RG M' B (up reg z (reg x + reg y)) ∧ FM M M' B := by
    intro m h1 h2 h3
    have e := plusM_l h hR hz hx hy rfl rfl h3 (Nat.lt_of_lt_of_le c.1 (pw_le 16 h1)) (Nat.lt_of_lt_of_le c'.1 (pw_le 16 h2)) m 0 rf (by omega) (fun _ _ => rfl) (fun j hj => absurd hj (by omega))
    rw [mA_self h.2.1, ca_0] at e
    exact e
  obtain ⟨⟨t, tl, h0⟩, h1, h2⟩ := h
  rw [e_X7_plus]
  simp only [h0, bS, g2, vF, h2]
  rw [iZ_clampN (by omega : x < 2147483648), iZ_clampN (by omega : y < 2147483648), if_neg (nob (iZ_n0 (by omega)) (by omega)), if_neg (nob (iZ_n0 (by omega)) (by omega)), if_neg (nob (iZ_n0 (by omega)) (by omega)), if_neg (nob (iZ_n0 (by omega)) (by omega))]
  simp only [a, a']
  by_cases e : s ≤ s'
  · rw [if_pos (by rw [iZ_le (by omega) (by omega)]; omega)]
    exact key s' e (Nat.le_refl _) (by omega)
  · rw [if_neg (by rw [iZ_le (by omega) (by omega)]; omega)]
    exact key s (Nat.le_refl _) (by omega) (by omega)
