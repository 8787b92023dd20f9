/-! shifted digits -/
theorem cnt16 : ∀ r : Nat, r < 17 → ((iZ (r : Int) &&& 31).toBitVec.smod 32).toNat = r := by decide +kernel
theorem iZ_shl {x k : Nat} (hk : k < 17) (h : x * 2 ^ k < 4294967296) : iZ (x : Int) <<< (iZ (k : Int) &&& 31) = iZ ((x * 2 ^ k : Nat) : Int) := by
  have := pk_shlN (n := x) (iZ (k : Int) &&& 31) k (cnt16 k hk) h
  rw [nI_iZ, nI_iZ] at this
  exact this
theorem iZ_or {a b r : Nat} (hb : b < 2 ^ r) (h : 2 ^ r * a + b < 4294967296) : iZ ((2 ^ r * a : Nat) : Int) ||| iZ (b : Int) = iZ ((2 ^ r * a + b : Nat) : Int) := by
  apply Int32.toBitVec_inj.mp
  rw [Int32.toBitVec_or]
  apply BitVec.eq_of_toNat_eq
  rw [BitVec.toNat_or, iZ_bits, iZ_bits, iZ_bits]
  have e1 : ((2 ^ r * a : Nat) : Int) % 4294967296 = ((2 ^ r * a : Nat) : Int) := Int.emod_eq_of_lt (Int.natCast_nonneg _) (by omega)
  have e2 : ((b : Nat) : Int) % 4294967296 = ((b : Nat) : Int) := Int.emod_eq_of_lt (Int.natCast_nonneg _) (by omega)
  have e3 : ((2 ^ r * a + b : Nat) : Int) % 4294967296 = ((2 ^ r * a + b : Nat) : Int) := Int.emod_eq_of_lt (Int.natCast_nonneg _) (by omega)
  rw [e1, e2, e3, Int.toNat_natCast, Int.toNat_natCast, Int.toNat_natCast]
  exact (Nat.two_pow_add_eq_or_of_lt hb a).symm
theorem sh_low {V s i : Nat} (h : i < s / 16) : dg 16 (V * 2 ^ s) i = 0 := by
  unfold dg
  obtain ⟨d, hd⟩ : ∃ d, s = 16 * i + 16 + d := ⟨s - 16 * i - 16, by omega⟩
  rw [hd, Nat.pow_add, Nat.pow_add, show V * (2 ^ (16 * i) * 2 ^ 16 * 2 ^ d) = 2 ^ (16 * i) * (2 ^ 16 * (V * 2 ^ d)) by grind, Nat.mul_div_cancel_left _ (Nat.two_pow_pos _), Nat.mul_mod_right]
theorem sh_mid {V s i : Nat} (h : s / 16 ≤ i) : dg 16 (V * 2 ^ s) i = dg 16 (V * 2 ^ (s % 16)) (i - s / 16) := by
  unfold dg
  congr 1
  obtain ⟨k, hk⟩ : ∃ k, i = s / 16 + k := ⟨i - s / 16, by omega⟩
  have hs : s = 16 * (s / 16) + s % 16 := by omega
  rw [hk, Nat.add_sub_cancel_left, show 16 * (s / 16 + k) = 16 * (s / 16) + 16 * k by omega, Nat.pow_add 2 (16 * (s / 16)) (16 * k)]
  have e : V * 2 ^ s = 2 ^ (16 * (s / 16)) * (V * 2 ^ (s % 16)) := by
    conv => lhs; rw [hs, Nat.pow_add]
    grind
  rw [e, Nat.mul_div_mul_left _ _ (Nat.two_pow_pos _)]
theorem sh_0 {V r : Nat} : dg 16 (V * 2 ^ r) 0 = dg 16 V 0 * 2 ^ r % 65536 := by
  unfold dg
  rw [Nat.mul_zero, Nat.pow_zero, Nat.div_one, Nat.div_one, show (2 : Nat) ^ 16 = 65536 by decide]
  exact (Nat.mod_mul_mod ..).symm
theorem sh_s {V r k : Nat} (hr : r < 16) : dg 16 (V * 2 ^ r) (k + 1) = (dg 16 V (k + 1) * 2 ^ r + dg 16 V k / 2 ^ (16 - r)) % 65536 := by
  unfold dg
  rw [show (2 : Nat) ^ 16 = 65536 by decide]
  have e1 : V * 2 ^ r / 2 ^ (16 * (k + 1)) = V / 2 ^ (16 * k) / 2 ^ (16 - r) := by
    rw [show 16 * (k + 1) = (16 * k + (16 - r)) + r by omega, Nat.pow_add, Nat.mul_div_mul_right _ _ (Nat.two_pow_pos _), Nat.pow_add, Nat.div_div_eq_div_mul]
  have e2 : V / 2 ^ (16 * (k + 1)) = V / 2 ^ (16 * k) / 65536 := by
    rw [show 16 * (k + 1) = 16 * k + 16 by omega, Nat.pow_add, ← Nat.div_div_eq_div_mul]
  rw [e1, e2]
  generalize V / 2 ^ (16 * k) = W
  have e3 : (65536 : Nat) = 2 ^ r * 2 ^ (16 - r) := by rw [← Nat.pow_add, show r + (16 - r) = 16 by omega]
  have e4 : W = 2 ^ (16 - r) * (2 ^ r * (W / 65536)) + W % 65536 := by
    have := Nat.div_add_mod W 65536
    rw [← Nat.mul_assoc, Nat.mul_comm (2 ^ (16 - r)) (2 ^ r), ← e3]
    omega
  have e5 : W / 2 ^ (16 - r) = 2 ^ r * (W / 65536) + W % 65536 / 2 ^ (16 - r) := by
    conv => lhs; rw [e4]
    rw [Nat.mul_add_div (Nat.two_pow_pos _)]
  have e6 : W / 65536 * 2 ^ r % 65536 = W / 65536 % 65536 * 2 ^ r % 65536 := (Nat.mod_mul_mod ..).symm
  rw [e5, Nat.add_mod, Nat.mul_comm (2 ^ r), e6, ← Nat.add_mod]
theorem shift_g {M : me_M} {B b V s i : Nat} {rf nf : Nat → Int32} (h : Lo M B rf nf) (hb : b < 19) (hR : RX rf nf b V) (hs : s < 10000) (hi : i < 10000) :
    f_X7_shifted [.ref B, .int (iZ b), .int (iZ s), .int (iZ i)] M = some (some (.int (iZ (dg 16 (V * 2 ^ s) i))), M) := by
  have e16 : ¬ ((16 : Int32) = 0) := by decide
  have hd : iZ (s : Int) / (16 : Int32) = iZ ((s / 16 : Nat) : Int) := iZ_div (b := 16) (by omega) (by omega) (by omega)
  have hm : iZ (s : Int) - iZ (s : Int) / (16 : Int32) * (16 : Int32) = iZ ((s % 16 : Nat) : Int) := iZ_rem (b := 16) (by omega) (by omega) (by omega)
  have hr : s % 16 < 16 := Nat.mod_lt _ (by decide)
  have h16 : (16 : Int32) - iZ ((s % 16 : Nat) : Int) = iZ ((16 - s % 16 : Nat) : Int) := by rw [show (16 : Int32) = iZ 16 from rfl, iZ_sub]; congr 1; omega
  have fin : ∀ e1 e2 : Nat, e1 < 65536 → e2 < 65536 → ((iZ (e1 : Int) <<< (iZ ((s % 16 : Nat) : Int) &&& 31)) ||| (iZ (e2 : Int) >>> (iZ ((16 - s % 16 : Nat) : Int) &&& 31))) &&& 65535 = iZ (((e1 * 2 ^ (s % 16) + e2 / 2 ^ (16 - s % 16)) % 65536 : Nat) : Int) := by
    intro e1 e2 h1 h2
    generalize s % 16 = r at hr
    have p1 : 2 ^ r ≤ 2 ^ 15 := Nat.pow_le_pow_right (by decide) (by omega)
    have p2 : e1 * 2 ^ r ≤ 65535 * 2 ^ 15 := Nat.mul_le_mul (by omega) p1
    have p3 : e2 / 2 ^ (16 - r) < 2 ^ r := by
      rw [Nat.div_lt_iff_lt_mul (Nat.two_pow_pos _), ← Nat.pow_add, show r + (16 - r) = 16 by omega]
      exact h2
    have p4 : (2 : Nat) ^ 15 = 32768 := by decide
    rw [p4] at p1 p2
    rw [iZ_shl (by omega) (by omega), iZ_shr (by omega) _ (16 - r) (cnt16 _ (by omega)), Nat.mul_comm e1, iZ_or p3 (by rw [Nat.mul_comm] at p2; omega), iZ_mask16]
    rfl
  rw [e_X7_shifted, if_neg e16, h.i0, hd]
  by_cases hlt : i < s / 16
  · rw [iZ_sub, at_n (by omega) (by omega)]
    simp only [bS, vI]
    rw [if_neg e16, h.i0, z_1, iZ_sub, at_n (by omega) (by omega)]
    simp only [bS, vI]
    rw [if_neg e16, c00, ← hd, hm, h16, sh_low hlt]
    have := fin 0 0 (by omega) (by omega)
    rw [Nat.zero_mul, Nat.zero_div] at this
    exact congrArg (fun z => some (some (Value.int z), M)) this
  · rw [iZ_sub, show (i : Int) - ((s / 16 : Nat) : Int) = ((i - s / 16 : Nat) : Int) by omega, at_g h hb hR (by omega)]
    simp only [bS, vI]
    rw [if_neg e16, h.i0, z_1, iZ_sub, sh_mid (by omega)]
    by_cases hk : i - s / 16 = 0
    · rw [hk, at_n (by omega) (by omega)]
      simp only [bS, vI]
      rw [if_neg e16, c00, ← hd, hm, h16, sh_0]
      have := fin (dg 16 V 0) 0 (dg_16 _ _) (by omega)
      rw [Nat.zero_div, Nat.add_zero] at this
      exact congrArg (fun z => some (some (Value.int z), M)) this
    · obtain ⟨k, hk2⟩ : ∃ k, i - s / 16 = k + 1 := ⟨i - s / 16 - 1, by omega⟩
      rw [hk2, show ((k + 1 : Nat) : Int) - 1 = (k : Int) by omega, at_g h hb hR (by omega)]
      simp only [bS, vI]
      rw [if_neg e16, c00, ← hd, hm, h16, sh_s hr]
      exact congrArg (fun z => some (some (Value.int z), M)) (fin _ _ (dg_16 _ _) (dg_16 _ _))
/-! taking a shifted number away -/
theorem lessM_l {M : me_M} {B x b X V s t : Nat} {rf nf : Nat → Int32} (h : Lo M B rf nf) (hx : x < 19) (hb : b < 19) (hxb : x ≠ b) (hs : s < 10000) (hV : RX rf nf b V) (ht : nf x = iZ t) (ht2 : t ≤ 160) (hX : X < 2 ^ (16 * t)) (hle : V * 2 ^ s ≤ X) (hf : ∀ j, j < t → rf (160 * x + j) = iZ (dg 16 X j)) : ∀ (d k : Nat) (g : Nat → Int32), d + k = t → Ot g rf x → (∀ j, j < k → g (160 * x + j) = iZ (dg 16 (X - V * 2 ^ s) j)) → (∀ j, k ≤ j → g (160 * x + j) = rf (160 * x + j)) →
    ∃ (g' : Nat → Int32) (t' : Nat), sm T_X7_lessen (9, [(0, .ref B), (1, .int (iZ x)), (2, .int (iZ b)), (3, .int (iZ s)), (4, .int (iZ (-(ca 16 1 (-1) X (V * 2 ^ s) k)))), (5, .int (iZ k))], [], mA M (B + 1) 3040 g, 0, 0) = some (none, me_set (mA M (B + 1) 3040 g') (B + 2) (.inl (0, 19, .inl (upd nf x (iZ t'))))) ∧ Ot g' rf x ∧ t' ≤ 160 ∧ Sz 16 (X - V * 2 ^ s) t' ∧ ∀ j, j < t' → g' (160 * x + j) = iZ (dg 16 (X - V * 2 ^ s) j) := by
  have hZ : (1 : Int) * (X : Int) + (-1) * ((V * 2 ^ s : Nat) : Int) = ((X - V * 2 ^ s : Nat) : Int) := by omega
  intro d
  induction d with
  | zero =>
    intro k g hd hO hg hg2
    have e : k = t := by omega
    subst e
    have hL := h.a g
    obtain ⟨⟨u, tl, h0⟩, h1, h2⟩ := h.a g
    obtain ⟨t', f, q1, q2⟩ := trimM_l hL hx k ht2 (Nat.lt_of_le_of_lt (Nat.sub_le _ _) hX) hg
    refine ⟨g, t', ?_, hO, by omega, q2, fun j hj => hg j (by omega)⟩
    rw [e_X7_lessen_9]
    simp only [h0, bS, g2, vF, h2]
    rw [iZ_clampN (by omega), if_neg (nob (iZ_n0 (by omega)) (by omega))]
    simp only [ht]
    rw [if_pos (by rw [iZ_le (by omega) (by omega)]; omega), if_neg (nob (iZ_n0 (by omega)) (by omega)), e_X7_trim, f]
    simp only [bS, cNn]
    exact c00
  | succ d ih =>
    intro k g hd hO hg hg2
    have hL := h.a g
    obtain ⟨⟨u, tl, h0⟩, h1, h2⟩ := h.a g
    have f1 := shift_g (s := s) (i := k) hL hb (hV.o (fun e => hxb e.symm) hO rfl) hs (by omega)
    have dX := dg_16 X k
    have dY := dg_16 (V * 2 ^ s) k
    have cb := ca_1m (k := 16) (U := X) (V := V * 2 ^ s) (i := k)
    have cS := ca_s 16 1 (-1) X (V * 2 ^ s) k
    have cd := ca_dg (k := 16) hZ k
    have e16 : ((2 ^ 16 : Nat) : Int) = 65536 := by decide
    rw [e16] at cS cd
    have ev : g (160 * x + k) - iZ ((dg 16 (V * 2 ^ s) k : Nat) : Int) - iZ (-(ca 16 1 (-1) X (V * 2 ^ s) k)) = iZ (1 * ((dg 16 X k : Nat) : Int) + (-1) * ((dg 16 (V * 2 ^ s) k : Nat) : Int) + ca 16 1 (-1) X (V * 2 ^ s) k) := by
      rw [hg2 k (Nat.le_refl _), hf k (by omega), iZ_sub, iZ_sub]
      congr 1
      omega
    have eM : ∀ q, me_set (mA M (B + 1) 3040 g) (B + 1) (.inl (0, 3040, .inl q)) = mA M (B + 1) 3040 q := fun q => set_set _ _ _ _
    obtain ⟨w, hw⟩ : ∃ w : Int, w = 1 * ((dg 16 X k : Nat) : Int) + (-1) * ((dg 16 (V * 2 ^ s) k : Nat) : Int) + ca 16 1 (-1) X (V * 2 ^ s) k := ⟨_, rfl⟩
    rw [← hw] at ev cS cd
    have step : ∀ bo : Int32, bo = iZ (-(ca 16 1 (-1) X (V * 2 ^ s) (k + 1))) → ∃ (g' : Nat → Int32) (t' : Nat), sm T_X7_lessen (57, [(0, .ref B), (1, .int (iZ x)), (2, .int (iZ b)), (3, .int (iZ s)), (5, .int (iZ k)), (6, .int (iZ w))], [.int bo], mA M (B + 1) 3040 g, 0, 0) = some (none, me_set (mA M (B + 1) 3040 g') (B + 2) (.inl (0, 19, .inl (upd nf x (iZ t'))))) ∧ Ot g' rf x ∧ t' ≤ 160 ∧ Sz 16 (X - V * 2 ^ s) t' ∧ ∀ j, j < t' → g' (160 * x + j) = iZ (dg 16 (X - V * 2 ^ s) j) := by
      intro bo hbo
      rw [e_X7_lessen_57]
      simp only [h0, bS, g1, vF, h1, ix16, eM]
      rw [iZ_clampN (by omega), if_neg (nob (iZ_n0 (by omega)) (by omega)), iZ_mask16, cd, hbo, z_p1]
      refine ih (k + 1) _ (by omega) (hO.upd (by omega)) (fun j hj => ?_) (fun j hj => by rw [upd_n _ _ (by omega)]; exact hg2 j (by omega))
      by_cases e : j = k
      · subst e; rw [upd_s]
      · rw [upd_n _ _ (by omega)]; exact hg j (by omega)
    rw [e_X7_lessen_9]
    simp only [h0, bS, g1, g2, vF, h1, h2, ix16]
    rw [iZ_clampN (by omega : x < 2147483648), if_neg (nob (iZ_n0 (by omega)) (by omega))]
    simp only [ht]
    rw [if_neg (by rw [iZ_le (by omega) (by omega)]; omega), iZ_clampN (by omega : 160 * x + k < 2147483648), if_neg (nob (iZ_n0 (by omega)) (by omega)), f1]
    simp only [bS, vI, ev]
    by_cases hw0 : 0 ≤ w
    · rw [if_pos (by rw [z_0, iZ_le (by omega) (by omega)]; exact hw0)]
      exact step 0 (by rw [cS, z_0]; congr 1; omega)
    · rw [if_neg (by rw [z_0, iZ_le (by omega) (by omega)]; exact hw0)]
      exact step 1 (by rw [cS, z_1]; congr 1; omega)
theorem ca_low {X Y k : Nat} (h : Y % 2 ^ (16 * k) = 0) : ca 16 1 (-1) X Y k = 0 := by
  unfold ca
  rw [h]
  have h1 : X % 2 ^ (16 * k) < 2 ^ (16 * k) := Nat.mod_lt _ (Nat.two_pow_pos _)
  rw [Int.one_mul, Int.natCast_zero, Int.mul_zero, Int.add_zero, ← Int.natCast_ediv, Nat.div_eq_of_lt h1]
  rfl
theorem sub_low {X Y k j : Nat} (h : Y % 2 ^ (16 * k) = 0) (hle : Y ≤ X) (hj : j < k) : dg 16 (X - Y) j = dg 16 X j := by
  obtain ⟨u, hu⟩ : ∃ u, Y = 2 ^ (16 * k) * u := ⟨Y / 2 ^ (16 * k), by have := Nat.div_add_mod Y (2 ^ (16 * k)); omega⟩
  obtain ⟨D, hD⟩ : ∃ D, X = Y + D := ⟨X - Y, by omega⟩
  have e1 : dg 16 (2 ^ (16 * k) * u + D) j = dg 16 D j := dg_lo hj
  rw [hD, Nat.add_sub_cancel_left, hu, e1]
theorem less_g {M : me_M} {B x b X V s : Nat} {rf nf : Nat → Int32} (h : Lo M B rf nf) (hx : x < 19) (hb : b < 19) (hxb : x ≠ b) (hX : RX rf nf x X) (hV : RX rf nf b V) (hs : s < 10000) (hle : V * 2 ^ s ≤ X) (h0 : s = 0 ∨ 0 < V) :
    ∃ (g' : Nat → Int32) (t' : Nat), f_X7_lessen [.ref B, .int (iZ x), .int (iZ b), .int (iZ s)] M = some (none, me_set (mA M (B + 1) 3040 g') (B + 2) (.inl (0, 19, .inl (upd nf x (iZ t'))))) ∧ Ot g' rf x ∧ t' ≤ 160 ∧ Sz 16 (X - V * 2 ^ s) t' ∧ ∀ j, j < t' → g' (160 * x + j) = iZ (dg 16 (X - V * 2 ^ s) j) := by
  obtain ⟨t, a1, a2, a3, a4⟩ := hX
  have hd : iZ (s : Int) / (16 : Int32) = iZ ((s / 16 : Nat) : Int) := iZ_div (b := 16) (by omega) (by omega) (by omega)
  have hY : V * 2 ^ s % 2 ^ (16 * (s / 16)) = 0 := by
    rw [show s = 16 * (s / 16) + s % 16 by omega, Nat.pow_add, show (16 * (s / 16) + s % 16) / 16 = s / 16 by omega, show V * (2 ^ (16 * (s / 16)) * 2 ^ (s % 16)) = 2 ^ (16 * (s / 16)) * (V * 2 ^ (s % 16)) by grind, Nat.mul_mod_right]
  have hk : s / 16 ≤ t := by
    rcases h0 with e | e
    · subst e; omega
    · have h1 : 2 ^ s ≤ V * 2 ^ s := Nat.le_mul_of_pos_left _ e
      have h2 : 2 ^ s < 2 ^ (16 * t) := Nat.lt_of_le_of_lt (Nat.le_trans h1 hle) a3.1
      have := (Nat.pow_lt_pow_iff_right (by decide : 1 < 2)).mp h2
      omega
  have e := lessM_l h hx hb hxb hs hV a1 a2 a3.1 hle a4 (t - s / 16) (s / 16) rf (by omega) (Ot.refl _ _) (fun j hj => by rw [sub_low hY hle hj]; exact a4 j (by omega)) (fun _ _ => rfl)
  rw [mA_self h.2.1, ca_low hY] at e
  obtain ⟨g', t', f, q⟩ := e
  refine ⟨g', t', ?_, q⟩
  rw [e_X7_lessen, if_neg (by decide : ¬ (16 : Int32) = 0), hd]
  exact f
/-- whether a register is below a shifted one -/
theorem belowM_l {M : me_M} {B x b X V s t : Nat} {rf nf : Nat → Int32} (h : Lo M B rf nf) (hx : x < 19) (hb : b < 19) (hs : s < 10000) (hV : RX rf nf b V) (ht : t ≤ 160) (hf : ∀ j, j < t → rf (160 * x + j) = iZ (dg 16 X j)) : ∀ i : Nat, i ≤ t → X / 2 ^ (16 * i) = V * 2 ^ s / 2 ^ (16 * i) →
    sm T_X7_isBelow (10, [(0, .ref B), (1, .int (iZ x)), (2, .int (iZ b)), (3, .int (iZ s)), (4, .int (iZ ((i : Int) - 1)))], [], M, 0, 0) = some (some (.int (if X < V * 2 ^ s then 1 else 0)), M) := by
  have hL := h
  obtain ⟨⟨u, tl, h0⟩, h1, h2⟩ := h
  intro i
  induction i with
  | zero =>
    intro _ h
    simp only [Nat.mul_zero, Nat.pow_zero, Nat.div_one] at h
    rw [e_X7_isBelow_10, if_pos (by decide), cz0, c00, if_neg (by omega)]
  | succ i ih =>
    intro hi h
    have d1 := dg_16 X i
    have d2 := dg_16 (V * 2 ^ s) i
    have e0 : (((i + 1 : Nat) : Int) - 1) = (i : Int) := by omega
    have e2 : iZ (i : Int) + -1 = iZ ((i : Int) - 1) := by rw [show (-1 : Int32) = iZ (-1) from rfl, iZ_add]; congr 1
    rw [e0, e_X7_isBelow_10, if_neg (iZ_n0 (by omega)), hL.i0, shift_g hL hb hV hs (by omega)]
    simp only [bS, vI, h0, g1, vF, h1, ix16, e2]
    rw [iZ_clampN (by omega), if_neg (nob (iZ_n0 (by omega)) (by omega)), if_neg (nob (iZ_n0 (by omega)) (by omega)), cT0, cT1, c00, c00]
    simp only [hf i (by omega)]
    by_cases hd : dg 16 X i = dg 16 (V * 2 ^ s) i
    · rw [if_pos (by rw [hd])]
      exact ih (by omega) (by rw [dv_s 16 X i, dv_s 16 (V * 2 ^ s) i, h, hd])
    · rw [if_neg (by rw [iZ_eq (by omega) (by omega)]; omega)]
      by_cases hlt : dg 16 X i < dg 16 (V * 2 ^ s) i
      · rw [if_neg (by rw [iZ_le (by omega) (by omega)]; omega), if_pos (cmp_lt h hlt)]
      · have hgt := cmp_lt h.symm (show dg 16 (V * 2 ^ s) i < dg 16 X i by omega)
        rw [if_pos (by rw [iZ_le (by omega) (by omega)]; omega), if_neg (by omega)]
theorem below_g {M : me_M} {B x b X V s : Nat} {rf nf : Nat → Int32} (h : Lo M B rf nf) (hx : x < 19) (hb : b < 19) (hX : RX rf nf x X) (hV : RX rf nf b V) (hs : s < 10000) (hlt : ∀ t, nf x = iZ (t : Nat) → t ≤ 160 → X < 2 ^ (16 * t) → V * 2 ^ s < 2 ^ (16 * t)) :
    f_X7_isBelow [.ref B, .int (iZ x), .int (iZ b), .int (iZ s)] M = some (some (.int (if X < V * 2 ^ s then 1 else 0)), M) := by
  obtain ⟨t, a1, a2, a3, a4⟩ := hX
  have e := belowM_l h hx hb hs hV a2 a4 t (Nat.le_refl _) (by rw [Nat.div_eq_of_lt a3.1, Nat.div_eq_of_lt (hlt t a1 a2 a3.1)])
  obtain ⟨⟨u, tl, h0⟩, h1, h2⟩ := h
  rw [e_X7_isBelow]
  simp only [h0, bS, g2, vF, h2]
  rw [iZ_clampN (by omega), if_neg (nob (iZ_n0 (by omega)) (by omega)), a1, z_1, iZ_sub]
  exact e
