/-! dividing: shift and take away -/
theorem bit_add {r u : Nat} (hr : r < 16) : (2 ^ (r + 1) * u + 2 ^ r) % 65536 = 2 ^ (r + 1) * u % 65536 + 2 ^ r ∧ (2 ^ (r + 1) * u + 2 ^ r) / 65536 = 2 ^ (r + 1) * u / 65536 := by
  have hc : r = 0 ∨ r = 1 ∨ r = 2 ∨ r = 3 ∨ r = 4 ∨ r = 5 ∨ r = 6 ∨ r = 7 ∨ r = 8 ∨ r = 9 ∨ r = 10 ∨ r = 11 ∨ r = 12 ∨ r = 13 ∨ r = 14 ∨ r = 15 := by omega
  rcases hc with rfl | rfl | rfl | rfl | rfl | rfl | rfl | rfl | rfl | rfl | rfl | rfl | rfl | rfl | rfl | rfl <;> constructor <;> omega
theorem dg_bit {Q s j : Nat} (h : 2 ^ (s + 1) ∣ Q) : dg 16 (Q + 2 ^ s) j = dg 16 Q j + (if j = s / 16 then 2 ^ (s % 16) else 0) := by
  obtain ⟨u, rfl⟩ := h
  have hr : s % 16 < 16 := Nat.mod_lt _ (by decide)
  have hs : s = 16 * (s / 16) + s % 16 := by omega
  have e1 : 2 ^ (s + 1) * u = 2 ^ (16 * (s / 16)) * (2 ^ (s % 16 + 1) * u) + 0 := by
    rw [← Nat.mul_assoc, ← Nat.pow_add, show 16 * (s / 16) + (s % 16 + 1) = s + 1 by omega]
    exact (Nat.add_zero _).symm
  have e2 : 2 ^ (s + 1) * u + 2 ^ s = 2 ^ (16 * (s / 16)) * (2 ^ (s % 16 + 1) * u + 2 ^ (s % 16)) + 0 := by
    rw [Nat.mul_add, ← Nat.mul_assoc, ← Nat.pow_add, ← Nat.pow_add, show 16 * (s / 16) + (s % 16 + 1) = s + 1 by omega, show 16 * (s / 16) + s % 16 = s by omega]
    exact (Nat.add_zero _).symm
  rw [e2, e1]
  generalize s / 16 = m
  generalize s % 16 = r at hr
  obtain ⟨b1, b2⟩ := bit_add (u := u) hr
  rcases Nat.lt_trichotomy j m with k | k | k
  · rw [dg_lo k, dg_lo k, if_neg (by omega)]
    exact (Nat.add_zero _).symm
  · subst k
    have p0 : (0 : Nat) < 2 ^ (16 * j) := Nat.two_pow_pos _
    have d1 : dg 16 (2 ^ (16 * j) * (2 ^ (r + 1) * u + 2 ^ r) + 0) (j + 0) = dg 16 (2 ^ (r + 1) * u + 2 ^ r) 0 := dg_hi p0
    have d2 : dg 16 (2 ^ (16 * j) * (2 ^ (r + 1) * u) + 0) (j + 0) = dg 16 (2 ^ (r + 1) * u) 0 := dg_hi p0
    rw [Nat.add_zero j] at d1 d2
    rw [d1, d2, if_pos rfl]
    unfold dg
    rw [Nat.mul_zero, Nat.pow_zero, Nat.div_one, Nat.div_one]
    exact b1
  · obtain ⟨t, rfl⟩ : ∃ t, j = m + (t + 1) := ⟨j - m - 1, by omega⟩
    rw [dg_hi (Nat.two_pow_pos _), dg_hi (Nat.two_pow_pos _), if_neg (by omega)]
    unfold dg
    have e3 : ∀ z : Nat, z / 2 ^ (16 * (t + 1)) = z / 65536 / 2 ^ (16 * t) := fun z => by
      rw [show 16 * (t + 1) = 16 + 16 * t by omega, Nat.pow_add, ← Nat.div_div_eq_div_mul]
    rw [e3, e3, b2]; rfl
/-- what a division loop keeps -/
def DvI (B x b q m X V Q X0 : Nat) (M0 M : me_M) (reg : Nat → Nat) : Prop := ∃ rf nf : Nat → Int32, Lo M B rf nf ∧ RX rf nf x X ∧ RX rf nf b V ∧ (∀ y, y < 19 → y ≠ x → y ≠ q → RX rf nf y (reg y)) ∧ (q < 19 → ∀ j, j < m → rf (160 * q + j) = iZ (dg 16 Q j)) ∧ X0 = Q * V + X ∧ (∀ j, V * 2 ^ j ≤ X → 2 ^ (j + 1) ∣ Q) ∧ FM M0 M B
def dvR (reg : Nat → Nat) (x q X0 V : Nat) : Nat → Nat := if q < 19 then up (up reg x (X0 % V)) q (X0 / V) else up reg x (X0 % V)
theorem bl_mul {V s : Nat} (h : 0 < V) : bl (V * 2 ^ s) = bl V + s := by
  have h1 : 2 ^ s ≤ V * 2 ^ s := Nat.le_mul_of_pos_left _ h
  have := bl_div h1
  rw [Nat.mul_div_cancel _ (Nat.two_pow_pos _)] at this
  exact this.symm
theorem bl_mono {u v : Nat} (h : u ≤ v) : bl u ≤ bl v := bl_le_iff.mpr (Nat.lt_of_le_of_lt h (bl_lt v))
theorem lt_bl {u v : Nat} (h : bl u < bl v) : u < v := by
  rcases Nat.lt_or_ge u v with k | k
  · exact k
  · have := bl_mono k; omega
/-- the end of the loop -/
theorem div_e {B x b q m X V Q X0 : Nat} {M0 M : me_M} {reg : Nat → Nat} {qi : Int32} {s : Int} (h : DvI B x b q m X V Q X0 M0 M reg) (hx : x < 19) (hb : b < 19) (hxb : x ≠ b) (hqx : q ≠ x) (hqb : q ≠ b) (hq : (q = 19 ∧ qi = -1) ∨ (q < 19 ∧ qi = iZ q)) (hV : 0 < V) (hm : m ≤ 160) (hX0 : X0 < 2 ^ (16 * m)) (hlt : X < V) (hs : s < 0) (hs2 : -100000 < s) (eb : reg b = V) :
    ∃ M' : me_M, sm T_X7_divide (112, [(0, .ref B), (1, .int (iZ x)), (2, .int (iZ b)), (3, .int qi), (4, .int (iZ m)), (5, .int (iZ s))], [], M, 0, 0) = some (none, M') ∧ RG M' B (dvR reg x q X0 V) ∧ FM M0 M' B := by
  obtain ⟨rf, nf, hL, RXx, RXb, hR, hQ, e0, -, F⟩ := h
  have eX : X0 % V = X := by rw [e0, Nat.add_comm, Nat.add_mul_mod_self_right, Nat.mod_eq_of_lt hlt]
  have eQ : X0 / V = Q := by rw [e0, Nat.add_comm, Nat.add_mul_div_right _ _ hV, Nat.div_eq_of_lt hlt, Nat.zero_add]
  have hRx : ∀ y, y < 19 → y ≠ q → RX rf nf y (up reg x X y) := by
    intro y hy hyq
    by_cases e : y = x
    · subst e; rw [up_s]; exact RXx
    · rw [up_n _ _ e]; exact hR y hy e hyq
  rw [e_X7_divide_112, if_pos (by rw [z_0, iZ_lt (by omega) (by omega)]; exact hs)]
  unfold dvR
  rw [eX, eQ]
  rcases hq with ⟨q1, q2⟩ | ⟨q1, q2⟩
  · rw [if_pos q2, c00, if_neg (by omega)]
    exact ⟨M, rfl, ⟨rf, nf, hL, fun y hy => hRx y hy (by omega)⟩, F⟩
  · rw [if_neg (by rw [q2, show (-1 : Int32) = iZ (-1) from rfl, iZ_eq (by omega) (by omega)]; omega), if_pos q1, q2, hL.i0]
    have hQm : Q < 2 ^ (16 * m) := by
      have : Q ≤ Q * V := Nat.le_mul_of_pos_right _ hV
      omega
    obtain ⟨t', f, a1, a2⟩ := trimM_l hL q1 m hm hQm (hQ q1)
    rw [e_X7_trim, f]
    simp only [bS, cNn]
    refine ⟨_, c00, ⟨rf, _, hL.n _, ?_⟩, F.trans FM.n⟩
    intro y hy
    by_cases e : y = q
    · subst e
      rw [up_s]
      exact ⟨t', upd_s _ _ _, by omega, a2, fun j hj => hQ q1 j (by omega)⟩
    · rw [up_n _ _ e]
      exact (hRx y hy e).o e (Ot.refl _ _) (upd_n _ _ e)
theorem RX.bits {M : me_M} {B x v : Nat} {rf nf : Nat → Int32} (h : Lo M B rf nf) (hx : x < 19) (hR : RX rf nf x v) : f_X7_bits [.ref B, .int (iZ x)] M = some (some (.int (iZ (bl v))), M) := by
  obtain ⟨s, a, b, c, d⟩ := hR
  have hR : RX rf nf x v := ⟨s, a, b, c, d⟩
  have hL := h
  obtain ⟨⟨t, tl, h0⟩, h1, h2⟩ := h
  rw [e_X7_bits]
  simp only [h0, bS, g2, vF, h2]
  rw [iZ_clampN (by omega), if_neg (nob (iZ_n0 (by omega)) (by omega)), if_neg (nob (iZ_n0 (by omega)) (by omega))]
  simp only [a]
  by_cases hs : s = 0
  · subst hs
    have hz : v = 0 := by have := c.1; rw [Nat.mul_zero, Nat.pow_zero] at this; omega
    rw [if_pos (by rfl), e_X7_bits_25]
    simp only [h0, bS, g2, vF, h2]
    rw [iZ_clampN (by omega), if_neg (nob (iZ_n0 (by omega)) (by omega)), a, z_1, iZ_sub, at_n (by omega) (by omega)]
    simp only [bS, vI]
    have := bits_40 (M := M) 0 0 (by omega)
    rw [hz]
    exact this
  · rw [if_neg (by rw [z_0, iZ_eq (by omega) (by omega)]; omega), e_X7_bits_25]
    simp only [h0, bS, g2, vF, h2]
    rw [iZ_clampN (by omega), if_neg (nob (iZ_n0 (by omega)) (by omega)), a, z_1, iZ_sub, show (s : Int) - 1 = ((s - 1 : Nat) : Int) by omega, at_g hL hx hR (by omega)]
    simp only [bS, vI]
    rw [show (16 : Int32) = iZ 16 from rfl, iZ_mul, iZ_sub, show (16 : Int) * (s : Int) - 16 = ((16 * (s - 1) : Nat) : Int) by omega, bits_40 _ _ (dg_16 _ _), sz_bl16 c (by omega)]
theorem RX.bl_le {rf nf : Nat → Int32} {x v : Nat} (h : RX rf nf x v) : bl v ≤ 2560 := by
  obtain ⟨s, a, b, c, d⟩ := h
  exact bl_le_iff.mpr (Nat.lt_of_lt_of_le c.1 (Nat.pow_le_pow_right (by decide) (by omega)))
/-- one turn: t is the shift that fits -/
theorem div_st {B x b q m X V Q X0 t : Nat} {M0 M : me_M} {reg : Nat → Nat} {qi : Int32} {s0 s1 : Int32} (h : DvI B x b q m X V Q X0 M0 M reg) (hx : x < 19) (hb : b < 19) (hxb : x ≠ b) (hqx : q ≠ x) (hqb : q ≠ b) (hq : (q = 19 ∧ qi = -1) ∨ (q < 19 ∧ qi = iZ q)) (hV : 0 < V) (hm : m ≤ 160) (hX0 : X0 < 2 ^ (16 * m)) (hle : V * 2 ^ t ≤ X) (hgt : X < V * 2 ^ (t + 1)) (ht : t < 10000) (es : s1 - s0 = iZ t) :
    ∃ N : me_M, DvI B x b q m (X - V * 2 ^ t) V (Q + 2 ^ t) X0 M0 N reg ∧ sm T_X7_divide (135, [(0, .ref B), (1, .int (iZ x)), (2, .int (iZ b)), (3, .int qi), (4, .int (iZ m))], [.int s0, .int s1], M, 0, 0) = sm T_X7_divide (182, [(0, .ref B), (1, .int (iZ x)), (2, .int (iZ b)), (3, .int qi), (4, .int (iZ m))], [], N, 0, 0) := by
  obtain ⟨rf, nf, hL, RXx, RXb, hR, hQ, e0, hdv, F⟩ := h
  obtain ⟨g, t', f, hO, a1, a2, a3⟩ := less_g hL hx hb hxb RXx RXb ht hle (Or.inr hV)
  have dQ := hdv t hle
  have e1 : X0 = (Q + 2 ^ t) * V + (X - V * 2 ^ t) := by
    rw [e0, Nat.add_mul, Nat.mul_comm (2 ^ t) V]
    omega
  have hdv' : ∀ j, V * 2 ^ j ≤ X - V * 2 ^ t → 2 ^ (j + 1) ∣ Q + 2 ^ t := by
    intro j hj
    have h1 : V * 2 ^ j < V * 2 ^ t := by
      rw [Nat.pow_succ, ← Nat.mul_assoc] at hgt
      omega
    have h2 : j < t := (Nat.pow_lt_pow_iff_right (by decide : 1 < 2)).mp (Nat.lt_of_mul_lt_mul_left h1)
    exact Nat.dvd_add (Nat.dvd_trans (Nat.pow_dvd_pow 2 (by omega)) dQ) (Nat.pow_dvd_pow 2 (by omega))
  have hL1 : Lo (me_set (mA M (B + 1) 3040 g) (B + 2) (.inl (0, 19, .inl (upd nf x (iZ t'))))) B g (upd nf x (iZ t')) := (hL.a g).n _
  have F1 : FM M0 (me_set (mA M (B + 1) 3040 g) (B + 2) (.inl (0, 19, .inl (upd nf x (iZ t'))))) B := (F.trans FM.a).trans FM.n
  have RXx1 : RX g (upd nf x (iZ t')) x (X - V * 2 ^ t) := ⟨t', upd_s _ _ _, a1, a2, a3⟩
  have hR1 : ∀ y, y < 19 → y ≠ x → y ≠ q → RX g (upd nf x (iZ t')) y (reg y) := fun y hy e1 e2 => (hR y hy e1 e2).o e1 hO (upd_n _ _ e1)
  have RXb1 : RX g (upd nf x (iZ t')) b V := RXb.o (fun e => hxb e.symm) hO (upd_n _ _ (fun e => hxb e.symm))
  rw [e_X7_divide_135, es, if_neg (iZ_n0 (by omega)), hL.i0, f]
  simp only [bS, cNn]
  rcases hq with ⟨q1, q2⟩ | ⟨q1, q2⟩
  · rw [if_pos q2]
    exact ⟨_, ⟨g, _, hL1, RXx1, RXb1, hR1, fun z => absurd z (by omega), e1, hdv', F1⟩, rfl⟩
  · rw [if_neg (by rw [q2, show (-1 : Int32) = iZ (-1) from rfl, iZ_eq (by omega) (by omega)]; omega)]
    obtain ⟨N, hN⟩ : ∃ N, N = me_set (mA M (B + 1) 3040 g) (B + 2) (.inl (0, 19, .inl (upd nf x (iZ t')))) := ⟨_, rfl⟩
    rw [← hN] at hL1 F1 ⊢
    obtain ⟨⟨u, tl, h0⟩, h1, h2⟩ := hL1
    have hd : iZ (t : Int) / (16 : Int32) = iZ ((t / 16 : Nat) : Int) := iZ_div (b := 16) (by omega) (by omega) (by omega)
    have hrm : iZ (t : Int) - iZ (t : Int) / (16 : Int32) * (16 : Int32) = iZ ((t % 16 : Nat) : Int) := iZ_rem (b := 16) (by omega) (by omega) (by omega)
    have htm : t / 16 < m := by
      have k1 : 2 ^ t ≤ V * 2 ^ t := Nat.le_mul_of_pos_left _ hV
      have k2 : X ≤ X0 := by omega
      have k3 : 2 ^ t < 2 ^ (16 * m) := by omega
      have := (Nat.pow_lt_pow_iff_right (by decide : 1 < 2)).mp k3
      omega
    have hp : 2 ^ (t % 16) < 65536 := Nat.lt_of_lt_of_le (Nat.pow_lt_pow_right (by decide) (Nat.mod_lt t (by decide : 0 < 16))) (Nat.le_refl _)
    have hsh : (1 : Int32) <<< (iZ ((t % 16 : Nat) : Int) &&& 31) = iZ ((2 ^ (t % 16) : Nat) : Int) := by
      have := iZ_shl (x := 1) (k := t % 16) (by omega) (by omega)
      rw [Nat.one_mul] at this
      exact this
    have hgq : g (160 * q + t / 16) = iZ ((dg 16 Q (t / 16) : Nat) : Int) := by
      rw [hO _ (by omega)]
      exact hQ q1 _ htm
    simp only [h0, bS, g1, vF, h1, hd, hrm, q2, ix16]
    rw [if_neg (by decide : ¬ (16 : Int32) = 0), iZ_clampN (by omega), if_neg (nob (iZ_n0 (by omega)) (by omega)), if_neg (by decide : ¬ (16 : Int32) = 0), if_neg (nob (iZ_n0 (by omega)) (by omega)), ← hd, hrm, hsh, hgq, iZ_add]
    have hL2 : Lo (mA N (B + 1) 3040 (upd g (160 * q + t / 16) (iZ (((dg 16 Q (t / 16) : Nat) : Int) + ((2 ^ (t % 16) : Nat) : Int))))) B _ (upd nf x (iZ t')) := Lo.a ⟨⟨u, tl, h0⟩, h1, h2⟩ _
    have hO2 : Ot (upd g (160 * q + t / 16) (iZ (((dg 16 Q (t / 16) : Nat) : Int) + ((2 ^ (t % 16) : Nat) : Int)))) g q := (Ot.refl g q).upd (by omega)
    refine ⟨_, ⟨_, _, hL2, RXx1.o (fun e => hqx e.symm) hO2 rfl, RXb1.o (fun e => hqb e.symm) hO2 rfl, fun y hy k1 k2 => (hR1 y hy k1 k2).o k2 hO2 rfl, ?_, e1, hdv', F1.trans FM.a⟩, rfl⟩
    intro _ j hj
    rw [dg_bit dQ]
    by_cases e : j = t / 16
    · subst e
      rw [upd_s, if_pos rfl]
      rfl
    · rw [upd_n _ _ (by omega), if_neg e, Nat.add_zero, hO _ (by omega)]
      exact hQ q1 j hj
theorem div_l {B x b q m V X0 : Nat} {M0 : me_M} {reg : Nat → Nat} {qi : Int32} (hx : x < 19) (hb : b < 19) (hxb : x ≠ b) (hqx : q ≠ x) (hqb : q ≠ b) (hq : (q = 19 ∧ qi = -1) ∨ (q < 19 ∧ qi = iZ q)) (hV : 0 < V) (hm : m ≤ 160) (hX0 : X0 < 2 ^ (16 * m)) (eb : reg b = V) : ∀ (X Q : Nat) (M : me_M), DvI B x b q m X V Q X0 M0 M reg →
    ∃ M' : me_M, sm T_X7_divide (112, [(0, .ref B), (1, .int (iZ x)), (2, .int (iZ b)), (3, .int qi), (4, .int (iZ m)), (5, .int (iZ ((bl X : Int) - (bl V : Int))))], [], M, 0, 0) = some (none, M') ∧ RG M' B (dvR reg x q X0 V) ∧ FM M0 M' B := by
  intro X
  induction X using Nat.strongRecOn with
  | _ X ih =>
    intro Q M h
    have hI := h
    obtain ⟨rf, nf, hL, RXx, RXb, hR, hQ, e0, hdv, F⟩ := h
    have b1 := RXx.bl_le
    have b2 := RXb.bl_le
    rcases Int.lt_or_le ((bl X : Int) - (bl V : Int)) 0 with hneg | hpos
    · exact div_e hI hx hb hxb hqx hqb hq hV hm hX0 (lt_bl (by omega)) hneg (by omega) eb
    · obtain ⟨s, hs⟩ : ∃ s : Nat, (bl X : Int) - (bl V : Int) = (s : Int) := ⟨bl X - bl V, by omega⟩
      have hs9 : s < 10000 := by omega
      have hV2 : bl (V * 2 ^ s) = bl X := by rw [bl_mul hV]; omega
      have hup : X < V * 2 ^ (s + 1) := lt_bl (by rw [bl_mul hV]; omega)
      have hbl := below_g (s := s) hL hx hb RXx RXb hs9 (fun t _ _ hX => bl_le_iff.mp (by rw [hV2]; exact bl_le_iff.mpr hX))
      have next : ∀ (t : Nat) (N : me_M), V * 2 ^ t ≤ X → DvI B x b q m (X - V * 2 ^ t) V (Q + 2 ^ t) X0 M0 N reg → ∃ M' : me_M, sm T_X7_divide (182, [(0, .ref B), (1, .int (iZ x)), (2, .int (iZ b)), (3, .int qi), (4, .int (iZ m))], [], N, 0, 0) = some (none, M') ∧ RG M' B (dvR reg x q X0 V) ∧ FM M0 M' B := by
        intro t N ht hN
        have hp : 0 < V * 2 ^ t := Nat.mul_pos hV (Nat.two_pow_pos _)
        obtain ⟨M', f, P, F'⟩ := ih (X - V * 2 ^ t) (by omega) (Q + 2 ^ t) N hN
        obtain ⟨rf', nf', hL', RXx', RXb', _⟩ := hN
        refine ⟨M', ?_, P, F'⟩
        rw [e_X7_divide_182, hL'.i0, RXx'.bits hL' hx]
        simp only [bS, vI]
        rw [hL'.i0, RXb'.bits hL' hb]
        simp only [bS, vI]
        rw [iZ_sub]
        exact f
      rw [hs, e_X7_divide_112, if_neg (iZ_n0 (by omega)), hL.i0, hbl]
      simp only [bS, vI]
      by_cases hc : X < V * 2 ^ s
      · rw [if_pos hc, if_neg i10]
        by_cases hs0 : s = 0
        · subst hs0
          rw [Nat.pow_zero, Nat.mul_one] at hc
          have e9 : iZ ((0 : Nat) : Int) - 1 = iZ (-1) := rfl
          rw [e_X7_divide_135, e9, if_pos (by decide)]
          exact div_e hI hx hb hxb hqx hqb hq hV hm hX0 hc (by omega) (by omega) eb
        · obtain ⟨t, ht⟩ : ∃ t, s = t + 1 := ⟨s - 1, by omega⟩
          subst ht
          have hle : V * 2 ^ t ≤ X := by
            rcases Nat.lt_or_ge X (V * 2 ^ t) with k | k
            · have k2 := bl_mono (Nat.le_of_lt k)
              rw [bl_mul hV] at k2 hV2
              omega
            · exact k
          obtain ⟨N, hN, f⟩ := div_st (s0 := 1) (s1 := iZ ((t + 1 : Nat) : Int)) hI hx hb hxb hqx hqb hq hV hm hX0 hle hc (by omega) (by rw [z_1, iZ_sub]; congr 1; omega)
          rw [f]
          exact next t N hle hN
      · rw [if_neg hc, if_pos rfl]
        obtain ⟨N, hN, f⟩ := div_st (s0 := 0) (s1 := iZ (s : Int)) hI hx hb hxb hqx hqb hq hV hm hX0 (by omega) hup (by omega) (by rw [z_0, iZ_sub]; congr 1)
        rw [f]
        exact next s N (by omega) hN
theorem zeroM_l {M : me_M} {B x b q m : Nat} {rf nf : Nat → Int32} (h : Lo M B rf nf) (hq : q < 19) (hm : m ≤ 160) : ∀ (d k : Nat) (g : Nat → Int32), d + k = m → Ot g rf q → (∀ j, j < k → g (160 * q + j) = 0) →
    ∃ g' : Nat → Int32, sm T_X7_divide (67, [(0, .ref B), (1, .int (iZ x)), (2, .int (iZ b)), (3, .int (iZ q)), (4, .int (iZ m)), (5, .int (iZ k))], [], mA M (B + 1) 3040 g, 0, 0) = sm T_X7_divide (99, [(0, .ref B), (1, .int (iZ x)), (2, .int (iZ b)), (3, .int (iZ q)), (4, .int (iZ m))], [], mA M (B + 1) 3040 g', 0, 0) ∧ Ot g' rf q ∧ ∀ j, j < m → g' (160 * q + j) = 0 := by
  intro d
  induction d with
  | zero =>
    intro k g hd hO hg
    have e : k = m := by omega
    subst e
    refine ⟨g, ?_, hO, hg⟩
    rw [e_X7_divide_67, if_pos (by rw [iZ_le (by omega) (by omega)]; omega)]
  | succ d ih =>
    intro k g hd hO hg
    obtain ⟨⟨u, tl, h0⟩, h1, h2⟩ := h.a g
    have eM : ∀ z, me_set (mA M (B + 1) 3040 g) (B + 1) (.inl (0, 3040, .inl z)) = mA M (B + 1) 3040 z := fun z => set_set _ _ _ _
    rw [e_X7_divide_67, if_neg (by rw [iZ_le (by omega) (by omega)]; omega), if_neg (by rw [show (-1 : Int32) = iZ (-1) from rfl, iZ_eq (by omega) (by omega)]; omega)]
    simp only [h0, bS, g1, vF, h1, ix16, eM]
    rw [iZ_clampN (by omega), if_neg (nob (iZ_n0 (by omega)) (by omega)), z_p1]
    refine ih (k + 1) _ (by omega) (hO.upd (by omega)) (fun j hj => ?_)
    by_cases e : j = k
    · subst e; rw [upd_s]
    · rw [upd_n _ _ (by omega)]; exact hg j (by omega)
theorem Sz.le3 {v s : Nat} (h : Sz 16 v s) (hs : s ≤ 3) : v < 281474976710656 := by
  have := Nat.lt_of_lt_of_le h.1 (pw_le 16 hs)
  rw [show 2 ^ (16 * 3) = 281474976710656 by decide] at this
  exact this
theorem divide_g {M : me_M} {B x b q : Nat} {reg : Nat → Nat} {qi : Int32} (h : RG M B reg) (hx : x < 19) (hb : b < 19) (hxb : x ≠ b) (hqx : q ≠ x) (hqb : q ≠ b) (hq : (q = 19 ∧ qi = -1) ∨ (q < 19 ∧ qi = iZ q)) (hV : 0 < reg b) :
    ∃ M' : me_M, f_X7_divide [.ref B, .int (iZ x), .int (iZ b), .int qi] M = some (none, M') ∧ RG M' B (dvR reg x q (reg x) (reg b)) ∧ FM M M' B := by
  have hRG := h
  obtain ⟨rf, nf, h, hR⟩ := h
  obtain ⟨s, a1, a2, a3, a4⟩ := hR x hx
  obtain ⟨s', c1, c2, c3, c4⟩ := hR b hb
  -- the long road
  have long : ∃ M' : me_M, sm T_X7_divide (67, [(0, .ref B), (1, .int (iZ x)), (2, .int (iZ b)), (3, .int qi), (4, .int (iZ s)), (5, .int (0 : Int32))], [], M, 0, 0) = some (none, M') ∧ RG M' B (dvR reg x q (reg x) (reg b)) ∧ FM M M' B := by
    have fin : ∀ N : me_M, DvI B x b q s (reg x) (reg b) 0 (reg x) M N reg → ∃ M' : me_M, sm T_X7_divide (99, [(0, .ref B), (1, .int (iZ x)), (2, .int (iZ b)), (3, .int qi), (4, .int (iZ s))], [], N, 0, 0) = some (none, M') ∧ RG M' B (dvR reg x q (reg x) (reg b)) ∧ FM M M' B := by
      intro N hN
      obtain ⟨M', f, P, F⟩ := div_l hx hb hxb hqx hqb hq hV a2 a3.1 rfl (reg x) 0 N hN
      obtain ⟨rf', nf', hL', RXx', RXb', _⟩ := hN
      refine ⟨M', ?_, P, F⟩
      rw [e_X7_divide_99, hL'.i0, RXx'.bits hL' hx]
      simp only [bS, vI]
      rw [hL'.i0, RXb'.bits hL' hb]
      simp only [bS, vI]
      rw [iZ_sub]
      exact f
    rcases hq with ⟨q1, q2⟩ | ⟨q1, q2⟩
    · obtain ⟨M', f, P, F⟩ := fin M ⟨rf, nf, h, hR x hx, hR b hb, fun y hy _ _ => hR y hy, fun z => absurd z (by omega), by omega, fun j _ => Nat.dvd_zero _, FM.refl _ _⟩
      refine ⟨M', ?_, P, F⟩
      rw [e_X7_divide_67, if_pos q2, ite_self]
      exact f
    · subst q2
      obtain ⟨g', f0, O', z'⟩ := zeroM_l (x := x) (b := b) h q1 a2 s 0 rf (by omega) (Ot.refl _ _) (fun j hj => absurd hj (by omega))
      rw [mA_self h.2.1] at f0
      obtain ⟨M', f, P, F⟩ := fin (mA M (B + 1) 3040 g') ⟨g', nf, h.a g', (hR x hx).o (fun e => hqx e.symm) O' rfl, (hR b hb).o (fun e => hqb e.symm) O' rfl, fun y hy _ k2 => (hR y hy).o k2 O' rfl, fun _ j hj => by rw [z' j hj, dg_of0]; rfl, by omega, fun j _ => Nat.dvd_zero _, FM.a⟩
      refine ⟨M', ?_, P, F⟩
      exact f0.trans f
  obtain ⟨⟨u, tl, h0⟩, h1, h2⟩ := h
  rw [e_X7_divide]
  simp only [h0, bS, g2, vF, h2]
  rw [iZ_clampN (by omega : x < 2147483648), iZ_clampN (by omega : b < 2147483648), if_neg (nob (iZ_n0 (by omega)) (by omega)), if_neg (nob (iZ_n0 (by omega)) (by omega))]
  simp only [a1, c1]
  by_cases k1 : 3 < s
  · rw [if_pos (by rw [show (3 : Int32) = iZ 3 from rfl, iZ_lt (by omega) (by omega)]; omega)]
    exact long
  · rw [if_neg (by rw [show (3 : Int32) = iZ 3 from rfl, iZ_lt (by omega) (by omega)]; omega)]
    by_cases k2 : 3 < s'
    · rw [if_pos (by rw [show (3 : Int32) = iZ 3 from rfl, iZ_lt (by omega) (by omega)]; omega)]
      exact long
    · rw [if_neg (by rw [show (3 : Int32) = iZ 3 from rfl, iZ_lt (by omega) (by omega)]; omega)]
      have l1 := a3.le3 (by omega)
      have l2 := c3.le3 (by omega)
      rw [low_g hRG hx (by omega)]
      simp only [bS, vL, h0]
      rw [low_g hRG hb (by omega)]
      simp only [bS, vL, h0]
      have hv0 : ¬ lZ ((reg b : Nat) : Int) = 0 := by rw [lZ_z (by omega)]; omega
      have hdl : reg x / reg b ≤ reg x := Nat.div_le_self _ _
      have hml : reg x % reg b < reg b := Nat.mod_lt _ hV
      obtain ⟨N, f1, P1, F1⟩ := put_g (U := reg x % reg b) hRG hx (by omega)
      rw [if_neg hv0, lZ_rem (by omega) hV (by omega), f1, lZ_div (by omega) hV (by omega)]
      simp only [bS, cNn]
      unfold dvR
      rcases hq with ⟨q1, q2⟩ | ⟨q1, q2⟩
      · rw [if_pos q2, e_X7_divide_63, c00, if_neg (by omega)]
        exact ⟨N, rfl, P1, F1⟩
      · obtain ⟨L, f2, P2, F2⟩ := put_g (U := reg x / reg b) P1 q1 (by omega)
        rw [if_neg (by rw [q2, show (-1 : Int32) = iZ (-1) from rfl, iZ_eq (by omega) (by omega)]; omega), if_neg hv0, P1.i0, q2, f2, if_pos q1]
        simp only [bS, cNn]
        rw [e_X7_divide_63, c00]
        exact ⟨L, rfl, P2, F1.trans F2⟩
