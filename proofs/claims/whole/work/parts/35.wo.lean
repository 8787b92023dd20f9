/-! one turn of the division: the guess, told of the numbers -/
theorem gs_lt (high low d1 d2 : Nat) : gs high low d1 d2 < 2147483648 := by
  unfold gs
  have hm2 : min (high / d1) 2147483647 ≤ 2147483647 := Nat.min_le_right _ _
  split <;> omega
theorem tl_lt (e0 e1 e2 sh : Nat) : tl e0 e1 e2 sh < 4611686018427387904 := Nat.mod_lt _ (by decide)
/-- the limb below: bits 31 to 61 of two limbs shifted up -/
theorem tl_low {T m sh e2 : Nat} (hsh : sh ≤ 30) (hm : 0 < m) (b2 : e2 < 2147483648) : tl (dg 31 T m) (dg 31 T (m - 1)) e2 sh / 2147483648 % 2147483648 = T * 2 ^ sh / 2 ^ (31 * m) % 2147483648 := by
  have hp := Nat.two_pow_pos sh
  have hsm : e2 / 2 ^ (31 - sh) < 2 ^ sh := by
    rw [Nat.div_lt_iff_lt_mul (Nat.two_pow_pos _), ← Nat.pow_add, show sh + (31 - sh) = 31 by omega]
    exact b2
  have e31 : (2147483648 : Nat) = 2 ^ (31 - sh) * 2 ^ sh := by rw [← Nat.pow_add, show 31 - sh + sh = 31 by omega]
  have hl : tl (dg 31 T m) (dg 31 T (m - 1)) e2 sh / 2147483648 % 2147483648 = (dg 31 T m * 2 ^ sh + dg 31 T (m - 1) / 2 ^ (31 - sh)) % 2147483648 := by
    unfold tl
    rw [show (4611686018427387904 : Nat) = 2147483648 * 2147483648 from rfl, Nat.mod_mul_right_div_self, Nat.mod_mod]
    congr 1
    rw [Nat.pow_add, show (2 : Nat) ^ 31 = 2147483648 from rfl, ← Nat.mul_assoc, Nat.mul_comm (dg 31 T m) 2147483648, Nat.mul_assoc, Nat.add_assoc, Nat.mul_add_div (by decide)]
    congr 1
    conv => lhs; rw [e31]
    rw [Nat.mul_comm (2 ^ (31 - sh)), ← Nat.div_div_eq_div_mul]
    congr 1
    rw [Nat.add_comm, Nat.add_mul_div_right _ _ hp, Nat.div_eq_of_lt hsm, Nat.zero_add]
  rw [hl]
  have d1 : T / 2 ^ (31 * (m - 1)) = 2147483648 * (T / 2 ^ (31 * m)) + dg 31 T (m - 1) := by
    have := dv_s 31 T (m - 1)
    rw [show m - 1 + 1 = m by omega] at this
    exact this
  have e : T * 2 ^ sh / 2 ^ (31 * m) = T / 2 ^ (31 * m) * 2 ^ sh + dg 31 T (m - 1) / 2 ^ (31 - sh) := by
    have e5 : 2 ^ (31 * m) = 2 ^ (31 * (m - 1)) * 2 ^ (31 - sh) * 2 ^ sh := by
      rw [← Nat.pow_add, ← Nat.pow_add]
      congr 1
      omega
    conv => lhs; rw [e5]
    rw [Nat.mul_div_mul_right _ _ hp, ← Nat.div_div_eq_div_mul, d1]
    conv => lhs; rw [e31]
    rw [Nat.mul_assoc, Nat.mul_add_div (Nat.two_pow_pos _), Nat.mul_comm (2 ^ sh)]
  rw [e]
  have e6 : T / 2 ^ (31 * m) = 2147483648 * (T / 2 ^ (31 * m) / 2147483648) + dg 31 T m := (Nat.div_add_mod _ _).symm
  conv => rhs; rw [e6]
  rw [Nat.add_mul, Nat.mul_assoc, Nat.add_assoc, Nat.mul_add_mod]
theorem dv_guess {n D R d y sh e e2 : Nat} (hn : 2 ≤ n) (hD : Sz 31 D n) (hR : R < D) (hd : d < 2147483648) (hy : y < 2147483648) (hsh : sh = 31 - bl (dg 31 D (n - 1))) (he : e < 2147483648) (he2 : e2 = if n - 1 = 1 then 0 else dg 31 D (n - 1 - 2)) (X T : Nat) (hX : X = R * 2147483648 + d) (hT : T = X * 2147483648 + y) :
    X / D ≤ gs (tl (dg 31 T (n + 1)) (dg 31 T (n + 1 - 1)) (dg 31 T (n + 1 - 2)) sh) (tl (dg 31 T (n - 1)) (dg 31 T (n - 1 - 1)) e sh / 2147483648 % 2147483648) (tl (dg 31 D (n - 1)) (dg 31 D (n - 1 - 1)) e2 sh / 2147483648) (tl (dg 31 D (n - 1)) (dg 31 D (n - 1 - 1)) e2 sh % 2147483648) ∧ gs (tl (dg 31 T (n + 1)) (dg 31 T (n + 1 - 1)) (dg 31 T (n + 1 - 2)) sh) (tl (dg 31 T (n - 1)) (dg 31 T (n - 1 - 1)) e sh / 2147483648 % 2147483648) (tl (dg 31 D (n - 1)) (dg 31 D (n - 1 - 1)) e2 sh / 2147483648) (tl (dg 31 D (n - 1)) (dg 31 D (n - 1 - 1)) e2 sh % 2147483648) ≤ X / D + 1 ∧ 0 < tl (dg 31 D (n - 1)) (dg 31 D (n - 1 - 1)) e2 sh / 2147483648 := by
  have hp := Nat.two_pow_pos sh
  obtain ⟨hbl, htop⟩ := hD.bl (by omega)
  have hdl := dg_31 D (n - 1)
  have hbp := bl_pos (v := dg 31 D (n - 1)) (by omega)
  have hb31 : bl (dg 31 D (n - 1)) ≤ 31 := bl_le_iff.mpr hdl
  have hDsh : D * 2 ^ sh < 2 ^ (31 * n) := by
    have h1 : D < 2 ^ bl D := bl_lt D
    have h2 : D * 2 ^ sh < 2 ^ bl D * 2 ^ sh := Nat.mul_lt_mul_of_pos_right h1 hp
    rw [← Nat.pow_add, hbl, show 31 * (n - 1) + bl (dg 31 D (n - 1)) + sh = 31 * n by omega] at h2
    exact h2
  have hXD : X < D * 2147483648 := by
    have := Nat.mul_le_mul_right 2147483648 (show R + 1 ≤ D by omega)
    omega
  have hTD : T < D * 2147483648 * 2147483648 := by
    have := Nat.mul_le_mul_right 2147483648 (show X + 1 ≤ D * 2147483648 by omega)
    omega
  have hTsh : T * 2 ^ sh < 2 ^ (31 * (n + 1 + 1)) := by
    have h1 : T * 2 ^ sh < D * 2147483648 * 2147483648 * 2 ^ sh := Nat.mul_lt_mul_of_pos_right hTD hp
    have h2 : D * 2147483648 * 2147483648 * 2 ^ sh = D * 2 ^ sh * (2147483648 * 2147483648) := by grind
    have h3 : 2 ^ (31 * (n + 1 + 1)) = 2 ^ (31 * n) * (2147483648 * 2147483648) := by rw [show 31 * (n + 1 + 1) = 31 * n + 62 by omega, Nat.pow_add]
    have h4 := Nat.mul_lt_mul_of_pos_right hDsh (show 0 < 2147483648 * 2147483648 by decide)
    omega
  have t1 := tl_eq (V := T) (i := n + 1) (sh := sh) (e2 := dg 31 T (n + 1 - 2)) (by omega) (by omega) hTsh (by rw [if_neg (by omega)])
  have t2 := tl_eq (V := D) (i := n - 1) (sh := sh) (e2 := e2) (by omega) (by omega) (by rw [show n - 1 + 1 = n by omega]; exact hDsh) he2
  have t3 := tl_low (T := T) (m := n - 1) (sh := sh) (e2 := e) (by omega) (by omega) he
  have eP : (2 : Nat) ^ (31 * (n - 1)) = 2 ^ (31 * (n - 1 - 1)) * 2147483648 := by rw [show 31 * (n - 1) = 31 * (n - 1 - 1) + 31 by omega, Nat.pow_add]
  have eE : D * 2147483648 * 2 ^ sh / 2 ^ (31 * (n - 1)) = D * 2 ^ sh / 2 ^ (31 * (n - 1 - 1)) := by
    rw [eP, show D * 2147483648 * 2 ^ sh = D * 2 ^ sh * 2147483648 by grind, Nat.mul_div_mul_right _ _ (by decide)]
  have eN : T * 2 ^ sh / 2 ^ (31 * (n - 1)) / 2147483648 = T * 2 ^ sh / 2 ^ (31 * (n + 1 - 1)) := by
    rw [Nat.div_div_eq_div_mul]
    congr 1
    rw [show 31 * (n + 1 - 1) = 31 * (n - 1) + 31 by omega, Nat.pow_add]
  have eq : T * 2 ^ sh / (D * 2147483648 * 2 ^ sh) = X / D := by
    rw [Nat.mul_div_mul_right _ _ hp, Nat.mul_comm D, ← Nat.div_div_eq_div_mul, hT]
    congr 1
    omega
  have hd1 : 1073741824 ≤ D * 2147483648 * 2 ^ sh / 2 ^ (31 * (n - 1)) / 2147483648 := by
    rw [eE, Nat.div_div_eq_div_mul, ← eP, Nat.le_div_iff_mul_le (Nat.two_pow_pos _)]
    have h1 : 2 ^ (bl D - 1) ≤ D := bl_le (by omega)
    have h2 : 2 ^ (bl D - 1) * 2 ^ sh ≤ D * 2 ^ sh := Nat.mul_le_mul_right _ h1
    rw [← Nat.pow_add, hbl, show 31 * (n - 1) + bl (dg 31 D (n - 1)) - 1 + sh = 30 + 31 * (n - 1) by omega, Nat.pow_add] at h2
    exact h2
  have hqd : X / D < 2147483648 := by
    rw [Nat.div_lt_iff_lt_mul (by omega), Nat.mul_comm]
    exact hXD
  have key := gs_ok (N := T * 2 ^ sh) (E := D * 2147483648 * 2 ^ sh) (P := 2 ^ (31 * (n - 1))) (Nat.two_pow_pos _) (Nat.mul_pos (Nat.mul_pos (by omega) (by decide)) hp) hd1 (by rw [eq]; exact hqd)
  rw [eq, eN, eE] at key
  rw [eE] at hd1
  rw [t1, t2, t3]
  exact ⟨key.1, key.2, by omega⟩
