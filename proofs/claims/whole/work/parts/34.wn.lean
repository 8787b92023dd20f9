/-! Knuth's algorithm D: the guess is right or one too many -/
theorem gs_eq {U3 V2 : Nat} (h1 : 0 < V2 / 2147483648) : gs (U3 / 2147483648) (U3 % 2147483648) (V2 / 2147483648) (V2 % 2147483648) = (if U3 < min (U3 / 2147483648 / (V2 / 2147483648)) 2147483647 * V2 then min (U3 / 2147483648 / (V2 / 2147483648)) 2147483647 - 1 else min (U3 / 2147483648 / (V2 / 2147483648)) 2147483647) := by
  unfold gs
  have hU := Nat.div_add_mod U3 2147483648
  have hV := Nat.div_add_mod V2 2147483648
  have hlow : U3 % 2147483648 < 2147483648 := Nat.mod_lt _ (by decide)
  have hd2 : V2 % 2147483648 < 2147483648 := Nat.mod_lt _ (by decide)
  generalize U3 / 2147483648 = high at *
  generalize V2 / 2147483648 = d1 at *
  generalize U3 % 2147483648 = low at *
  generalize V2 % 2147483648 = d2 at *
  have hm1 : min (high / d1) 2147483647 ≤ high / d1 := Nat.min_le_left _ _
  have hm2 : min (high / d1) 2147483647 ≤ 2147483647 := Nat.min_le_right _ _
  have hmul : min (high / d1) 2147483647 * d1 ≤ high := Nat.le_trans (Nat.mul_le_mul_right d1 hm1) (Nat.div_mul_le_self _ _)
  generalize min (high / d1) 2147483647 = Q at *
  have hQ2 : Q * d2 ≤ 2147483647 * 2147483647 := Nat.mul_le_mul hm2 (by omega)
  have e : Q * V2 = 2147483648 * (Q * d1) + Q * d2 := by
    rw [← hV, Nat.mul_add]
    congr 1
    rw [← Nat.mul_assoc, Nat.mul_comm Q, Nat.mul_assoc]
  rw [e]
  generalize Q * d1 = A at *
  generalize Q * d2 = B at *
  by_cases h : U3 < 2147483648 * A + B
  · rw [if_pos h, if_pos (by omega)]
  · rw [if_neg h, if_neg (by omega)]
theorem gs_ok {N E P : Nat} (hP : 0 < P) (hE : 0 < E) (hd1 : 1073741824 ≤ E / P / 2147483648) (hq : N / E < 2147483648) :
    N / E ≤ gs (N / P / 2147483648) (N / P % 2147483648) (E / P / 2147483648) (E / P % 2147483648) ∧ gs (N / P / 2147483648) (N / P % 2147483648) (E / P / 2147483648) (E / P % 2147483648) ≤ N / E + 1 := by
  rw [gs_eq (by omega)]
  have hN1 := Nat.div_mul_le_self N P
  have hN2 : N < (N / P + 1) * P := by
    have := Nat.lt_div_mul_add hP (a := N)
    rw [Nat.add_mul, Nat.one_mul]
    exact this
  have hE1 := Nat.div_mul_le_self E P
  have hE2 : E < (E / P + 1) * P := by
    have := Nat.lt_div_mul_add hP (a := E)
    rw [Nat.add_mul, Nat.one_mul]
    exact this
  have hq1 := Nat.div_mul_le_self N E
  have hq2 : N < (N / E + 1) * E := by
    have := Nat.lt_div_mul_add hE (a := N)
    rw [Nat.add_mul, Nat.one_mul]
    exact this
  generalize N / E = q at *
  generalize hU : N / P = U at *
  generalize hV : E / P = V at *
  -- q V ≤ U
  have c1 : q * V ≤ U := by
    apply Nat.le_of_lt_succ
    apply Nat.lt_of_mul_lt_mul_right (a := P)
    calc q * V * P = q * (V * P) := Nat.mul_assoc _ _ _
      _ ≤ q * E := Nat.mul_le_mul_left q hE1
      _ ≤ N := hq1
      _ < (U + 1) * P := hN2
  -- U < (q + 1) (V + 1)
  have c2 : U < (q + 1) * (V + 1) := by
    apply Nat.lt_of_mul_lt_mul_right (a := P)
    calc U * P ≤ N := hN1
      _ < (q + 1) * E := hq2
      _ ≤ (q + 1) * ((V + 1) * P) := Nat.mul_le_mul_left _ (Nat.le_of_lt hE2)
      _ = (q + 1) * (V + 1) * P := (Nat.mul_assoc _ _ _).symm
  have hVd := Nat.div_add_mod V 2147483648
  have hd2 : V % 2147483648 < 2147483648 := Nat.mod_lt _ (by decide)
  generalize hd : V / 2147483648 = d1 at *
  have a1 : q ≤ U / 2147483648 / d1 := by
    rw [Nat.le_div_iff_mul_le (by omega), Nat.le_div_iff_mul_le (by decide), Nat.mul_assoc]
    refine Nat.le_trans (Nat.mul_le_mul_left q ?_) c1
    omega
  have a2 : q ≤ min (U / 2147483648 / d1) 2147483647 := by
    rw [Nat.le_min]
    exact ⟨a1, by omega⟩
  have b1 : min (U / 2147483648 / d1) 2147483647 * d1 ≤ U / 2147483648 := Nat.le_trans (Nat.mul_le_mul_right d1 (Nat.min_le_left _ _)) (Nat.div_mul_le_self _ _)
  have b2 : U / 2147483648 < (q + 1) * (d1 + 1) := by
    rw [Nat.div_lt_iff_lt_mul (by decide), Nat.mul_assoc]
    refine Nat.lt_of_lt_of_le c2 (Nat.mul_le_mul_left _ ?_)
    omega
  generalize min (U / 2147483648 / d1) 2147483647 = G at *
  have b3 : G ≤ q + 2 := by
    apply Nat.le_of_not_lt
    intro h
    have h3 : (q + 3) * d1 ≤ G * d1 := Nat.mul_le_mul_right d1 h
    have h4 : (q + 3) * d1 = q * d1 + 3 * d1 := Nat.add_mul _ _ _
    have h5 : (q + 1) * (d1 + 1) = q * d1 + q + d1 + 1 := by rw [Nat.add_mul, Nat.mul_add]; omega
    omega
  by_cases h : U < G * V
  · rw [if_pos h]
    have : q < G := by
      apply Nat.lt_of_not_le
      intro h2
      have := Nat.mul_le_mul_right V h2
      omega
    omega
  · rw [if_neg h]
    refine ⟨a2, ?_⟩
    apply Nat.le_of_not_lt
    intro h2
    have h3 : (q + 2) * V ≤ G * V := Nat.mul_le_mul_right V h2
    have h4 : (q + 2) * V = q * V + 2 * V := Nat.add_mul _ _ _
    have h5 : (q + 1) * (V + 1) = q * V + q + V + 1 := by rw [Nat.add_mul, Nat.mul_add]; omega
    omega
/-- the two highest limbs of a number shifted up -/
theorem tl_eq {V i sh e2 : Nat} (hsh : sh ≤ 30) (hi : 0 < i) (hV : V * 2 ^ sh < 2 ^ (31 * (i + 1))) (he : e2 = if i = 1 then 0 else dg 31 V (i - 2)) : tl (dg 31 V i) (dg 31 V (i - 1)) e2 sh = V * 2 ^ sh / 2 ^ (31 * (i - 1)) := by
  have hp := Nat.two_pow_pos sh
  have hV0 : V < 2 ^ (31 * (i + 1)) := Nat.lt_of_le_of_lt (Nat.le_mul_of_pos_right V hp) hV
  have d0 : V / 2 ^ (31 * i) = dg 31 V i := by
    unfold dg
    refine (Nat.mod_eq_of_lt ?_).symm
    rw [Nat.div_lt_iff_lt_mul (Nat.two_pow_pos _), ← Nat.pow_add, show 31 + 31 * i = 31 * (i + 1) by omega]
    exact hV0
  have d1 := dv_s 31 V (i - 1)
  rw [show i - 1 + 1 = i by omega, d0] at d1
  have hdm := Nat.div_add_mod V (2 ^ (31 * (i - 1)))
  have hfr : V % 2 ^ (31 * (i - 1)) * 2 ^ sh / 2 ^ (31 * (i - 1)) = e2 / 2 ^ (31 - sh) := by
    subst he
    by_cases h1 : i = 1
    · subst h1
      rw [if_pos rfl]
      simp [Nat.mod_one]
    · rw [if_neg h1]
      have h2 : V % 2 ^ (31 * (i - 1)) / 2 ^ (31 * (i - 2)) = dg 31 V (i - 2) := by
        unfold dg
        rw [show 31 * (i - 1) = 31 * (i - 2) + 31 by omega, Nat.pow_add, Nat.mod_mul_right_div_self]
      rw [← h2, Nat.div_div_eq_div_mul, ← Nat.pow_add, show 31 * (i - 1) = (31 * (i - 2) + (31 - sh)) + sh by omega, Nat.pow_add, Nat.mul_div_mul_right _ _ hp]
  have hsum : V * 2 ^ sh / 2 ^ (31 * (i - 1)) = dg 31 V i * 2 ^ (31 + sh) + dg 31 V (i - 1) * 2 ^ sh + e2 / 2 ^ (31 - sh) := by
    have e : V * 2 ^ sh = 2 ^ (31 * (i - 1)) * (V / 2 ^ (31 * (i - 1)) * 2 ^ sh) + V % 2 ^ (31 * (i - 1)) * 2 ^ sh := by
      conv => lhs; rw [← hdm]
      rw [Nat.add_mul, Nat.mul_assoc]
    rw [e, Nat.mul_add_div (Nat.two_pow_pos _), hfr, d1, Nat.add_mul, Nat.pow_add]
    congr 2
    rw [Nat.mul_comm (2 ^ 31), Nat.mul_assoc]
  unfold tl
  rw [← hsum]
  refine Nat.mod_eq_of_lt ?_
  rw [Nat.div_lt_iff_lt_mul (Nat.two_pow_pos _), show (4611686018427387904 : Nat) = 2 ^ 62 from by decide, ← Nat.pow_add, show 62 + 31 * (i - 1) = 31 * (i + 1) by omega]
  exact hV
