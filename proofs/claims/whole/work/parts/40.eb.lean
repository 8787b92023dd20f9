theorem lc_le0 {a b : Int} (ha : -9223372036854775808 ≤ a ∧ a < 9223372036854775808) (hb : -9223372036854775808 ≤ b ∧ b < 9223372036854775808) : lg_cmp (lZ a) (lZ b) ≤ 0 ↔ a ≤ b := by
  rw [lc_lt ha hb]
  by_cases h : b < a
  · rw [if_pos h]
    exact ⟨fun q => absurd q (by decide), fun q => by omega⟩
  · rw [if_neg h]
    refine ⟨fun _ => by omega, fun _ => ?_⟩
    by_cases h2 : a = b
    · rw [if_pos h2]; decide
    · rw [if_neg h2]; decide
theorem lc_lt0 {a b : Int} (ha : -9223372036854775808 ≤ a ∧ a < 9223372036854775808) (hb : -9223372036854775808 ≤ b ∧ b < 9223372036854775808) : lg_cmp (lZ a) (lZ b) < 0 ↔ a < b := by
  rw [lc_lt ha hb]
  by_cases h : b < a
  · rw [if_pos h]
    exact ⟨fun q => absurd q (by decide), fun q => by omega⟩
  · rw [if_neg h]
    by_cases h2 : a = b
    · rw [if_pos h2]
      exact ⟨fun q => absurd q (by decide), fun q => by omega⟩
    · rw [if_neg h2]
      exact ⟨fun _ => by omega, fun _ => by decide⟩
theorem l0z : (0 : Int64) = lZ 0 := rfl
/-- what a leap needs of its coefficients -/
def Lp (X Y A B C D : Int) : Prop := (-2147483648 < A ∧ A < 2147483648 ∧ -2147483648 < B ∧ B < 2147483648 ∧ -2147483648 < C ∧ C < 2147483648 ∧ -2147483648 < D ∧ D < 2147483648) ∧ 0 ≤ C * X + D * Y ∧ C * X + D * Y < A * X + B * Y ∧ A * X + B * Y ≤ X ∧ 2 * ((A * X + B * Y) * (C * X + D * Y)) ≤ X * Y ∧ (A * D - B * C = 1 ∨ A * D - B * C = -1)
theorem FI.lp {X Y p0 q0 σ : Int} {p q bX bY nX nY lX lY : Nat} (h : FI X Y p0 q0 σ p q bX bY nX nY lX lY) (hb : bY ≠ 0) : Lp X Y (-σ * bX) (- -σ * bY) (- -σ * nX) (-σ * nY) := by
  obtain ⟨n1, n2, n3, n4⟩ := h.bn
  have hs := h.sg
  rcases h.g with ⟨_, e2, _⟩ | ⟨t, _, _, _, g3, g4, g5, g6, g7⟩
  · exact absurd e2 hb
  have eS : - -σ * (nX : Int) * X + -σ * nY * Y = σ * (nX * X - nY * Y) := by grind
  have eR : -σ * (bX : Int) * X + - -σ * bY * Y = -σ * (bX * X - bY * Y) := by grind
  refine ⟨?_, ?_, ?_, ?_, ?_, ?_⟩
  · rcases hs with e | e <;> subst e <;> omega
  · rw [eS]; exact g3
  · rw [eS, eR]; exact g4
  · rw [eR]; exact g5
  · rw [eS, eR]
    rcases g7 with ⟨e, _⟩ | g8
    · exact absurd e hb
    · exact g8
  · have : -σ * (bX : Int) * (-σ * nY) - - -σ * bY * (- -σ * nX) = σ * σ * (bX * nY - bY * nX) := by grind
    rw [this, g6]
    rcases hs with e | e <;> subst e <;> omega
theorem l71 {α : Type} {x0 x1 x2 x3 x4 x5 x6 : Value} {a b : α} {i : Decidable (1 < [x0, x1, x2, x3, x4, x5, x6].length)} : @ite α (1 < [x0, x1, x2, x3, x4, x5, x6].length) i a b = a := if_pos (show 1 < 7 by omega)
theorem s71 (x0 x1 x2 x3 x4 x5 x6 z : Value) : [x0, x1, x2, x3, x4, x5, x6].set 1 z = [x0, z, x2, x3, x4, x5, x6] := rfl
theorem l72 {α : Type} {x0 x1 x2 x3 x4 x5 x6 : Value} {a b : α} {i : Decidable (2 < [x0, x1, x2, x3, x4, x5, x6].length)} : @ite α (2 < [x0, x1, x2, x3, x4, x5, x6].length) i a b = a := if_pos (show 2 < 7 by omega)
theorem s72 (x0 x1 x2 x3 x4 x5 x6 z : Value) : [x0, x1, x2, x3, x4, x5, x6].set 2 z = [x0, x1, z, x3, x4, x5, x6] := rfl
theorem l73 {α : Type} {x0 x1 x2 x3 x4 x5 x6 : Value} {a b : α} {i : Decidable (3 < [x0, x1, x2, x3, x4, x5, x6].length)} : @ite α (3 < [x0, x1, x2, x3, x4, x5, x6].length) i a b = a := if_pos (show 3 < 7 by omega)
theorem s73 (x0 x1 x2 x3 x4 x5 x6 z : Value) : [x0, x1, x2, x3, x4, x5, x6].set 3 z = [x0, x1, x2, z, x4, x5, x6] := rfl
theorem l74 {α : Type} {x0 x1 x2 x3 x4 x5 x6 : Value} {a b : α} {i : Decidable (4 < [x0, x1, x2, x3, x4, x5, x6].length)} : @ite α (4 < [x0, x1, x2, x3, x4, x5, x6].length) i a b = a := if_pos (show 4 < 7 by omega)
theorem s74 (x0 x1 x2 x3 x4 x5 x6 z : Value) : [x0, x1, x2, x3, x4, x5, x6].set 4 z = [x0, x1, x2, x3, z, x5, x6] := rfl
theorem l75 {α : Type} {x0 x1 x2 x3 x4 x5 x6 : Value} {a b : α} {i : Decidable (5 < [x0, x1, x2, x3, x4, x5, x6].length)} : @ite α (5 < [x0, x1, x2, x3, x4, x5, x6].length) i a b = a := if_pos (show 5 < 7 by omega)
theorem s75 (x0 x1 x2 x3 x4 x5 x6 z : Value) : [x0, x1, x2, x3, x4, x5, x6].set 5 z = [x0, x1, x2, x3, x4, z, x6] := rfl
theorem l76 {α : Type} {x0 x1 x2 x3 x4 x5 x6 : Value} {a b : α} {i : Decidable (6 < [x0, x1, x2, x3, x4, x5, x6].length)} : @ite α (6 < [x0, x1, x2, x3, x4, x5, x6].length) i a b = a := if_pos (show 6 < 7 by omega)
theorem s76 (x0 x1 x2 x3 x4 x5 x6 z : Value) : [x0, x1, x2, x3, x4, x5, x6].set 6 z = [x0, x1, x2, x3, x4, x5, z] := rfl
theorem foresee_e {M : me_M} {E : Nat} {u x y c3 c4 c5 c6 : Value} {σ : Int} {bX bY nX nY : Nat} (ho : me_obj M 1 E = some [u, x, y, c3, c4, c5, c6]) (hb : bY < 2147483648) :
    sm T_X1_foresee (181, [(0, .ref E), (6, .long (lZ bX)), (8, .long (lZ bY)), (10, .long (lZ nX)), (12, .long (lZ nY)), (18, .long (lZ (-σ)))], [], M, 0, 0) = some (some (.int (if bY = 0 then 0 else 1)), me_set M E (.inr (1, [u, x, y, .long (lZ (-σ * bX)), .long (lZ (- -σ * bY)), .long (lZ (- -σ * nX)), .long (lZ (-σ * nY))]))) := by
  rw [e_X1_foresee_181]
  simp only [ho, bS, l73, l74, l75, l76, s73, s74, s75, s76, mo_set, set_set, lZ_mul, lZ_neg]
  rw [e_X1_foresee_219]
  by_cases h : bY = 0
  · rw [if_pos (lgc0.mpr (by rw [h]; rfl)), if_pos h, cz0, c00]
    exact (if_pos (by decide : 4 < 7)).trans ((if_pos (by decide : 5 < 7)).trans (if_pos (by decide : 6 < 7)))
  · rw [if_neg (by rw [lgc0, l0z, lZ_eq (by omega) (by omega)]; omega), if_neg h, cz1, c00]
    exact (if_pos (by decide : 4 < 7)).trans ((if_pos (by decide : 5 < 7)).trans (if_pos (by decide : 6 < 7)))
theorem foresee_l {M : me_M} {E : Nat} {u x y c3 c4 c5 c6 : Value} {X Y α β P S : Int} {p0 q0 : Nat} (ho : me_obj M 1 E = some [u, x, y, c3, c4, c5, c6]) (hp0 : p0 < 4611686018427387904) (hS : 0 < S) (hX : X * S = p0 * P + α) (hY : Y * S = q0 * P + β) (a0 : 0 ≤ α) (a1 : α < P) (b0 : 0 ≤ β) (b1 : β < P) :
    ∀ (n i : Nat) (σ : Int) (p q bX bY nX nY lX lY : Nat), i + n = 10000 → FI X Y p0 q0 σ p q bX bY nX nY lX lY →
      ∃ (A B C D : Int) (b : Int32), sm T_X1_foresee (71, [(0, .ref E), (2, .long (lZ p)), (4, .long (lZ q)), (6, .long (lZ bX)), (8, .long (lZ bY)), (10, .long (lZ nX)), (12, .long (lZ nY)), (14, .long (lZ lX)), (16, .long (lZ lY)), (18, .long (lZ (-σ))), (20, .int (iZ i))], [], M, 0, 0) = some (some (.int b), me_set M E (.inr (1, [u, x, y, .long (lZ A), .long (lZ B), .long (lZ C), .long (lZ D)]))) ∧ (b = 0 ∨ b = 1) ∧ (b ≠ 0 → Lp X Y A B C D) := by
  intro n
  induction n with
  | zero =>
    intro i σ p q bX bY nX nY lX lY hi h
    rw [e_X1_foresee_71, if_pos (by rw [show i = 10000 by omega]; decide)]
    refine ⟨_, _, _, _, _, foresee_e ho h.bn.2.2.2, ?_, ?_⟩
    · split
      · exact Or.inl rfl
      · exact Or.inr rfl
    · intro hb
      exact h.lp (fun e => hb (by rw [if_pos e]))
  | succ n ih =>
    intro i σ p q bX bY nX nY lX lY hi h
    have hout : ∃ (A B C D : Int) (b : Int32), sm T_X1_foresee (181, [(0, .ref E), (6, .long (lZ bX)), (8, .long (lZ bY)), (10, .long (lZ nX)), (12, .long (lZ nY)), (18, .long (lZ (-σ)))], [], M, 0, 0) = some (some (.int b), me_set M E (.inr (1, [u, x, y, .long (lZ A), .long (lZ B), .long (lZ C), .long (lZ D)]))) ∧ (b = 0 ∨ b = 1) ∧ (b ≠ 0 → Lp X Y A B C D) := by
      refine ⟨_, _, _, _, _, foresee_e ho h.bn.2.2.2, ?_, ?_⟩
      · split
        · exact Or.inl rfl
        · exact Or.inr rfl
      · intro hb
        exact h.lp (fun e => hb (by rw [if_pos e]))
    have htot : p * lY + q * nY = p0 := by exact_mod_cast h.tot
    have hpp := h.pp
    have hqp := h.qp
    have hl3 := h.l3
    have k1 : lY ≤ p * lY := Nat.le_mul_of_pos_left _ hpp
    have k2 : p ≤ p * lY := Nat.le_mul_of_pos_right _ hl3
    obtain ⟨n1, n2, n3, n4⟩ := h.bn
    rw [e_X1_foresee_71, if_neg (by rw [show (10000 : Int32) = iZ 10000 from rfl, iZ_le (by omega) (by omega)]; omega), l0z]
    by_cases w1 : q = 0
    · rw [if_pos ((lc_le0 (by omega) (by omega)).mpr (by omega))]
      exact hout
    rw [if_neg (by rw [lc_le0 (by omega) (by omega)]; omega)]
    by_cases w2 : q < lY
    · rw [if_pos ((lc_lt0 (by omega) (by omega)).mpr (by omega))]
      exact hout
    rw [if_neg (by rw [lc_lt0 (by omega) (by omega)]; omega)]
    have e1 : lZ (p : Int) - lZ (q : Int) = lZ ((p - q : Nat) : Int) := by rw [lZ_sub]; congr 1; omega
    have e2 : lZ (nY : Int) + lZ (lY : Int) = lZ ((nY + lY : Nat) : Int) := by rw [lZ_add]; rfl
    rw [e1, e2]
    by_cases w3 : p - q < nY + lY
    · rw [if_pos ((lc_lt0 (by omega) (by omega)).mpr (by omega))]
      exact hout
    have hz : ¬ lZ (q : Int) = lZ 0 := by rw [lZ_eq (by omega) (by omega)]; omega
    rw [if_neg (by rw [lc_lt0 (by omega) (by omega)]; omega), if_neg hz, if_neg hz]
    have e3 := lZ_rem (a := p) (b := q) (by omega) (by omega) (by omega)
    have e4 := lZ_div (a := p) (b := q) (by omega) (by omega) (by omega)
    have e5 : lZ (nX : Int) + lZ ((p / q : Nat) : Int) * lZ (lX : Int) = lZ ((nX + p / q * lX : Nat) : Int) := by rw [lZ_mul, lZ_add]; rfl
    have e6 : lZ (nY : Int) + lZ ((p / q : Nat) : Int) * lZ (lY : Int) = lZ ((nY + p / q * lY : Nat) : Int) := by rw [lZ_mul, lZ_add]; rfl
    rw [e3, e4, e5, e6, lZ_neg, z_p1]
    exact ih (i + 1) (-σ) q (p % q) nX nY lX lY _ _ (by omega) (h.step hp0 (by omega) (by omega) (by omega) hS hX hY a0 a1 b0 b1)
theorem h2 (a b c : Value) (l : List Value) : (a :: b :: c :: l)[2]? = some c := rfl
theorem foresee_s {M : me_M} {E x y cx cy X Y : Nat} {u c3 c4 c5 c6 : Value} (ho : me_obj M 1 E = some [u, .ref x, .ref y, c3, c4, c5, c6]) (hx : Wh M x cx X) (hy : Wh M y cy Y) (hXY : Y ≤ X) (hX : 4611686018427387904 ≤ X) :
    ∃ (A B C D : Int) (b : Int32), f_X1_foresee [.ref E] M = some (some (.int b), me_set M E (.inr (1, [u, .ref x, .ref y, .long (lZ A), .long (lZ B), .long (lZ C), .long (lZ D)]))) ∧ (b = 0 ∨ b = 1) ∧ (b ≠ 0 → Lp X Y A B C D) := by
  obtain ⟨s, f, hx⟩ := hx
  obtain ⟨t, g, hy⟩ := hy
  have hSz := hx.2.2.2.2.1
  have hs3 : 3 ≤ s := by
    apply Nat.lt_of_not_le
    intro h
    have := hx.lt h
    rw [show (2 : Nat) ^ (31 * 2) = 4611686018427387904 from by decide] at this
    omega
  have hsz := hx.sz
  have hfb := freeBits_s hx (by omega)
  obtain ⟨hbl, htop⟩ := hSz.bl (by omega)
  have hbp := bl_pos (v := dg 31 X (s - 1)) (by omega)
  have hb31 : bl (dg 31 X (s - 1)) ≤ 31 := bl_le_iff.mpr (dg_31 X (s - 1))
  generalize hsh : 31 - bl (dg 31 X (s - 1)) = sh at hfb
  have hXs : X * 2 ^ sh < 2 ^ (31 * s) := by
    have h1 : X < 2 ^ bl X := bl_lt X
    have h2 : X * 2 ^ sh < 2 ^ bl X * 2 ^ sh := Nat.mul_lt_mul_of_pos_right h1 (Nat.two_pow_pos sh)
    rw [← Nat.pow_add, hbl, show 31 * (s - 1) + bl (dg 31 X (s - 1)) + sh = 31 * s by omega] at h2
    exact h2
  have hYs : Y * 2 ^ sh < 2 ^ (31 * s) := Nat.lt_of_le_of_lt (Nat.mul_le_mul_right _ hXY) hXs
  have L : ∀ {w a cap s' v : Nat} {f : Nat → Int32} (h : WS M w a cap s' v f) (j : Nat) (z : Int), z = j → j < 1000 → Lm M w z (dg 31 v j) := fun h j z hz hj => by
    rw [hz]; exact Lm_of h (by omega)
  have t1 := twoLimbs_s (i := ((s - 1 : Nat) : Int)) (sh := sh) hx.1 (L hx (s - 1) _ rfl (by omega)) (L hx (s - 1 - 1) _ (by omega) (by omega)) (L hx (s - 1 - 2) _ (by omega) (by omega)) (by omega) (dg_31 _ _) (dg_31 _ _)
  have t2 := twoLimbs_s (i := ((s - 1 : Nat) : Int)) (sh := sh) hy.1 (L hy (s - 1) _ rfl (by omega)) (L hy (s - 1 - 1) _ (by omega) (by omega)) (L hy (s - 1 - 2) _ (by omega) (by omega)) (by omega) (dg_31 _ _) (dg_31 _ _)
  rw [tl_eq (V := X) (i := s - 1) (by omega) (by omega) (by rw [show s - 1 + 1 = s by omega]; exact hXs) (by rw [if_neg (by omega)])] at t1
  rw [tl_eq (V := Y) (i := s - 1) (by omega) (by omega) (by rw [show s - 1 + 1 = s by omega]; exact hYs) (by rw [if_neg (by omega)])] at t2
  have e1 : iZ (s : Int) - 1 = iZ ((s - 1 : Nat) : Int) := by rw [z_1, iZ_sub]; congr 1; omega
  rw [e_X1_foresee]
  simp only [ho, bS, g1, h2, vR, vI, vL, hx.1, hy.1, hfb, e1, t1, t2]
  have hP := Nat.two_pow_pos (31 * (s - 1 - 1))
  have hS := Nat.two_pow_pos sh
  have hp0 : X * 2 ^ sh / 2 ^ (31 * (s - 1 - 1)) < 4611686018427387904 := by
    rw [Nat.div_lt_iff_lt_mul hP, show (4611686018427387904 : Nat) = 2 ^ 62 from by decide, ← Nat.pow_add, show 62 + 31 * (s - 1 - 1) = 31 * s by omega]
    exact hXs
  have hp1 : 0 < X * 2 ^ sh / 2 ^ (31 * (s - 1 - 1)) := by
    apply Nat.div_pos _ hP
    rcases hSz.2 with h | h
    · omega
    · exact Nat.le_trans (pw_le 31 (by omega)) (Nat.le_trans h (Nat.le_mul_of_pos_right _ hS))
  exact foresee_l (S := ((2 ^ sh : Nat) : Int)) (P := ((2 ^ (31 * (s - 1 - 1)) : Nat) : Int)) (α := ((X * 2 ^ sh % 2 ^ (31 * (s - 1 - 1)) : Nat) : Int)) (β := ((Y * 2 ^ sh % 2 ^ (31 * (s - 1 - 1)) : Nat) : Int)) ho hp0 (by exact_mod_cast hS)
    (by rw [← Int.natCast_mul, ← Int.natCast_mul, ← Int.natCast_add, Nat.mul_comm (X * 2 ^ sh / _), Nat.div_add_mod])
    (by rw [← Int.natCast_mul, ← Int.natCast_mul, ← Int.natCast_add, Nat.mul_comm (Y * 2 ^ sh / _), Nat.div_add_mod])
    (Int.natCast_nonneg _) (by exact_mod_cast Nat.mod_lt _ hP) (Int.natCast_nonneg _) (by exact_mod_cast Nat.mod_lt _ hP)
    10000 0 1 _ _ 0 0 1 0 0 1 (by omega) (FI.start (Nat.div_le_div_right (Nat.mul_le_mul_right _ hXY)) hp1)
