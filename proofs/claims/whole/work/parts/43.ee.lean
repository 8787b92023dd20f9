theorem gcd_dv {A B : Int} {X Y R : Nat} (hR : A * X + B * Y = R) : Nat.gcd X Y ∣ R := by
  have h1 : ((Nat.gcd X Y : Nat) : Int) ∣ (X : Int) := Int.natCast_dvd_natCast.mpr (Nat.gcd_dvd_left X Y)
  have h2 : ((Nat.gcd X Y : Nat) : Int) ∣ (Y : Int) := Int.natCast_dvd_natCast.mpr (Nat.gcd_dvd_right X Y)
  have h3 : ((Nat.gcd X Y : Nat) : Int) ∣ (R : Int) := by
    rw [← hR]
    exact Int.dvd_add (Int.dvd_trans h1 (Int.dvd_mul_left _ _)) (Int.dvd_trans h2 (Int.dvd_mul_left _ _))
  exact Int.natCast_dvd_natCast.mp h3
theorem gcd_uni {A B C D : Int} {X Y R S : Nat} (hR : A * X + B * Y = R) (hS : C * X + D * Y = S) (hd : A * D - B * C = 1 ∨ A * D - B * C = -1) : Nat.gcd R S = Nat.gcd X Y := by
  apply Nat.dvd_antisymm
  · apply Nat.dvd_gcd
    · rcases hd with h | h
      · exact gcd_dv (A := D) (B := -B) (by
          have : D * (R : Int) + -B * S = (A * D - B * C) * X := by rw [← hR, ← hS]; grind
          rw [this, h, Int.one_mul])
      · exact gcd_dv (A := -D) (B := B) (by
          have : -D * (R : Int) + B * S = -(A * D - B * C) * X := by rw [← hR, ← hS]; grind
          rw [this, h]; omega)
    · rcases hd with h | h
      · exact gcd_dv (A := -C) (B := A) (by
          have : -C * (R : Int) + A * S = (A * D - B * C) * Y := by rw [← hR, ← hS]; grind
          rw [this, h, Int.one_mul])
      · exact gcd_dv (A := C) (B := -A) (by
          have : C * (R : Int) + -A * S = -(A * D - B * C) * Y := by rw [← hR, ← hS]; grind
          rw [this, h]; omega)
  · exact Nat.dvd_gcd (gcd_dv hR) (gcd_dv hS)
theorem find_end {M : me_M} {E x y w cx cy cw X Y v0 m : Nat} {u c3 c4 c5 c6 : Value} (ho : me_obj M 1 E = some [u, .ref x, .ref y, c3, c4, c5, c6]) (hx : Wh M x cx X) (hy : Wh M y cy Y) (hw : Wh M w cw v0) (hYX : Y ≤ X) (h : X < 4611686018427387904 ∨ Y = 0) (hX : X < 2 ^ (31 * m)) (hm : m ≤ cw) (h3 : 3 ≤ cw) :
    ∃ M' : me_M, sm T_X1_find (156, [(0, .ref E), (3, .ref w)], [], M, 0, 0) = some (none, M') ∧ Wh M' w cw (Nat.gcd X Y) ∧ Fr M M' w := by
  obtain ⟨s, o1, o2, o3, o4⟩ := hx.obj
  obtain ⟨t, p1, p2, p3, p4⟩ := hy.obj
  obtain ⟨r, q1, q2, q3, q4⟩ := hw.obj
  rw [e_X1_find_156]
  simp only [ho, o1, bS, g1, vR, vI]
  by_cases hs : s ≤ 2
  · rw [if_pos (by rw [z_2, iZ_le (by omega) (by omega)]; omega)]
    have hX2 := o4.mp hs
    obtain ⟨M', l1, l2, l3⟩ := longW (V := Nat.gcd X Y) hw h3 (by
      by_cases h0 : Y = 0
      · rw [h0, Nat.gcd_zero_right]; omega
      · have := Nat.gcd_le_right X (show 0 < Y by omega)
        omega)
    simp only [lowW hx, lowW hy, ho, p1, bS, h2, vR, vL, common_s hYX hX2]
    rw [e_X1_find_196, q1]
    simp only [bS, l1, cNn, c00]
    exact ⟨_, rfl, l2, l3⟩
  · rw [if_neg (by rw [z_2, iZ_le (by omega) (by omega)]; omega)]
    have hY : Y = 0 := by
      rcases h with h | h
      · exact absurd (o4.mpr h) hs
      · exact h
    obtain ⟨M', l1, l2, l3⟩ := copyW hw hx hX hm
    simp only [q1, bS, l1, cNn, c00]
    exact ⟨_, rfl, by rw [hY, Nat.gcd_zero_right]; exact l2, l3⟩
/-- the room that Euclid works in: both numbers may lie either way -/
def EU (M : me_M) (E u x y : Nat) : Prop := ∃ (x' y' v1 v2 v3 : Nat) (c3 c4 c5 c6 : Value), ((x' = x ∧ y' = y) ∨ (x' = y ∧ y' = x)) ∧ me_obj M 1 E = some [.ref u, .ref x', .ref y', c3, c4, c5, c6] ∧ Wh M u 72 v1 ∧ Wh M x 72 v2 ∧ Wh M y 72 v3
theorem EU.swap {M : me_M} {E u x y : Nat} (h : EU M E u x y) : EU M E u y x := by
  obtain ⟨x', y', v1, v2, v3, c3, c4, c5, c6, h1, h2, h3, h4, h5⟩ := h
  exact ⟨x', y', v1, v3, v2, c3, c4, c5, c6, h1.symm, h2, h3, h5, h4⟩
/-- nothing else changes -/
def Fe (M M' : me_M) (E u x y w : Nat) : Prop := M'.1 = M.1 ∧ ∀ p, p ≠ E → p ≠ u → p ≠ u + 1 → p ≠ x → p ≠ x + 1 → p ≠ y → p ≠ y + 1 → p ≠ w → p ≠ w + 1 → M'.2 p = M.2 p
theorem Fe.swap {M M' : me_M} {E u x y w : Nat} (h : Fe M M' E u x y w) : Fe M M' E u y x w := ⟨h.1, fun p h1 h2 h3 h4 h5 h6 h7 h8 h9 => h.2 p h1 h2 h3 h6 h7 h4 h5 h8 h9⟩
theorem Fe.trans {M M' N : me_M} {E u x y w : Nat} (h : Fe M M' E u x y w) (k : Fe M' N E u x y w) : Fe M N E u x y w := ⟨k.1.trans h.1, fun p h1 h2 h3 h4 h5 h6 h7 h8 h9 => (k.2 p h1 h2 h3 h4 h5 h6 h7 h8 h9).trans (h.2 p h1 h2 h3 h4 h5 h6 h7 h8 h9)⟩
theorem find_l {E u w : Nat} (hm : 70 ≤ 72) :
    ∀ (n i : Nat) (M : me_M) (x y X Y v1 v0 : Nat) (c3 c4 c5 c6 : Value), i + n = 10000 → me_obj M 1 E = some [.ref u, .ref x, .ref y, c3, c4, c5, c6] → Wh M u 72 v1 → Wh M x 72 X → Wh M y 72 Y → Wh M w 72 v0 → x ≠ y → x ≠ u → y ≠ u → w ≠ x → w ≠ y → w ≠ u → Y ≤ X → X < 2 ^ (31 * 70) → X * Y < 2 ^ n →
      ∃ M' : me_M, sm T_X1_find (72, [(0, .ref E), (3, .ref w), (5, .int (iZ i))], [], M, 0, 0) = some (none, M') ∧ Wh M' w 72 (Nat.gcd X Y) ∧ EU M' E u x y ∧ Fe M M' E u x y w := by
  intro n
  induction n with
  | zero =>
    intro i M x y X Y v1 v0 c3 c4 c5 c6 hi ho hu hx hy hw n1 n2 n3 n4 n5 n6 hYX hX hP
    have hY : Y = 0 := by
      apply Nat.eq_zero_of_not_pos
      intro h
      have := Nat.mul_pos (show 0 < X by omega) h
      omega
    obtain ⟨M', r1, r2, r3⟩ := find_end ho hx hy hw hYX (Or.inr hY) hX (by omega) (by omega)
    rw [e_X1_find_72, if_pos (by rw [show i = 10000 by omega]; decide)]
    refine ⟨M', r1, r2, ⟨x, y, v1, X, Y, c3, c4, c5, c6, Or.inl ⟨rfl, rfl⟩, ?_, hu.fr hw (Ne.symm n6) r3, hx.fr hw (Ne.symm n4) r3, hy.fr hw (Ne.symm n5) r3⟩, r3.1, fun p _ _ _ _ _ _ _ h8 h9 => r3.2 p h8 h9⟩
    rw [mo_of (r3.2 E (hw.ne2 ho (by decide)) (hw.ne1 ho))]
    exact ho
  | succ n ih =>
    intro i M x y X Y v1 v0 c3 c4 c5 c6 hi ho hu hx hy hw n1 n2 n3 n4 n5 n6 hYX hX hP
    have hend : (X < 4611686018427387904 ∨ Y = 0) → ∃ M' : me_M, sm T_X1_find (156, [(0, .ref E), (3, .ref w)], [], M, 0, 0) = some (none, M') ∧ Wh M' w 72 (Nat.gcd X Y) ∧ EU M' E u x y ∧ Fe M M' E u x y w := by
      intro hh
      obtain ⟨M', r1, r2, r3⟩ := find_end ho hx hy hw hYX hh hX (by omega) (by omega)
      refine ⟨M', r1, r2, ⟨x, y, v1, X, Y, c3, c4, c5, c6, Or.inl ⟨rfl, rfl⟩, ?_, hu.fr hw (Ne.symm n6) r3, hx.fr hw (Ne.symm n4) r3, hy.fr hw (Ne.symm n5) r3⟩, r3.1, fun p _ _ _ _ _ _ _ h8 h9 => r3.2 p h8 h9⟩
      rw [mo_of (r3.2 E (hw.ne2 ho (by decide)) (hw.ne1 ho))]
      exact ho
    obtain ⟨s, o1, o2, o3, o4⟩ := hx.obj
    obtain ⟨t, p1, p2, p3, p4⟩ := hy.obj
    rw [e_X1_find_72, if_neg (by rw [show (10000 : Int32) = iZ 10000 from rfl, iZ_le (by omega) (by omega)]; omega)]
    simp only [ho, o1, p1, bS, g1, h2, vR, vI]
    by_cases hs : s ≤ 2
    · rw [if_pos (by rw [z_2, iZ_le (by omega) (by omega)]; omega)]
      exact hend (Or.inl (o4.mp hs))
    rw [if_neg (by rw [z_2, iZ_le (by omega) (by omega)]; omega)]
    by_cases ht : t = 0
    · rw [if_pos (by rw [z_0, iZ_le (by omega) (by omega)]; omega)]
      exact hend (Or.inr (p3.mp ht))
    rw [if_neg (by rw [z_0, iZ_le (by omega) (by omega)]; omega)]
    have hY0 : 0 < Y := Nat.pos_of_ne_zero (fun h => ht (p3.mpr h))
    have hXb : 4611686018427387904 ≤ X := Nat.le_of_not_lt (fun h => hs (o4.mpr h))
    obtain ⟨A, B, C, D, b, f1, f2, f3⟩ := foresee_s ho hx hy hYX hXb
    simp only [f1, bS, vI]
    -- the memory behind foresee
    generalize hM1 : me_set M E (.inr (1, [.ref u, .ref x, .ref y, .long (lZ A), .long (lZ B), .long (lZ C), .long (lZ D)])) = M1
    have hne : ∀ p, p ≠ E → M1.2 p = M.2 p := fun p hp => by rw [← hM1]; exact set_ne hp
    have h11 : M1.1 = M.1 := by rw [← hM1]; rfl
    have ho1 : me_obj M1 1 E = some [.ref u, .ref x, .ref y, .long (lZ A), .long (lZ B), .long (lZ C), .long (lZ D)] := by rw [← hM1]; exact mo_set _ _ _ _
    have mv : ∀ {a c v : Nat}, Wh M a c v → Wh M1 a c v := fun h => h.of (hne _ (Ne.symm (h.ne2 ho (by decide)))) (hne _ (Ne.symm (h.ne1 ho)))
    have hu1 := mv hu
    have hx1 := mv hx
    have hy1 := mv hy
    have hw1 := mv hw
    by_cases hb : b = 0
    · rw [if_pos hb]
      obtain ⟨M2, d1, d2, d3, d4, d5⟩ := divide_s (m := 70) hx1 hy1 hu1 n1 n2 n3 hY0 hX (by omega) (by omega)
      obtain ⟨s1, o5, _⟩ := hx1.obj
      simp only [ho1, o5, bS, g0, g1, h2, vR, d1, cNn]
      have hE1 := hx1.ne2 ho1 (by decide)
      have hE2 := hx1.ne1 ho1
      have hE3 := hu1.ne2 ho1 (by decide)
      have hE4 := hu1.ne1 ho1
      have ho2 : me_obj M2 1 E = some [.ref u, .ref x, .ref y, .long (lZ A), .long (lZ B), .long (lZ C), .long (lZ D)] := by rw [mo_of (d5 E hE1 hE2 hE3 hE4)]; exact ho1
      simp only [ho2, bS, g1, h2, vR, vN, l71, s71]
      rw [e_X1_find_144, mo_set]
      simp only [bS, l72, s72, set_set]
      generalize hM3 : me_set M2 E (.inr (1, [.ref u, .ref y, .ref x, .long (lZ A), .long (lZ B), .long (lZ C), .long (lZ D)])) = M3
      have hne3 : ∀ p, p ≠ E → M3.2 p = M2.2 p := fun p hp => by rw [← hM3]; exact set_ne hp
      have h31 : M3.1 = M2.1 := by rw [← hM3]; rfl
      have ho3 : me_obj M3 1 E = some [.ref u, .ref y, .ref x, .long (lZ A), .long (lZ B), .long (lZ C), .long (lZ D)] := by rw [← hM3]; exact mo_set _ _ _ _
      have mv3 : ∀ {a c v : Nat}, Wh M2 a c v → Wh M3 a c v := fun h => h.of (hne3 _ (Ne.symm (h.ne2 ho2 (by decide)))) (hne3 _ (Ne.symm (h.ne1 ho2)))
      have mvf : ∀ {a c v : Nat}, Wh M1 a c v → a ≠ x → a ≠ u → Wh M2 a c v := fun h k1 k2 => h.of (d5 _ k1 (h.ne hx1) k2 (h.ne hu1)) (d5 _ (Ne.symm (hx1.ne h)) (by omega) (Ne.symm (hu1.ne h)) (by omega))
      have hy2 := mvf hy1 (Ne.symm n1) n3
      have hw2 := mvf hw1 n4 n6
      have hmod := Nat.mod_lt X hY0
      have hdm := Nat.div_add_mod X Y
      have hdd : Y ≤ Y * (X / Y) := Nat.le_mul_of_pos_right _ (Nat.div_pos hYX hY0)
      rw [z_p1]
      obtain ⟨M', r1, r2, r3, r4⟩ := ih (i + 1) M3 y x Y (X % Y) (X / Y) v0 _ _ _ _ (by omega) ho3 (mv3 d3) (mv3 hy2) (mv3 d2) (mv3 hw2) (Ne.symm n1) n3 n2 n5 n4 n6 (Nat.le_of_lt hmod) (by omega) (by
        have k2 : Y * (2 * (X % Y)) ≤ Y * X := Nat.mul_le_mul_left Y (by omega)
        have k3 : Y * (2 * (X % Y)) = 2 * (Y * (X % Y)) := by grind
        have k4 : 2 ^ (n + 1) = 2 * 2 ^ n := by rw [Nat.pow_succ, Nat.mul_comm]
        have k5 : Y * X = X * Y := Nat.mul_comm _ _
        omega)
      refine ⟨M', r1, ?_, r3.swap, ?_⟩
      · rw [show Nat.gcd X Y = Nat.gcd Y (X % Y) by rw [Nat.gcd_comm X Y, Nat.gcd_rec, Nat.gcd_comm]]
        exact r2
      · refine Fe.trans ⟨by omega, fun p e1 e2 e3 e4 e5 e6 e7 e8 e9 => ?_⟩ r4.swap
        rw [hne3 p e1, d5 p e4 e5 e2 e3, hne p e1]
    · rw [if_neg hb]
      have hL := f3 hb
      obtain ⟨R, hR⟩ : ∃ R : Nat, A * X + B * Y = R := by
        refine ⟨(A * X + B * Y).toNat, ?_⟩
        have k1 := hL.2.1
        have k2 := hL.2.2.1
        omega
      obtain ⟨S, hS⟩ : ∃ S : Nat, C * X + D * Y = S := by
        refine ⟨(C * X + D * Y).toNat, ?_⟩
        have k1 := hL.2.1
        omega
      obtain ⟨M2, d1, d2, d3, d4, d5⟩ := leap_s (m := 70) ho1 hx1 hy1 n1 hX (by omega) hL hR hS
      simp only [ho1, bS, d1, cNn]
      obtain ⟨_, _, L3, L4, L5, L6⟩ := hL
      rw [hR, hS] at L3 L5
      rw [hR] at L4
      have L5 : 2 * (R * S) ≤ X * Y := by exact_mod_cast L5
      have hE1 := hx1.ne2 ho1 (by decide)
      have hE2 := hx1.ne1 ho1
      have hE3 := hy1.ne2 ho1 (by decide)
      have hE4 := hy1.ne1 ho1
      have ho2 : me_obj M2 1 E = some [.ref u, .ref x, .ref y, .long (lZ A), .long (lZ B), .long (lZ C), .long (lZ D)] := by rw [mo_of (d5 E hE1 hE2 hE3 hE4)]; exact ho1
      have mvf : ∀ {a c v : Nat}, Wh M1 a c v → a ≠ x → a ≠ y → Wh M2 a c v := fun h k1 k2 => h.of (d5 _ k1 (h.ne hx1) k2 (h.ne hy1)) (d5 _ (Ne.symm (hx1.ne h)) (by omega) (Ne.symm (hy1.ne h)) (by omega))
      rw [z_p1]
      obtain ⟨M', r1, r2, r3, r4⟩ := ih (i + 1) M2 x y R S v1 v0 _ _ _ _ (by omega) ho2 (mvf hu1 (Ne.symm n2) (Ne.symm n3)) d2 d3 (mvf hw1 n4 n5) n1 n2 n3 n4 n5 n6 (by omega) (by omega) (by
        have k4 : 2 ^ (n + 1) = 2 * 2 ^ n := by rw [Nat.pow_succ, Nat.mul_comm]
        omega)
      refine ⟨M', r1, ?_, r3, ?_⟩
      · rw [← gcd_uni hR hS L6]
        exact r2
      · refine Fe.trans ⟨by omega, fun p e1 e2 e3 e4 e5 e6 e7 e8 e9 => ?_⟩ r4
        rw [d5 p e4 e5 e6 e7, hne p e1]
