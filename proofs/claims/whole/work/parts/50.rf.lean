def qBy (a : Qn) (s : Int) (T B : Nat) : Qn := rd (a.1 * s * ((a.2.1 * T : Nat) : Int)) (a.2.2 * B)
theorem sg_mul {s t : Int} (hs : s = 1 ∨ s = -1) (ht : t = 1 ∨ t = -1) : s * t = 1 ∨ s * t = -1 := by
  rcases hs with h | h <;> rcases ht with k | k <;> subst h <;> subst k <;> omega
theorem productBy_s {M : me_M} {K pa t b T B ct cb : Nat} {vs : Nat → Nat} {a : Qn} {s : Int} (h : RK M K vs) (ha : Fx M K pa a) (hs : s = 0 ∨ s = 1 ∨ s = -1) (ht : Wh M t ct T) (hb : Wh M b cb B) (kt : K + 26 ≤ t) (kb : K + 26 ≤ b) (hT : T < 2 ^ 512) (hB : B < 2 ^ 512) (hT0 : s ≠ 0 → 0 < T) (hB0 : 0 < B) (hc : Nat.Coprime T B) :
    ∃ (M' : me_M) (v : Value), f_X3_productBy [.ref K, .ref pa, .int (iZ s), .ref t, .ref b] M = some (some v, M') ∧ Rs M M' K v (qBy a s T B) := by
  have aN := ha.2.1
  obtain ⟨aa, ab, caa, cab, oa, Waa, Wab, kaa, kab⟩ := ha.ob
  have hz : a.1 = 0 ∨ s = 0 → qBy a s T B = (0, 0, 1) := by
    intro hh
    unfold qBy
    have : a.1 * s * ((a.2.1 * T : Nat) : Int) = 0 := by
      rcases hh with e | e
      · rw [e, Int.zero_mul, Int.zero_mul]
      · rw [e, Int.mul_zero, Int.zero_mul]
    rw [this]
    exact rd_0 (Nat.mul_pos aN.2.2.1 hB0)
  rw [e_X3_productBy]
  simp only [oa, bS, g0, vI]
  by_cases hsa : a.1 = 0
  · rw [if_pos ((sgz aN.1).mpr hsa), h.o]
    simp only [bS, rk0, vN]
    rw [if_pos (by decide), hz (Or.inl hsa)]
    exact ⟨M, _, rfl, h.rz⟩
  rw [if_neg (by rw [sgz aN.1]; exact hsa)]
  by_cases hs0 : s = 0
  · rw [if_pos ((sgz hs).mpr hs0), h.o]
    simp only [bS, rk0, vN]
    rw [if_pos (by decide), hz (Or.inr hs0)]
    exact ⟨M, _, rfl, h.rz⟩
  rw [if_neg (by rw [sgz hs]; exact hs0)]
  have hna : 0 < a.2.1 := Nat.pos_of_ne_zero (fun q => hsa (aN.2.1.mpr q))
  have hda := aN.2.2.1
  have hT1 := hT0 hs0
  have sna := p527 ha.2.2.1.1
  have sda := p527 ha.2.2.1.2
  have sT := p527 hT
  have sB := p527 hB
  have g10 : 0 < Nat.gcd a.2.1 B := Nat.gcd_pos_of_pos_left _ hna
  have g20 : 0 < Nat.gcd T a.2.2 := Nat.gcd_pos_of_pos_left _ hT1
  obtain ⟨kN, kR⟩ := prod_key (na := a.2.1) (nb := T) (da := a.2.2) (db := B) hna hT1 hda hB0 aN.2.2.2 hc (sg_mul (s := a.1) (t := s) (by have := aN.1; omega) (by omega))
  rw [show qBy a s T B = _ from kR]
  obtain ⟨M1, f1, R1, F1⟩ := h.findw 2 (w := K + 12) (by omega) (by omega) Waa hb (by omega) (by omega) (p31 sna (by omega)) (p31 sB (by omega))
  generalize Nat.gcd a.2.1 B = g1' at *
  have oa1 := ob_fk oa (Or.inr ha.1) h.dm F1
  have C1 := R1.at 2 (w := K + 12) (by omega) (by omega)
  rw [up_s] at C1
  obtain ⟨M2, w2, f2, R2, F2, _, E2⟩ := divideOut_s R1 (Waa.fk kaa h.dm F1) C1 (j := 3) (w := K + 14) (by omega) (by omega) (by omega) (by omega) (by omega) (by omega) g10 (p31 sna (by omega))
  have F12 := F1.trans F2
  have C2 := R2.at 2 (w := K + 12) (by omega) (by omega)
  rw [E2.2 2 (by omega) (by omega), up_s] at C2
  obtain ⟨M3, w3, f3, R3, F3, _, E3⟩ := divideOut_s R2 (hb.fk kb h.dm F12) C2 (j := 5) (w := K + 18) (by omega) (by omega) (by omega) (by omega) (by omega) (by omega) g10 (p31 sB (by omega))
  have F13 := F12.trans F3
  have oa3 := ob_fk oa (Or.inr ha.1) h.dm F13
  obtain ⟨M4, f4, R4, F4⟩ := R3.findw 2 (w := K + 12) (by omega) (by omega) (ht.fk kt h.dm F13) (Wab.fk kab h.dm F13) (by omega) (by omega) (p31 sT (by omega)) (p31 sda (by omega))
  have F14 := F13.trans F4
  generalize Nat.gcd T a.2.2 = g2' at *
  have C4 := R4.at 2 (w := K + 12) (by omega) (by omega)
  rw [up_s] at C4
  obtain ⟨M5, w5, f5, R5, F5, _, E5⟩ := divideOut_s R4 (ht.fk kt h.dm F14) C4 (j := 4) (w := K + 16) (by omega) (by omega) (by omega) (by omega) (by omega) (by omega) g20 (p31 sT (by omega))
  have F15 := F14.trans F5
  have oa5 := ob_fk oa (Or.inr ha.1) h.dm F15
  have C5 := R5.at 2 (w := K + 12) (by omega) (by omega)
  rw [E5.2 2 (by omega) (by omega), up_s] at C5
  obtain ⟨M6, w6, f6, R6, F6, _, E6⟩ := divideOut_s R5 (Wab.fk kab h.dm F15) C5 (j := 6) (w := K + 20) (by omega) (by omega) (by omega) (by omega) (by omega) (by omega) g20 (p31 sda (by omega))
  have F16 := F15.trans F6
  -- the products
  have x3 : w6 3 = a.2.1 / g1' := by rw [E6.2 3 (by omega) (by omega), E5.2 3 (by omega) (by omega), up_n _ _ (by omega), E3.2 3 (by omega) (by omega), E2.1]
  have x4 : w6 4 = T / g2' := by rw [E6.2 4 (by omega) (by omega), E5.1]
  have x5 : w6 5 = B / g1' := by rw [E6.2 5 (by omega) (by omega), E5.2 5 (by omega) (by omega), up_n _ _ (by omega), E3.1]
  have x6 : w6 6 = a.2.2 / g2' := E6.1
  have s3 : a.2.1 / g1' < 2 ^ (31 * 17) := Nat.lt_of_le_of_lt (Nat.div_le_self _ _) sna
  have s4 : T / g2' < 2 ^ (31 * 17) := Nat.lt_of_le_of_lt (Nat.div_le_self _ _) sT
  have s5 : B / g1' < 2 ^ (31 * 17) := Nat.lt_of_le_of_lt (Nat.div_le_self _ _) sB
  have s6 : a.2.2 / g2' < 2 ^ (31 * 17) := Nat.lt_of_le_of_lt (Nat.div_le_self _ _) sda
  have W3 := R6.at 3 (w := K + 14) (by omega) (by omega)
  have W4 := R6.at 4 (w := K + 16) (by omega) (by omega)
  rw [x3] at W3
  rw [x4] at W4
  have W7 := R6.at 7 (w := K + 22) (by omega) (by omega)
  obtain ⟨M7, f7, V7, G7⟩ := prodW W7 W3 W4 (by omega) (by omega) s3 s4 (by omega)
  obtain ⟨R7, F7⟩ := R6.opw 7 (by omega) (by omega) V7 G7
  have W5 := R7.at 5 (w := K + 18) (by omega) (by omega)
  have W6 := R7.at 6 (w := K + 20) (by omega) (by omega)
  rw [up_n _ _ (by omega), x5] at W5
  rw [up_n _ _ (by omega), x6] at W6
  have W8 := R7.at 8 (w := K + 24) (by omega) (by omega)
  obtain ⟨M8, f8, V8, G8⟩ := prodW W8 W5 W6 (by omega) (by omega) s5 s6 (by omega)
  obtain ⟨R8, F8⟩ := R7.opw 8 (by omega) (by omega) V8 G8
  have F18 := (F16.trans F7).trans F8
  have oa8 := ob_fk oa (Or.inr ha.1) h.dm F18
  have y7 : up (up w6 7 (a.2.1 / g1' * (T / g2'))) 8 (B / g1' * (a.2.2 / g2')) 7 = a.2.1 / g1' * (T / g2') := by rw [up_n _ _ (by omega), up_s]
  have y8 : up (up w6 7 (a.2.1 / g1' * (T / g2'))) 8 (B / g1' * (a.2.2 / g2')) 8 = B / g1' * (a.2.2 / g2') := up_s _ _ _
  obtain ⟨M9, v, f9, S9⟩ := made_s (s := a.1 * s) R8 (by rw [y7, y8]; exact kN) (by rw [y7]; exact p31 (p31m (m := 17) (n := 17) s3 s4) (by omega)) (by rw [y8]; exact p31 (p31m (m := 17) (n := 17) s5 s6) (by omega))
  rw [y7, y8] at S9
  refine ⟨M9, v, ?_, Rs.trans F18 S9⟩
  simp only [h.o, bS, rk1, rk4, g1, vR]
  rw [h.e]
  simp only [f1, bS, cNn, R1.o, oa1, rk4, rk5, g1, f2, R2.o, rk7, f3, R3.o, oa3, rk1, h2, vR]
  rw [R3.e]
  simp only [f4, bS, cNn]
  rw [e_X3_productBy_79]
  simp only [R4.o, bS, rk4, rk6, f5]
  refine Eq.trans (b := sm T_X3_productBy (138, [(0, .ref K), (1, .ref pa), (2, .int (iZ s))], [], M8, 0, 0)) ?_ ?_
  · show (cond true _ none : Option sm_R) = _
    simp only [cond_true, cNn, R5.o, oa5, bS, rk4, rk8, h2, f6]
    show (cond true _ none : Option sm_R) = _
    simp only [cond_true, cNn, R6.o, bS, rk9, rk5, rk6, vR]
    rw [W7.b]
    simp only [f7, bS]
    show (cond true _ none : Option sm_R) = _
    simp only [cond_true, cNn, R7.o, bS, rk10, rk7, rk8, vR]
    rw [W8.b]
    simp only [f8, bS]
    rfl
  · rw [e_X3_productBy_138]
    simp only [oa8, R8.o, bS, g0, vI, iZ_mul, f9]
    exact S9.pass (by decide)
def qMul (a b : Qn) : Qn := qBy a b.1 b.2.1 b.2.2
def qDiv (a b : Qn) : Qn := qBy a b.1 b.2.2 b.2.1
theorem product_s {M : me_M} {K pa pb : Nat} {vs : Nat → Nat} {a b : Qn} (h : RK M K vs) (ha : Fx M K pa a) (hb : Fx M K pb b) :
    ∃ (M' : me_M) (v : Value), f_X3_product [.ref K, .ref pa, .ref pb] M = some (some v, M') ∧ Rs M M' K v (qMul a b) := by
  have bN := hb.2.1
  obtain ⟨ba, bb, cba, cbb, ob', Wba, Wbb, kba, kbb⟩ := hb.ob
  obtain ⟨M', v, f, S⟩ := productBy_s h ha bN.1 Wba Wbb kba kbb hb.2.2.1.1 hb.2.2.1.2 (fun q => Nat.pos_of_ne_zero (fun e => q (bN.2.1.mpr e))) bN.2.2.1 bN.2.2.2
  refine ⟨M', v, ?_, S⟩
  rw [e_X3_product]
  simp only [ob', h.o, bS, g0, g1, h2, f]
  exact S.pass (by decide)
theorem quotient_s {M : me_M} {K pa pb : Nat} {vs : Nat → Nat} {a b : Qn} (h : RK M K vs) (ha : Fx M K pa a) (hb : Fx M K pb b) (h0 : b.1 ≠ 0) :
    ∃ (M' : me_M) (v : Value), f_X3_quotient [.ref K, .ref pa, .ref pb] M = some (some v, M') ∧ Rs M M' K v (qDiv a b) := by
  have bN := hb.2.1
  obtain ⟨ba, bb, cba, cbb, ob', Wba, Wbb, kba, kbb⟩ := hb.ob
  obtain ⟨M', v, f, S⟩ := productBy_s h ha bN.1 Wbb Wba kbb kba hb.2.2.1.2 hb.2.2.1.1 (fun _ => bN.2.2.1) (Nat.pos_of_ne_zero (fun e => h0 (bN.2.1.mpr e))) bN.2.2.2.symm
  refine ⟨M', v, ?_, S⟩
  rw [e_X3_quotient]
  simp only [ob', h.o, bS, g0, g1, h2, f]
  exact S.pass (by decide)
