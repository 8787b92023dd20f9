theorem lc_ge0 {a b : Int} (ha : -9223372036854775808 ≤ a ∧ a < 9223372036854775808) (hb : -9223372036854775808 ≤ b ∧ b < 9223372036854775808) : 0 ≤ lg_cmp (lZ a) (lZ b) ↔ b ≤ a := by
  rw [lc_lt ha hb]
  by_cases h : b < a
  · rw [if_pos h]
    exact ⟨fun _ => by omega, fun _ => by decide⟩
  · rw [if_neg h]
    by_cases h2 : a = b
    · rw [if_pos h2]
      exact ⟨fun _ => by omega, fun _ => by decide⟩
    · rw [if_neg h2]
      exact ⟨fun q => absurd q (by decide), fun q => by omega⟩
def qVal (T B : Int) : Qn := rd (T * B.sign) B.natAbs
theorem fl_abs {T : Int} (h1 : -9223372036854775808 ≤ T) (h2 : T < 9223372036854775808) : (if 0 ≤ T then lZ T else -lZ T) = lZ ((T.natAbs : Nat) : Int) ∧ T.natAbs < 18446744073709551616 := by
  refine ⟨?_, by omega⟩
  split
  · congr 1; omega
  · rw [lZ_neg]; congr 1; omega
theorem fromLongs_s {M : me_M} {K : Nat} {vs : Nat → Nat} {T B : Int} (h : RK M K vs) (t1 : -9223372036854775808 ≤ T) (t2 : T < 9223372036854775808) (b1 : -9223372036854775808 ≤ B) (b2 : B < 9223372036854775808) (hB : B ≠ 0) :
    ∃ (M' : me_M) (v : Value), f_X3_fromLongs [.ref K, .long (lZ T), .long (lZ B)] M = some (some v, M') ∧ Rs M M' K v (qVal T B) := by
  have hBn : 0 < B.natAbs := by omega
  rw [e_X3_fromLongs, l0z]
  by_cases hT : T = 0
  · rw [if_pos (lgc0.mpr (by rw [hT])), h.o]
    simp only [bS, rk0, vN]
    rw [if_pos (by decide)]
    refine ⟨M, _, rfl, ?_⟩
    have : qVal T B = (0, 0, 1) := by
      unfold qVal
      rw [hT, Int.zero_mul]
      exact rd_0 hBn
    rw [this]
    exact h.rz
  rw [if_neg (by rw [lgc0, lZ_eq (by omega) (by omega)]; exact hT), h.o]
  simp only [bS, rk7]
  obtain ⟨eT, uT⟩ := fl_abs t1 t2
  obtain ⟨eB, uB⟩ := fl_abs b1 b2
  have WL := h.at 5 (w := K + 18) (by omega) (by omega)
  obtain ⟨M1, f1, V1, G1⟩ := longW WL (by omega) uT
  obtain ⟨R1, F1⟩ := h.opw 5 (by omega) (by omega) V1 G1
  have WR := R1.at 6 (w := K + 20) (by omega) (by omega)
  obtain ⟨M2, f2, V2, G2⟩ := longW WR (by omega) uB
  obtain ⟨R2, F2⟩ := R1.opw 6 (by omega) (by omega) V2 G2
  have F12 := F1.trans F2
  have L2 := R2.at 5 (w := K + 18) (by omega) (by omega)
  rw [up_n _ _ (by omega), up_s] at L2
  have r2 := R2.at 6 (w := K + 20) (by omega) (by omega)
  rw [up_s] at r2
  have hT70 : T.natAbs < 2 ^ (31 * 70) := p31 (m := 3) (Nat.lt_of_lt_of_le uT (by decide)) (by omega)
  have hB70 : B.natAbs < 2 ^ (31 * 70) := p31 (m := 3) (Nat.lt_of_lt_of_le uB (by decide)) (by omega)
  obtain ⟨M3, f3, R3, F3⟩ := R2.findw 2 (w := K + 12) (by omega) (by omega) L2 r2 (by omega) (by omega) hT70 hB70
  have F13 := F12.trans F3
  have hg0 : 0 < Nat.gcd T.natAbs B.natAbs := Nat.gcd_pos_of_pos_right _ hBn
  have C3 := R3.at 2 (w := K + 12) (by omega) (by omega)
  rw [up_s] at C3
  have L3 := R3.at 5 (w := K + 18) (by omega) (by omega)
  rw [up_n _ _ (by omega), up_n _ _ (by omega), up_s] at L3
  obtain ⟨M4, w4, f4, R4, F4, _, E4⟩ := divideOut_s R3 L3 C3 (j := 7) (w := K + 22) (by omega) (by omega) (by omega) (by omega) (by omega) (by omega) hg0 hT70
  have F14 := F13.trans F4
  have C4 := R4.at 2 (w := K + 12) (by omega) (by omega)
  rw [E4.2 2 (by omega) (by omega), up_s] at C4
  have r4 := R4.at 6 (w := K + 20) (by omega) (by omega)
  rw [E4.2 6 (by omega) (by omega), up_n _ _ (by omega), up_s] at r4
  obtain ⟨M5, w5, f5, R5, F5, _, E5⟩ := divideOut_s R4 r4 C4 (j := 8) (w := K + 24) (by omega) (by omega) (by omega) (by omega) (by omega) (by omega) hg0 hB70
  have F15 := F14.trans F5
  have y7 : w5 7 = T.natAbs / Nat.gcd T.natAbs B.natAbs := by rw [E5.2 7 (by omega) (by omega), E4.1]
  have y8 : w5 8 = B.natAbs / Nat.gcd T.natAbs B.natAbs := E5.1
  have hna : (T * B.sign).natAbs = T.natAbs := by
    rw [Int.natAbs_mul]
    rcases Int.lt_or_lt_of_ne hB with k | k
    · rw [Int.sign_eq_neg_one_of_neg k]; exact Nat.mul_one _
    · rw [Int.sign_eq_one_of_pos k]; exact Nat.mul_one _
  have hq : qVal T B = ((T * B.sign).sign, w5 7, w5 8) := by
    unfold qVal rd
    rw [hna, y7, y8]
  have hN := rd_nf (N := T * B.sign) hBn
  rw [show rd (T * B.sign) B.natAbs = _ from hq] at hN
  rw [hq]
  obtain ⟨M6, v, f6, S6⟩ := made_s (s := (T * B.sign).sign) R5 hN (by rw [y7]; exact p31 (Nat.lt_of_le_of_lt (Nat.div_le_self _ _) hT70) (by omega)) (by rw [y8]; exact p31 (Nat.lt_of_le_of_lt (Nat.div_le_self _ _) hB70) (by omega))
  have h27 : (if 0 ≤ lg_cmp (lZ T) (lZ 0) then sm T_X3_fromLongs (27, [(0, .ref K), (1, .long (lZ T)), (3, .long (lZ B))], [.long (lZ T), .ref (K + 18)], M, 0, 0) else sm T_X3_fromLongs (27, [(0, .ref K), (1, .long (lZ T)), (3, .long (lZ B))], [.long (-lZ T), .ref (K + 18)], M, 0, 0)) = sm T_X3_fromLongs (27, [(0, .ref K), (1, .long (lZ T)), (3, .long (lZ B))], [.long (lZ ((T.natAbs : Nat) : Int)), .ref (K + 18)], M, 0, 0) := by
    rw [← eT]
    by_cases k : 0 ≤ T
    · rw [if_pos ((lc_ge0 (by omega) (by omega)).mpr k), if_pos k]
    · rw [if_neg (by rw [lc_ge0 (by omega) (by omega)]; exact k), if_neg k]
  have h46 : (if 0 ≤ lg_cmp (lZ B) (lZ 0) then sm T_X3_fromLongs (46, [(0, .ref K), (1, .long (lZ T)), (3, .long (lZ B))], [.long (lZ B), .ref (K + 20)], M1, 0, 0) else sm T_X3_fromLongs (46, [(0, .ref K), (1, .long (lZ T)), (3, .long (lZ B))], [.long (-lZ B), .ref (K + 20)], M1, 0, 0)) = sm T_X3_fromLongs (46, [(0, .ref K), (1, .long (lZ T)), (3, .long (lZ B))], [.long (lZ ((B.natAbs : Nat) : Int)), .ref (K + 20)], M1, 0, 0) := by
    rw [← eB]
    by_cases k : 0 ≤ B
    · rw [if_pos ((lc_ge0 (by omega) (by omega)).mpr k), if_pos k]
    · rw [if_neg (by rw [lc_ge0 (by omega) (by omega)]; exact k), if_neg k]
  refine ⟨M6, v, ?_, Rs.trans F15 S6⟩
  rw [h27, e_X3_fromLongs_27]
  simp only [vR, bS]
  rw [WL.b]
  simp only [f1, bS]
  refine Eq.trans (b := sm T_X3_fromLongs (46, [(0, .ref K), (1, .long (lZ T)), (3, .long (lZ B))], [.long (lZ ((B.natAbs : Nat) : Int)), .ref (K + 20)], M1, 0, 0)) ?_ ?_
  · show (cond true _ none : Option sm_R) = _
    simp only [cond_true, cNn, R1.o, bS, rk8]
    exact h46
  rw [e_X3_fromLongs_46]
  simp only [vR, bS]
  rw [WR.b]
  simp only [f2, bS]
  refine Eq.trans (b := sm T_X3_fromLongs (100, [(0, .ref K), (1, .long (lZ T)), (3, .long (lZ B))], [], M5, 0, 0)) ?_ ?_
  · show (cond true _ none : Option sm_R) = _
    simp only [cond_true, cNn, R2.o, bS, rk1, rk7, rk8, rk4, vR]
    rw [R2.e]
    simp only [f3, bS]
    show (cond true _ none : Option sm_R) = _
    simp only [cond_true, cNn, R3.o, bS, rk7, rk4, rk9, f4]
    show (cond true _ none : Option sm_R) = _
    simp only [cond_true, cNn, R4.o, bS, rk8, rk4, rk10, f5]
    rfl
  rw [e_X3_fromLongs_100, l0z]
  have fin : ∀ s0 s1 : Int32, ((s1 = s0 ∧ (T * B.sign).sign = 1) ∨ (s1 ≠ s0 ∧ (T * B.sign).sign = -1)) → sm T_X3_fromLongs (123, [], [.int s0, .int s1, .ref K], M5, 0, 0) = some (some v, M6) := by
    intro s0 s1 hh
    rw [e_X3_fromLongs_123]
    rcases hh with ⟨k1, k2⟩ | ⟨k1, k2⟩
    · rw [if_pos k1, R5.o]
      rw [k2] at f6
      have f6' : f_X3_made [.ref K, .int 1] M5 = some (some v, M6) := f6
      simp only [bS, f6']
      exact S6.pass (by decide)
    · rw [if_neg k1, R5.o]
      rw [k2] at f6
      have f6' : f_X3_made [.ref K, .int (-1)] M5 = some (some v, M6) := f6
      simp only [bS, f6']
      exact S6.pass (by decide)
  have hsg : (T * B.sign).sign = T.sign * B.sign := by rw [Int.sign_mul, Int.sign_sign]
  by_cases kT : 0 ≤ T
  · rw [if_pos ((lc_ge0 (by omega) (by omega)).mpr kT), e_X3_fromLongs_112, l0z]
    have eT1 : T.sign = 1 := Int.sign_eq_one_of_pos (by omega)
    by_cases kB : 0 ≤ B
    · rw [if_pos ((lc_ge0 (by omega) (by omega)).mpr kB)]
      exact fin 0 0 (Or.inl ⟨rfl, by rw [hsg, eT1, Int.sign_eq_one_of_pos (by omega)]; rfl⟩)
    · rw [if_neg (by rw [lc_ge0 (by omega) (by omega)]; exact kB)]
      exact fin 1 0 (Or.inr ⟨by decide, by rw [hsg, eT1, Int.sign_eq_neg_one_of_neg (by omega)]; rfl⟩)
  · rw [if_neg (by rw [lc_ge0 (by omega) (by omega)]; exact kT), e_X3_fromLongs_112, l0z]
    have eT1 : T.sign = -1 := Int.sign_eq_neg_one_of_neg (by omega)
    by_cases kB : 0 ≤ B
    · rw [if_pos ((lc_ge0 (by omega) (by omega)).mpr kB)]
      exact fin 0 1 (Or.inr ⟨by decide, by rw [hsg, eT1, Int.sign_eq_one_of_pos (by omega)]; rfl⟩)
    · rw [if_neg (by rw [lc_ge0 (by omega) (by omega)]; exact kB)]
      exact fin 1 1 (Or.inl ⟨rfl, by rw [hsg, eT1, Int.sign_eq_neg_one_of_neg (by omega)]; rfl⟩)
