/-- one more away from 0, or none -/
def mr (how : Nat) (s : Int) (r d q : Nat) : Nat := if how = 2 then (if d < 2 * r ∨ (2 * r = d ∧ q % 2 = 1) then 1 else 0) else if (how = 0 ∧ s < 0) ∨ (how = 1 ∧ 0 < s) then 1 else 0
theorem mr_le (how : Nat) (s : Int) (r d q : Nat) : mr how s r d q ≤ 1 := by
  unfold mr
  split <;> split <;> omega
theorem away_s {M : me_M} {K pa r q how : Nat} {vs : Nat → Nat} {a : Qn} (h : RK M K vs) (ha : Fx M K pa a) (h5 : vs 5 = r) (h7 : vs 7 = q) (hr : r ≤ a.2.2) (hh : how ≤ 3) :
    ∃ (M' : me_M) (ws : Nat → Nat), f_X3_isAwayFromZero [.ref K, .ref pa, .int (iZ how)] M = some (some (.int (iZ (mr how a.1 r a.2.2 q))), M') ∧ RK M' K ws ∧ FK M M' K ∧ M'.1 = M.1 ∧ ws 7 = q := by
  have aN := ha.2.1
  have a1 := aN.1
  obtain ⟨aa, ab, caa, cab, oa, Waa, Wab, kaa, kab⟩ := ha.ob
  have L := h.at 5 (w := K + 18) (by omega) (by omega)
  rw [h5] at L
  have R := h.at 6 (w := K + 20) (by omega) (by omega)
  rw [e_X3_isAwayFromZero]
  by_cases e2 : how = 2
  · rw [if_pos (by rw [e2]; rfl), h.o, oa]
    obtain ⟨M1, f1, V1, G1⟩ := diffW (m := 17) R Wab L (p527 ha.2.2.1.2) (by omega) hr
    obtain ⟨R1, F1⟩ := h.opw 6 (by omega) (by omega) V1 G1
    have L1 := R1.at 5 (w := K + 18) (by omega) (by omega)
    rw [up_n _ _ (by omega), h5] at L1
    have r1 := R1.at 6 (w := K + 20) (by omega) (by omega)
    rw [up_s] at r1
    have a1' := R1.at 7 (w := K + 22) (by omega) (by omega)
    rw [up_n _ _ (by omega), h7] at a1'
    simp only [bS, rk7, rk8, h2, vR]
    rw [R.b]
    simp only [f1, bS, cNn, R1.o, rk7, rk8, vR]
    rw [L1.b]
    simp only [cmpW L1 r1, bS, vI, R1.o, rk9, vR]
    refine ⟨M1, _, ?_, R1, F1, G1.1, by rw [up_n _ _ (by omega), h7]⟩
    unfold mr
    rw [if_pos e2]
    by_cases hp : a.2.2 - r < r
    · rw [if_pos (cmp_p.mpr hp), if_pos (Or.inr trivial), c00, if_pos (Or.inl (by omega))]
      rfl
    · rw [if_neg (fun w => hp (cmp_p.mp w))]
      by_cases hz : r = a.2.2 - r
      · rw [if_pos (cmp_z.mpr hz), a1'.b, oddW a1']
        simp only [bS, vI]
        by_cases ho : q % 2 = 1
        · rw [if_neg (by rw [if_pos ho]; decide), if_pos (Or.inr trivial), c00, if_pos (Or.inr ⟨by omega, ho⟩)]
          rfl
        · rw [if_pos (by rw [if_neg ho]), if_pos (Or.inl trivial), c00, if_neg (fun w => by omega)]
          rfl
      · rw [if_neg (fun w => hz (cmp_z.mp w)), if_pos (Or.inl trivial), c00, if_neg (fun w => by omega)]
        rfl
  · rw [if_neg (by rw [z_2, iZ_eq (by omega) (by omega)]; omega)]
    have h67 : sm T_X3_isAwayFromZero (67, [(1, .ref pa), (2, .int (iZ how))], [], M, 0, 0) = some (some (.int (if how = 1 ∧ 0 < a.1 then 1 else 0)), M) := by
      rw [e_X3_isAwayFromZero_67]
      by_cases e1 : how = 1
      · rw [if_pos (by rw [e1]; rfl), oa]
        simp only [bS, g0, vI]
        by_cases hs : 0 < a.1
        · rw [if_neg (by rw [z_0, iZ_le (by omega) (by omega)]; omega), if_pos (Or.inr trivial), c00, if_pos ⟨e1, hs⟩]
        · rw [if_pos (by rw [z_0, iZ_le (by omega) (by omega)]; omega), if_pos (Or.inl trivial), c00, if_neg (fun w => hs w.2)]
      · rw [if_neg (by rw [z_1, iZ_eq (by omega) (by omega)]; omega), cz0, c00, if_neg (fun w => e1 w.1)]
    refine ⟨M, vs, ?_, h, FK.refl _ _, rfl, h7⟩
    unfold mr
    rw [if_neg e2]
    by_cases e0 : how = 0
    · rw [if_pos (by rw [e0]; rfl), oa]
      simp only [bS, g0, vI]
      by_cases hs : a.1 < 0
      · rw [if_pos (by rw [z_0, iZ_lt (by omega) (by omega)]; omega), if_pos (Or.inr trivial), c00, if_pos (Or.inl ⟨e0, hs⟩)]
        rfl
      · rw [if_neg (by rw [z_0, iZ_lt (by omega) (by omega)]; omega), h67, if_neg (fun w => by omega), if_neg (fun w => by omega)]
        rfl
    · rw [if_neg (by rw [z_0, iZ_eq (by omega) (by omega)]; omega), h67]
      by_cases e1 : how = 1 ∧ 0 < a.1
      · rw [if_pos e1, if_pos (Or.inr e1)]; rfl
      · rw [if_neg e1, if_neg (fun w => w.elim (fun k => e0 k.1) e1)]; rfl
def qWm (a : Qn) (how : Nat) : Nat := a.2.1 / a.2.2 + (if a.2.1 % a.2.2 = 0 then 0 else mr how a.1 (a.2.1 % a.2.2) a.2.2 (a.2.1 / a.2.2))
def qWhole (a : Qn) (how : Nat) : Qn := (if qWm a how = 0 then 0 else a.1, qWm a how, 1)
theorem rounded_s {M : me_M} {K pa how : Nat} {vs : Nat → Nat} {a : Qn} (h : RK M K vs) (ha : Fx M K pa a) (hh : how ≤ 3) :
    ∃ (M' : me_M) (v : Value), f_X3_rounded [.ref K, .ref pa, .int (iZ how)] M = some (some v, M') ∧ Rs M M' K v (qWhole a how) := by
  have aN := ha.2.1
  have hda := aN.2.2.1
  obtain ⟨aa, ab, caa, cab, oa, Waa, Wab, kaa, kab⟩ := ha.ob
  have sna := p527 ha.2.2.1.1
  have sda := p527 ha.2.2.1.2
  have hdm := Nat.div_add_mod a.2.1 a.2.2
  have hml := Nat.mod_lt a.2.1 hda
  have L := h.at 5 (w := K + 18) (by omega) (by omega)
  obtain ⟨M1, f1, V1, G1⟩ := copyW (m := 17) L Waa sna (by omega)
  obtain ⟨R1, F1⟩ := h.opw 5 (by omega) (by omega) V1 G1
  have L1 := R1.at 5 (w := K + 18) (by omega) (by omega)
  have oa1 := ob_fk oa (Or.inr ha.1) h.dm F1
  obtain ⟨M2, f2, R2, F2⟩ := R1.divw 5 7 (w1 := K + 18) (w2 := K + 22) (by omega) (by omega) (by omega) (by omega) (by omega) (Wab.fk kab h.dm F1) (by omega) (by omega) (by omega) hda (by rw [up_s]; exact p31 sna (by omega))
  rw [up_s] at R2
  have F12 := F1.trans F2
  have L2 := R2.at 5 (w := K + 18) (by omega) (by omega)
  rw [up_n _ _ (by omega), up_s] at L2
  obtain ⟨t, o1, o2, o3, _⟩ := L2.obj
  have a2 := ha.fk h.dm F12
  rw [e_X3_rounded]
  simp only [h.o, oa, bS, rk7, g1, vR]
  rw [L.b]
  simp only [f1, bS, cNn, R1.o, oa1, rk7, rk9, h2, vR]
  rw [L1.b]
  simp only [f2, bS, cNn, R2.o, rk7, rk9, vR, o1, g1, vI]
  by_cases hz : a.2.1 % a.2.2 = 0
  · rw [if_pos (by rw [o3.mpr hz]; rfl), if_pos (by decide)]
    have hd1 : a.2.2 = 1 := Nat.Coprime.eq_one_of_dvd aN.2.2.2.symm (Nat.dvd_of_mod_eq_zero hz)
    have : qWhole a how = a := by
      unfold qWhole qWm
      rw [if_pos hz, hd1, Nat.div_one, Nat.add_zero]
      have e1 : (if a.2.1 = 0 then (0 : Int) else a.1) = a.1 := by
        by_cases k : a.2.1 = 0
        · rw [if_pos k, aN.2.1.mpr k]
        · rw [if_neg k]
      rw [e1, ← hd1]
    rw [this]
    exact ⟨M2, _, rfl, ⟨_, R2⟩, F12, Or.inl ⟨ha.2.2.1, pa, rfl, a2⟩⟩
  · have ht : t ≠ 0 := fun w => hz (o3.mp w)
    rw [if_neg (by rw [z_0, iZ_eq (by omega) (by omega)]; omega)]
    obtain ⟨M3, w3, f3, R3, F3, l3, e7⟩ := away_s (r := a.2.1 % a.2.2) (q := a.2.1 / a.2.2) R2 a2 (by rw [up_n _ _ (by omega), up_s]) (up_s _ _ _) (Nat.le_of_lt hml) hh
    have hm1 := mr_le how a.1 (a.2.1 % a.2.2) a.2.2 (a.2.1 / a.2.2)
    have hWm : qWm a how = a.2.1 / a.2.2 + mr how a.1 (a.2.1 % a.2.2) a.2.2 (a.2.1 / a.2.2) := by
      unfold qWm
      rw [if_neg hz]
    have hd2 : 2 ≤ a.2.2 := by
      apply Nat.lt_of_not_le
      intro k
      have : a.2.2 = 1 := by omega
      rw [this, Nat.mod_one] at hz
      exact hz rfl
    have hql : a.2.1 / a.2.2 + 1 ≤ a.2.1 := by
      have : 2 * (a.2.1 / a.2.2) ≤ a.2.2 * (a.2.1 / a.2.2) := Nat.mul_le_mul_right _ hd2
      omega
    simp only [f3, bS, vI, R3.o, rk9, vR]
    have A3 := R3.at 7 (w := K + 22) (by omega) (by omega)
    rw [e7] at A3
    generalize hmm : mr how a.1 (a.2.1 % a.2.2) a.2.2 (a.2.1 / a.2.2) = m at *
    have hn0 : a.1 ≠ 0 := fun w => by
      have := aN.2.1.mp w
      rw [this, Nat.zero_mod] at hz
      exact hz rfl
    -- behind the rounding
    have fin : ∀ (N : me_M) (us : Nat → Nat), RK N K us → FK M N K → us 7 = qWm a how → ∃ (M' : me_M) (v : Value), sm T_X3_rounded (54, [(0, .ref K), (1, .ref pa)], [], N, 0, 0) = some (some v, M') ∧ Rs M M' K v (qWhole a how) := by
      intro N us RN FN u7
      have B := RN.at 8 (w := K + 24) (by omega) (by omega)
      obtain ⟨N1, k1, k2, k3⟩ := copyW (m := 1) B RN.one (by decide) (by omega)
      obtain ⟨RN1, FN1⟩ := RN.opw 8 (by omega) (by omega) k2 k3
      have FF := FN.trans FN1
      have oaN := ob_fk oa (Or.inr ha.1) h.dm FF
      have A := RN1.at 7 (w := K + 22) (by omega) (by omega)
      rw [up_n _ _ (by omega), u7] at A
      obtain ⟨t', p1, p2, p3, _⟩ := A.obj
      rw [e_X3_rounded_54]
      simp only [RN.o, bS, rk10, rk11, vR]
      rw [B.b]
      simp only [k1, bS]
      by_cases hq : qWm a how = 0
      · have hQ : qWhole a how = (0, 0, 1) := by
          unfold qWhole
          rw [if_pos hq, hq]
        rw [hQ]
        refine ⟨N1, .ref (K + 28), ?_, Rs.trans FF RN1.rz⟩
        show (cond true _ none : Option sm_R) = _
        simp only [cond_true, cNn, RN1.o, bS, rk9, vR, p1, g1, vI, rk0, vN]
        rw [if_pos (by rw [p3.mpr hq]; rfl)]
        rfl
      · have hQ : qWhole a how = (a.1, qWm a how, 1) := by
          unfold qWhole
          rw [if_neg hq]
        rw [hQ]
        have ht' : t' ≠ 0 := fun w => hq (p3.mp w)
        have y7 : up us 8 1 7 = qWm a how := by rw [up_n _ _ (by omega), u7]
        have y8 : up us 8 1 8 = 1 := up_s _ _ _
        obtain ⟨N2, v, f5, S5⟩ := made_s (s := a.1) RN1 (by rw [y7, y8]; exact Nf.mk (by have := aN.1; omega) (by omega) (by omega) (Nat.coprime_one_right _)) (by rw [y7]; exact p31 (m := 17) (by omega) (by omega)) (by rw [y8]; exact p31 (m := 1) (by decide) (by omega))
        rw [y7, y8] at S5
        refine ⟨N2, v, ?_, Rs.trans FF S5⟩
        show (cond true _ none : Option sm_R) = _
        simp only [cond_true, cNn, RN1.o, bS, rk9, vR, p1, g1, vI, oaN, g0, f5]
        rw [if_neg (by rw [z_0, iZ_eq (by omega) (by omega)]; omega)]
        exact S5.pass (by decide)
    by_cases hmz : m = 0
    · rw [if_pos (by rw [hmz]; rfl)]
      exact fin M3 w3 R3 (F12.trans F3) (by rw [e7, hWm, hmz]; rfl)
    · rw [if_neg (by rw [z_0, iZ_eq (by omega) (by omega)]; omega), A3.b]
      obtain ⟨M4, f4, V4, G4⟩ := addOne_s (m := 17) A3 (Nat.lt_of_le_of_lt (Nat.div_le_self _ _) sna) (by omega)
      obtain ⟨R4, F4⟩ := R3.opw 7 (by omega) (by omega) V4 G4
      simp only [f4, bS, cNn]
      exact fin M4 _ R4 ((F12.trans F3).trans F4) (by rw [up_s, hWm, show m = 1 by omega])
