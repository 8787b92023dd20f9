def qRem (a b : Qn) : Qn := rd (b.1 * (((if a.2.1 * b.2.2 % (b.2.1 * a.2.2) = 0 ∨ a.1 = b.1 then a.2.1 * b.2.2 % (b.2.1 * a.2.2) else b.2.1 * a.2.2 - a.2.1 * b.2.2 % (b.2.1 * a.2.2)) : Nat) : Int)) (a.2.2 * b.2.2)
theorem RK.divw {M : me_M} {K b D c w1 w2 : Nat} {vs : Nat → Nat} (h : RK M K vs) (i j : Nat) (hi : i < 9) (hj : j < 9) (hij : i ≠ j) (e1 : w1 = K + 8 + 2 * i) (e2 : w2 = K + 8 + 2 * j) (hb : Wh M b c D) (hb1 : K + 8 ≤ b) (hbi : b ≠ w1) (hbj : b ≠ w2) (hD : 0 < D) (hV : vs i < 2 ^ (31 * 70)) :
    ∃ M' : me_M, f_X5_divide [.ref w1, .ref b, .ref w2] M = some (none, M') ∧ RK M' K (up (up vs i (vs i % D)) j (vs i / D)) ∧ FK M M' K := by
  subst e1
  subst e2
  exact h.div hi hj hij hb hb1 hbi hbj hD hV
theorem remainder_s {M : me_M} {K pa pb : Nat} {vs : Nat → Nat} {a b : Qn} (h : RK M K vs) (ha : Fx M K pa a) (hb : Fx M K pb b) (h0 : b.1 ≠ 0) :
    ∃ (M' : me_M) (v : Value), f_X3_remainder [.ref K, .ref pa, .ref pb] M = some (some v, M') ∧ Rs M M' K v (qRem a b) := by
  have aN := ha.2.1
  have bN := hb.2.1
  obtain ⟨aa, ab, caa, cab, oa, Waa, Wab, kaa, kab⟩ := ha.ob
  obtain ⟨ba, bb, cba, cbb, ob', Wba, Wbb, kba, kbb⟩ := hb.ob
  obtain ⟨M1, ws, f1, R1, F1, w2, w3, w4, w5, w6⟩ := bring_s h ha hb
  have sda := p527 ha.2.2.1.2
  have sdb := p527 hb.2.2.1.2
  have sna := p527 ha.2.2.1.1
  have snb := p527 hb.2.2.1.1
  obtain ⟨cA, cB, g, e1, e2, e3, e4, e5, e6, e7, e8, e9⟩ := gcd_parts aN.2.2.1 bN.2.2.1
  rw [e1, e4] at w3
  rw [e1, e5] at w5
  rw [e1, e4] at w6
  have hcA : cA ≤ a.2.2 := by rw [← e4]; exact Nat.div_le_self _ _
  have hcB : cB ≤ b.2.2 := by rw [← e5]; exact Nat.div_le_self _ _
  have hnb : 0 < b.2.1 := Nat.pos_of_ne_zero (fun q => h0 (bN.2.1.mpr q))
  have hl5 : ws 5 < 2 ^ (31 * 34) := by rw [w5]; exact p31m (m := 17) (n := 17) sna (Nat.lt_of_le_of_lt hcB sdb)
  have hl6 : ws 6 < 2 ^ (31 * 34) := by rw [w6]; exact p31m (m := 17) (n := 17) snb (Nat.lt_of_le_of_lt hcA sda)
  have h60 : 0 < ws 6 := by rw [w6]; exact Nat.mul_pos hnb e7
  have l1 := R1.at 5 (w := K + 18) (by omega) (by omega)
  have r1 := R1.at 6 (w := K + 20) (by omega) (by omega)
  obtain ⟨M2, f2, R2, F2⟩ := R1.divw 5 1 (w1 := K + 18) (w2 := K + 10) (by omega) (by omega) (by omega) (by omega) (by omega) r1 (by omega) (by omega) (by omega) h60 (p31 hl5 (by omega))
  have F12 := F1.trans F2
  have hr := Nat.mod_lt (ws 5) h60
  have hdm := Nat.div_add_mod (ws 5) (ws 6)
  have e0 : a.2.1 * b.2.2 % (b.2.1 * a.2.2) = ws 5 % ws 6 * g := by
    rw [w5, w6]
    conv => lhs; rw [e2, e3]
    rw [← Nat.mul_assoc, ← Nat.mul_assoc, Nat.mul_mod_mul_right]
  have e00 : b.2.1 * a.2.2 = ws 6 * g := by
    rw [w6]
    conv => lhs; rw [e2]
    rw [Nat.mul_assoc]
  have e01 : a.2.2 * b.2.2 = cA * g * (cB * g) := by rw [← e2, ← e3]
  -- below: what comes after, when something is left
  have fin : ∀ (N : me_M) (us : Nat → Nat) (L : Nat) (s1 t : Int), RK N K us → FK M N K → us 5 = L → us 3 = cA → 0 < L → L < 2 ^ (31 * 34) → (s1 = 1 ∨ s1 = -1) → 1 * (L : Int) = s1 * ((a.2.1 * cB : Nat) : Int) + t * (cA : Int) → ∃ (M' : me_M) (v : Value), sm T_X3_remainder (62, [(0, .ref K), (2, .ref pb)], [], N, 0, 0) = some (some v, M') ∧ Rs M M' K v (rd (b.1 * ((L * g : Nat) : Int)) (a.2.2 * b.2.2)) := by
    intro N us L s1 t RN FN u5 u3 hL0 hLb hs1 hZ
    obtain ⟨kN, kR⟩ := rem_key (na := a.2.1) (sb := b.1) e7 e8 e9 e6 (by rw [← e2]; exact aN.2.2.2) hs1 (by have := bN.1; omega) hL0 hZ
    rw [← e3] at kN kR
    have obN := ob_fk ob' (Or.inr hb.1) h.dm FN
    have WbN := Wbb.fk kbb h.dm FN
    obtain ⟨M', v, f, S⟩ := over_s (s := b.1) RN WbN WbN u5 u3 (by omega) kbb (p31 hLb (by omega)) (p31 sdb (by omega)) sdb (Nat.lt_of_le_of_lt hcA sda) hL0 kN
    refine ⟨M', v, ?_, ?_⟩
    · rw [e_X3_remainder_62]
      simp only [obN, RN.o, bS, g0, h2, rk7, f]
      exact S.pass (by decide)
    · have kR' : rd (b.1 * ((L * g : Nat) : Int)) (a.2.2 * b.2.2) = (b.1, L / Nat.gcd L b.2.2, cA * (b.2.2 / Nat.gcd L b.2.2)) := by
        rw [← kR, ← e2]
      rw [kR']
      exact Rs.trans FN S
  have L2 := R2.at 5 (w := K + 18) (by omega) (by omega)
  rw [up_n _ _ (by omega), up_s] at L2
  obtain ⟨t, o1, o2, o3, _⟩ := L2.obj
  have oa2 := ob_fk oa (Or.inr ha.1) h.dm F12
  have ob2 := ob_fk ob' (Or.inr hb.1) h.dm F12
  rw [e_X3_remainder, h.o]
  simp only [f1, bS, cNn, R1.o, rk7, rk8, rk3, vR]
  rw [l1.b]
  simp only [f2, bS, cNn, R2.o, rk7, vR, o1, g1, vI]
  by_cases hz : ws 5 % ws 6 = 0
  · rw [if_pos (by rw [o3.mpr hz]; rfl)]
    simp only [rk0, bS, vN]
    rw [if_pos (by decide)]
    refine ⟨M2, _, rfl, ?_⟩
    have : qRem a b = (0, 0, 1) := by
      unfold qRem
      rw [e0, hz, Nat.zero_mul, if_pos (Or.inl rfl)]
      rw [show b.1 * ((0 : Nat) : Int) = 0 by omega]
      exact rd_0 (Nat.mul_pos aN.2.2.1 bN.2.2.1)
    rw [this]
    exact Rs.trans F12 R2.rz
  · have ht : t ≠ 0 := fun q => hz (o3.mp q)
    rw [if_neg (by rw [z_0, iZ_eq (by omega) (by omega)]; omega)]
    simp only [oa2, ob2, bS, g0, vI]
    have hzg : ¬ ws 5 % ws 6 * g = 0 := fun q => by
      rcases Nat.mul_eq_zero.mp q with k | k
      · exact hz k
      · omega
    have hPZ : ((ws 6 : Nat) : Int) * ((ws 5 / ws 6 : Nat) : Int) + ((ws 5 % ws 6 : Nat) : Int) = ((ws 5 : Nat) : Int) := by exact_mod_cast hdm
    by_cases hse : a.1 = b.1
    · rw [if_pos ((sge aN.1 bN.1).mpr hse)]
      obtain ⟨M', v, f, S⟩ := fin M2 _ (ws 5 % ws 6) 1 (-(((ws 5 / ws 6 : Nat) : Int) * (b.2.1 : Int))) R2 F12 (by rw [up_n _ _ (by omega), up_s]) (by rw [up_n _ _ (by omega), up_n _ _ (by omega)]; exact w3) (by omega) (by omega) (Or.inl rfl) (by
        have e9 : ((ws 6 : Nat) : Int) = (b.2.1 : Int) * (cA : Int) := by rw [w6]; push_cast; rfl
        rw [← w5]
        rw [e9] at hPZ
        grind)
      refine ⟨M', v, f, ?_⟩
      unfold qRem
      rw [if_pos (Or.inr hse), e0]
      exact S
    · rw [if_neg (by rw [sge aN.1 bN.1]; exact hse)]
      have r2 := R2.at 6 (w := K + 20) (by omega) (by omega)
      rw [up_n _ _ (by omega), up_n _ _ (by omega)] at r2
      obtain ⟨M3, f3, W3, G3⟩ := diffW (m := 34) L2 r2 L2 hl6 (by omega) (Nat.le_of_lt hr)
      obtain ⟨R3, F3⟩ := R2.opw 5 (by omega) (by omega) W3 G3
      simp only [rk7, rk8, bS, vR, f3, cNn]
      obtain ⟨M', v, f, S⟩ := fin M3 _ (ws 6 - ws 5 % ws 6) (-1) ((((ws 5 / ws 6 : Nat) : Int) + 1) * (b.2.1 : Int)) R3 (F12.trans F3) (up_s _ _ _) (by rw [up_n _ _ (by omega), up_n _ _ (by omega), up_n _ _ (by omega)]; exact w3) (by omega) (by omega) (Or.inr rfl) (by
        have e9 : ((ws 6 : Nat) : Int) = (b.2.1 : Int) * (cA : Int) := by rw [w6]; push_cast; rfl
        rw [← w5, Int.ofNat_sub (Nat.le_of_lt hr)]
        rw [e9] at hPZ ⊢
        grind)
      refine ⟨M', v, f, ?_⟩
      unfold qRem
      rw [e0, if_neg (fun q => q.elim hzg hse), e00, ← Nat.sub_mul]
      exact S
def qMeas (a b : Qn) : Qn := rd ((Nat.gcd (a.2.1 * b.2.2) (b.2.1 * a.2.2) : Nat) : Int) (a.2.2 * b.2.2)
theorem measure_s {M : me_M} {K pa pb : Nat} {vs : Nat → Nat} {a b : Qn} (h : RK M K vs) (ha : Fx M K pa a) (hb : Fx M K pb b) :
    ∃ (M' : me_M) (v : Value), f_X3_commonMeasure [.ref K, .ref pa, .ref pb] M = some (some v, M') ∧ Rs M M' K v (qMeas a b) := by
  have aN := ha.2.1
  have bN := hb.2.1
  obtain ⟨aa, ab, caa, cab, oa, Waa, Wab, kaa, kab⟩ := ha.ob
  obtain ⟨ba, bb, cba, cbb, ob', Wba, Wbb, kba, kbb⟩ := hb.ob
  have sda := p527 ha.2.2.1.2
  have sdb := p527 hb.2.2.1.2
  have sna := p527 ha.2.2.1.1
  have snb := p527 hb.2.2.1.1
  have hg0 : 0 < Nat.gcd a.2.2 b.2.2 := Nat.gcd_pos_of_pos_left _ aN.2.2.1
  obtain ⟨M1, f1, R1, F1⟩ := h.findw 2 (w := K + 12) (by omega) (by omega) Wab Wbb (by omega) (by omega) (p31 sda (by omega)) (p31 sdb (by omega))
  have oa1 := ob_fk oa (Or.inr ha.1) h.dm F1
  have C1 := R1.at 2 (w := K + 12) (by omega) (by omega)
  rw [up_s] at C1
  obtain ⟨M2, w2, f2, R2, F2, _, E2⟩ := divideOut_s R1 (Wab.fk kab h.dm F1) C1 (j := 3) (w := K + 14) (by omega) (by omega) (by omega) (by omega) (by omega) (by omega) hg0 (p31 sda (by omega))
  have F12 := F1.trans F2
  have ob2 := ob_fk ob' (Or.inr hb.1) h.dm F12
  have c2 := R2.at 3 (w := K + 14) (by omega) (by omega)
  rw [E2.1] at c2
  have b2 := R2.at 8 (w := K + 24) (by omega) (by omega)
  have sc : a.2.2 / Nat.gcd a.2.2 b.2.2 < 2 ^ (31 * 17) := Nat.lt_of_le_of_lt (Nat.div_le_self _ _) sda
  obtain ⟨M3, f3, V3, G3⟩ := prodW b2 c2 (Wbb.fk kbb h.dm F12) (by omega) (by omega) sc sdb (by omega)
  obtain ⟨R3, F3⟩ := R2.opw 8 (by omega) (by omega) V3 G3
  have F13 := F12.trans F3
  have oa3 := ob_fk oa (Or.inr ha.1) h.dm F13
  have ob3 := ob_fk ob' (Or.inr hb.1) h.dm F13
  obtain ⟨M4, f4, R4, F4⟩ := R3.findw 7 (w := K + 22) (by omega) (by omega) (Waa.fk kaa h.dm F13) (Wba.fk kba h.dm F13) (by omega) (by omega) (p31 sna (by omega)) (p31 snb (by omega))
  have F14 := F13.trans F4
  have a4 := R4.at 7 (w := K + 22) (by omega) (by omega)
  rw [up_s] at a4
  obtain ⟨t, o1, o2, o3, _⟩ := a4.obj
  have hbeg : f_X3_commonMeasure [.ref K, .ref pa, .ref pb] M = sm T_X3_commonMeasure (69, [(0, .ref K)], [], M4, 0, 0) := by
    rw [e_X3_commonMeasure]
    simp only [h.o, oa, ob', bS, rk1, rk4, h2, vR]
    rw [h.e]
    simp only [f1, bS, cNn, R1.o, oa1, rk4, rk5, h2, f2, R2.o, ob2, rk10, vR]
    rw [b2.b]
    simp only [f3, bS, cNn, R3.o, oa3, ob3, rk1, rk9, g1, vR]
    rw [R3.e]
    simp only [f4, bS, cNn]
  rw [hbeg, e_X3_commonMeasure_69]
  simp only [R4.o, bS, rk9, vR, o1, g1, vI]
  by_cases hz : Nat.gcd a.2.1 b.2.1 = 0
  · rw [if_pos (by rw [o3.mpr hz]; rfl)]
    simp only [rk0, bS, vN]
    rw [if_pos (by decide)]
    refine ⟨M4, _, rfl, ?_⟩
    have : qMeas a b = (0, 0, 1) := by
      unfold qMeas
      obtain ⟨k1, k2⟩ := Nat.gcd_eq_zero_iff.mp hz
      rw [k1, k2, Nat.zero_mul, Nat.zero_mul]
      exact rd_0 (Nat.mul_pos aN.2.2.1 bN.2.2.1)
    rw [this]
    exact Rs.trans F14 R4.rz
  · have ht : t ≠ 0 := fun q => hz (o3.mp q)
    rw [if_neg (by rw [z_0, iZ_eq (by omega) (by omega)]; omega)]
    obtain ⟨kN, kR⟩ := meas_key aN.2.2.1 bN.2.2.1 aN.2.2.2 bN.2.2.2 (Nat.pos_of_ne_zero hz)
    rw [show qMeas a b = _ from kR]
    have hgl : Nat.gcd a.2.1 b.2.1 < 2 ^ (31 * 17) := by
      by_cases h1 : a.2.1 = 0
      · rw [h1, Nat.gcd_zero_left]; exact snb
      · exact Nat.lt_of_le_of_lt (Nat.gcd_le_left _ (Nat.pos_of_ne_zero h1)) sna
    generalize hgg : Nat.gcd a.2.1 b.2.1 = G at *
    generalize hcc : a.2.2 / Nat.gcd a.2.2 b.2.2 = C at *
    have y7 : up (up w2 8 (C * b.2.2)) 7 G 7 = G := up_s _ _ _
    have y8 : up (up w2 8 (C * b.2.2)) 7 G 8 = C * b.2.2 := by rw [up_n _ _ (by omega), up_s]
    obtain ⟨M5, v, f5, S5⟩ := made_s (s := 1) R4 (by rw [y7, y8]; exact kN) (by rw [y7]; exact p31 hgl (by omega)) (by rw [y8]; exact p31 (p31m (m := 17) (n := 17) sc sdb) (by omega))
    rw [y7, y8] at S5
    have f5' : f_X3_made [.ref K, .int 1] M4 = some (some v, M5) := f5
    simp only [f5', bS]
    exact ⟨M5, v, S5.pass (by decide), Rs.trans F14 S5⟩
