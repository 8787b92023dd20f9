theorem RK.opw {M M' : me_M} {K v w : Nat} {vs : Nat → Nat} (h : RK M K vs) (i : Nat) (hi : i < 9) (hw : w = K + 8 + 2 * i) (hW : Wh M' w 72 v) (hF : Fr M M' w) : RK M' K (up vs i v) ∧ FK M M' K := by
  subst hw
  exact h.op hi hW hF
theorem RK.findw {M : me_M} {K a b A B ca cb w : Nat} {vs : Nat → Nat} (h : RK M K vs) (i : Nat) (hi : i < 9) (hw : w = K + 8 + 2 * i) (ha : Wh M a ca A) (hb : Wh M b cb B) (ha1 : K + 8 ≤ a) (hb1 : K + 8 ≤ b) (hA : A < 2 ^ (31 * 70)) (hB : B < 2 ^ (31 * 70)) :
    ∃ M' : me_M, f_X1_find [.ref (K + 1), .ref a, .ref b, .ref w] M = some (none, M') ∧ RK M' K (up vs i (Nat.gcd A B)) ∧ FK M M' K := by
  subst hw
  exact h.find hi ha hb ha1 hb1 hA hB
theorem bring_s {M : me_M} {K pa pb : Nat} {vs : Nat → Nat} {a b : Qn} (h : RK M K vs) (ha : Fx M K pa a) (hb : Fx M K pb b) :
    ∃ (M' : me_M) (ws : Nat → Nat), f_X3_bringTogether [.ref K, .ref pa, .ref pb] M = some (none, M') ∧ RK M' K ws ∧ FK M M' K ∧ ws 2 = Nat.gcd a.2.2 b.2.2 ∧ ws 3 = a.2.2 / Nat.gcd a.2.2 b.2.2 ∧ ws 4 = b.2.2 / Nat.gcd a.2.2 b.2.2 ∧ ws 5 = a.2.1 * (b.2.2 / Nat.gcd a.2.2 b.2.2) ∧ ws 6 = b.2.1 * (a.2.2 / Nat.gcd a.2.2 b.2.2) := by
  obtain ⟨a1, aN, aF, aa, ab, caa, cab, oa, Waa, Wab, kaa, kab⟩ := ha
  obtain ⟨b1, bN, bF, ba, bb, cba, cbb, ob', Wba, Wbb, kba, kbb⟩ := hb
  have hda := aN.2.2.1
  have hdb := bN.2.2.1
  have sda := p527 aF.2
  have sdb := p527 bF.2
  have sna := p527 aF.1
  have snb := p527 bF.1
  generalize hg : Nat.gcd a.2.2 b.2.2 = g at *
  have hg0 : 0 < g := by rw [← hg]; exact Nat.gcd_pos_of_pos_left _ hda
  have hga : a.2.2 / g ≤ a.2.2 := Nat.div_le_self _ _
  have hgb : b.2.2 / g ≤ b.2.2 := Nat.div_le_self _ _
  obtain ⟨M1, f1, R1, F1⟩ := h.findw 2 (w := K + 12) (by omega) (by omega) Wab Wbb (by omega) (by omega) (p31 sda (by omega)) (p31 sdb (by omega))
  rw [hg] at R1
  have oa1 := ob_fk oa (Or.inr a1) h.dm F1
  have ob1 := ob_fk ob' (Or.inr b1) h.dm F1
  have Wab1 := Wab.fk kab h.dm F1
  have C1 := R1.at 2 (w := K + 12) (by omega) (by omega)
  rw [up_s] at C1
  obtain ⟨M2, w2, f2, R2, F2, _, E2⟩ := divideOut_s R1 Wab1 C1 (j := 3) (w := K + 14) (by omega) (by omega) (by omega) (by omega) (by omega) (by omega) hg0 (p31 sda (by omega))
  have F12 := F1.trans F2
  have oa2 := ob_fk oa (Or.inr a1) h.dm F12
  have ob2 := ob_fk ob' (Or.inr b1) h.dm F12
  have Wbb2 := Wbb.fk kbb h.dm F12
  have C2 := R2.at 2 (w := K + 12) (by omega) (by omega)
  rw [E2.2 2 (by omega) (by omega), up_s] at C2
  obtain ⟨M3, w3, f3, R3, F3, _, E3⟩ := divideOut_s R2 Wbb2 C2 (j := 4) (w := K + 16) (by omega) (by omega) (by omega) (by omega) (by omega) (by omega) hg0 (p31 sdb (by omega))
  have F13 := F12.trans F3
  have oa3 := ob_fk oa (Or.inr a1) h.dm F13
  have ob3 := ob_fk ob' (Or.inr b1) h.dm F13
  have Waa3 := Waa.fk kaa h.dm F13
  have cB3 := R3.at 4 (w := K + 16) (by omega) (by omega)
  rw [E3.1] at cB3
  have L3 := R3.at 5 (w := K + 18) (by omega) (by omega)
  obtain ⟨M4, f4, W4, G4⟩ := prodW L3 Waa3 cB3 (by omega) (by omega) sna (Nat.lt_of_le_of_lt hgb sdb) (by omega)
  obtain ⟨R4, F4⟩ := R3.opw 5 (by omega) (by omega) W4 G4
  have F14 := F13.trans F4
  have ob4 := ob_fk ob' (Or.inr b1) h.dm F14
  have Wba4 := Wba.fk kba h.dm F14
  have cA4 := R4.at 3 (w := K + 14) (by omega) (by omega)
  rw [up_n _ _ (by omega), E3.2 3 (by omega) (by omega), E2.1] at cA4
  have r4 := R4.at 6 (w := K + 20) (by omega) (by omega)
  obtain ⟨M5, f5, W5, G5⟩ := prodW r4 Wba4 cA4 (by omega) (by omega) snb (Nat.lt_of_le_of_lt hga sda) (by omega)
  obtain ⟨R5, F5⟩ := R4.opw 6 (by omega) (by omega) W5 G5
  refine ⟨M5, _, ?_, R5, F14.trans F5, ?_, ?_, ?_, ?_, ?_⟩
  · rw [e_X3_bringTogether]
    simp only [h.o, oa, ob', bS, rk1, rk4, h2, vR]
    rw [h.e]
    simp only [f1, bS, cNn, R1.o, oa1, ob1, rk4, rk5, h2, f2, R2.o, oa2, ob2, rk6, f3, R3.o, oa3, rk7, g1, vR]
    rw [L3.b]
    simp only [f4, bS, cNn]
    rw [e_X3_bringTogether_66]
    simp only [R4.o, ob4, bS, rk8, rk5, g1, vR]
    rw [r4.b]
    simp only [f5, bS, cNn, c00]
  · rw [up_n _ _ (by omega), up_n _ _ (by omega), E3.2 2 (by omega) (by omega), E2.2 2 (by omega) (by omega), up_s]
  · rw [up_n _ _ (by omega), up_n _ _ (by omega), E3.2 3 (by omega) (by omega), E2.1]
  · rw [up_n _ _ (by omega), up_n _ _ (by omega), E3.1]
  · rw [up_n _ _ (by omega), up_s]
  · rw [up_s]
/-- a number over cutA times a bottom -/
theorem over_s {M : me_M} {K sh b csh cb L S D A : Nat} {vs : Nat → Nat} {s : Int} (h : RK M K vs) (hsh : Wh M sh csh S) (hb : Wh M b cb D) (h5 : vs 5 = L) (h3 : vs 3 = A) (k1 : K + 12 ≤ sh) (k3 : K + 26 ≤ b) (hL : L < 2 ^ (31 * 70)) (hS : S < 2 ^ (31 * 70)) (hD : D < 2 ^ (31 * 17)) (hA : A < 2 ^ (31 * 17)) (hL0 : 0 < L) (hN : Nf (s, L / Nat.gcd L S, A * (D / Nat.gcd L S))) :
    ∃ (M' : me_M) (v : Value), f_X3_overBoth [.ref K, .int (iZ s), .ref (K + 18), .ref sh, .ref b] M = some (some v, M') ∧ Rs M M' K v (s, L / Nat.gcd L S, A * (D / Nat.gcd L S)) := by
  have WL := h.at 5 (w := K + 18) (by omega) (by omega)
  rw [h5] at WL
  have hg0 : 0 < Nat.gcd L S := Nat.gcd_pos_of_pos_left _ hL0
  obtain ⟨M1, f1, R1, F1⟩ := h.findw 4 (w := K + 16) (by omega) (by omega) WL hsh (by omega) (by omega) hL hS
  generalize hg : Nat.gcd L S = g at *
  have hgd : D / g ≤ D := Nat.div_le_self _ _
  have hgl : L / g ≤ L := Nat.div_le_self _ _
  have WL1 := R1.at 5 (w := K + 18) (by omega) (by omega)
  rw [up_n _ _ (by omega), h5] at WL1
  have C1 := R1.at 4 (w := K + 16) (by omega) (by omega)
  rw [up_s] at C1
  obtain ⟨M2, w2, f2, R2, F2, _, E2⟩ := divideOut_s R1 WL1 C1 (j := 7) (w := K + 22) (by omega) (by omega) (by omega) (by omega) (by omega) (by omega) hg0 hL
  have F12 := F1.trans F2
  have Wb2 := hb.fk k3 h.dm F12
  have C2 := R2.at 4 (w := K + 16) (by omega) (by omega)
  rw [E2.2 4 (by omega) (by omega), up_s] at C2
  obtain ⟨M3, w3, f3, R3, F3, _, E3⟩ := divideOut_s R2 Wb2 C2 (j := 6) (w := K + 20) (by omega) (by omega) (by omega) (by omega) (by omega) (by omega) hg0 (p31 hD (by omega))
  have F13 := F12.trans F3
  have cA3 := R3.at 3 (w := K + 14) (by omega) (by omega)
  rw [E3.2 3 (by omega) (by omega), E2.2 3 (by omega) (by omega), up_n _ _ (by omega), h3] at cA3
  have r3 := R3.at 6 (w := K + 20) (by omega) (by omega)
  rw [E3.1] at r3
  have b3 := R3.at 8 (w := K + 24) (by omega) (by omega)
  obtain ⟨M4, f4, W4, G4⟩ := prodW b3 cA3 r3 (by omega) (by omega) hA (Nat.lt_of_le_of_lt hgd hD) (by omega)
  obtain ⟨R4, F4⟩ := R3.opw 8 (by omega) (by omega) W4 G4
  have F14 := F13.trans F4
  have e7 : up w3 8 (A * (D / g)) 7 = L / g := by rw [up_n _ _ (by omega), E3.2 7 (by omega) (by omega), E2.1]
  have e8 : up w3 8 (A * (D / g)) 8 = A * (D / g) := up_s _ _ _
  obtain ⟨M5, v, f5, S5⟩ := made_s (s := s) R4 (by rw [e7, e8]; exact hN) (by rw [e7]; exact p31 (Nat.lt_of_le_of_lt hgl hL) (by omega)) (by rw [e8]; exact p31 (p31m hA (Nat.lt_of_le_of_lt hgd hD)) (by omega))
  rw [e7, e8] at S5
  refine ⟨M5, v, ?_, S5.1, F14.trans S5.2.1, S5.2.2⟩
  have hv : (v_rn v).bind (fun _ => (v_rn v).bind fun _ => if (0 + 5) ≤ 5 ∧ (0 + 151) ≤ 151 then (some (some v, M5) : Option sm_R) else none) = some (some v, M5) := by
    rcases S5.2.2 with ⟨_, p, hp, _⟩ | ⟨_, hp⟩
    · rw [hp]; rfl
    · rw [hp]; rfl
  rw [e_X3_overBoth]
  simp only [h.o, bS, rk1, rk6, vR]
  rw [h.e]
  simp only [f1, bS, cNn, R1.o, rk6, rk9, f2, R2.o, rk8, f3, R3.o, rk10, rk5, vR]
  rw [b3.b]
  simp only [f4, bS, cNn]
  rw [e_X3_overBoth_55]
  simp only [R4.o, bS, f5]
  exact hv
