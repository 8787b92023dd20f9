def qCmp (a b : Qn) : Int32 := if a.1 = b.1 then iZ a.1 * cmpN (a.2.1 * b.2.2) (b.2.1 * a.2.2) else if a.1 < b.1 then -1 else 1
/-- an act that changes nothing but the room -/
def Ro (M M' : me_M) (K : Nat) : Prop := (∃ ws : Nat → Nat, RK M' K ws) ∧ FK M M' K ∧ M'.1 = M.1
theorem compare_q {M : me_M} {K pa pb : Nat} {vs : Nat → Nat} {a b : Qn} (h : RK M K vs) (ha : Fx M K pa a) (hb : Fx M K pb b) :
    ∃ M' : me_M, f_X3_compare [.ref K, .ref pa, .ref pb] M = some (some (.int (qCmp a b)), M') ∧ Ro M M' K := by
  have aN := ha.2.1
  have bN := hb.2.1
  obtain ⟨aa, ab, caa, cab, oa, Waa, Wab, kaa, kab⟩ := ha.ob
  obtain ⟨ba, bb, cba, cbb, ob', Wba, Wbb, kba, kbb⟩ := hb.ob
  have sda := p527 ha.2.2.1.2
  have sdb := p527 hb.2.2.1.2
  have sna := p527 ha.2.2.1.1
  have snb := p527 hb.2.2.1.1
  rw [e_X3_compare]
  simp only [oa, ob', bS, g0, vI]
  unfold qCmp
  by_cases hse : a.1 = b.1
  · rw [if_pos ((sge aN.1 bN.1).mpr hse), if_pos hse]
    have L := h.at 5 (w := K + 18) (by omega) (by omega)
    obtain ⟨M1, f1, V1, G1⟩ := prodW L Waa Wbb (by omega) (by omega) sna sdb (by omega)
    obtain ⟨R1, F1⟩ := h.opw 5 (by omega) (by omega) V1 G1
    have r1 := R1.at 6 (w := K + 20) (by omega) (by omega)
    obtain ⟨M2, f2, V2, G2⟩ := prodW r1 (Wba.fk kba h.dm F1) (Wab.fk kab h.dm F1) (by omega) (by omega) snb sda (by omega)
    obtain ⟨R2, F2⟩ := R1.opw 6 (by omega) (by omega) V2 G2
    have oa1 := ob_fk oa (Or.inr ha.1) h.dm F1
    have ob1 := ob_fk ob' (Or.inr hb.1) h.dm F1
    have oa2 := ob_fk oa (Or.inr ha.1) h.dm (F1.trans F2)
    have L2 := R2.at 5 (w := K + 18) (by omega) (by omega)
    rw [up_n _ _ (by omega), up_s] at L2
    have r2 := R2.at 6 (w := K + 20) (by omega) (by omega)
    rw [up_s] at r2
    simp only [h.o, rk7, g1, h2, bS, vR]
    rw [L.b]
    simp only [f1, bS, cNn, R1.o, oa1, ob1, rk8, g1, h2, vR]
    rw [r1.b]
    simp only [f2, bS, cNn, R2.o, oa2, rk7, rk8, g0, vR]
    rw [L2.b]
    simp only [cmpW L2 r2, bS, vI, c00]
    exact ⟨M2, rfl, ⟨_, R2⟩, F1.trans F2, by rw [G2.1, G1.1]⟩
  · rw [if_neg (by rw [sge aN.1 bN.1]; exact hse), if_neg hse]
    have a1 := aN.1
    have b1 := bN.1
    by_cases hlt : a.1 < b.1
    · rw [if_neg (by rw [iZ_le (by omega) (by omega)]; omega), c00, if_pos hlt]
      exact ⟨M, rfl, ⟨vs, h⟩, FK.refl _ _, rfl⟩
    · rw [if_pos (by rw [iZ_le (by omega) (by omega)]; omega), c00, if_neg hlt]
      exact ⟨M, rfl, ⟨vs, h⟩, FK.refl _ _, rfl⟩
theorem cmp_z {U V : Nat} : cmpN U V = 0 ↔ U = V := by
  unfold cmpN
  by_cases h : U < V
  · rw [if_pos h]; exact ⟨fun q => absurd q (by decide), fun q => by omega⟩
  · rw [if_neg h]
    by_cases h2 : U = V
    · rw [if_pos h2]; exact ⟨fun _ => h2, fun _ => rfl⟩
    · rw [if_neg h2]; exact ⟨fun q => absurd q (by decide), fun q => absurd q h2⟩
theorem cmp_p {U V : Nat} : 0 < cmpN U V ↔ V < U := by
  unfold cmpN
  by_cases h : U < V
  · rw [if_pos h]; exact ⟨fun q => absurd q (by decide), fun q => by omega⟩
  · rw [if_neg h]
    by_cases h2 : U = V
    · rw [if_pos h2]; exact ⟨fun q => absurd q (by decide), fun q => by omega⟩
    · rw [if_neg h2]; exact ⟨fun _ => by omega, fun _ => by decide⟩
theorem sgm {s t u v : Int} (h1 : s = 0 ∨ s = 1 ∨ s = -1) (h2 : t = 0 ∨ t = 1 ∨ t = -1) (h3 : u = 0 ∨ u = 1 ∨ u = -1) (h4 : v = 0 ∨ v = 1 ∨ v = -1) : iZ s * iZ t = iZ u * iZ v ↔ s * t = u * v := by
  rw [iZ_mul, iZ_mul]
  refine iZ_eq ?_ ?_
  · rcases h1 with e | e | e <;> rcases h2 with k | k | k <;> subst e <;> subst k <;> decide
  · rcases h3 with e | e | e <;> rcases h4 with k | k | k <;> subst e <;> subst k <;> decide
/-- whether a is to b as c is to d -/
def qRat (a b c d : Qn) : Prop := a.1 * d.1 = c.1 * b.1 ∧ a.2.1 * d.2.1 * (c.2.2 * b.2.2) = c.2.1 * b.2.1 * (a.2.2 * d.2.2)
theorem ratio_s {M : me_M} {K pa pb pc pd : Nat} {vs : Nat → Nat} {a b c d : Qn} [Decidable (qRat a b c d)] (h : RK M K vs) (ha : Fx M K pa a) (hb : Fx M K pb b) (hc : Fx M K pc c) (hd : Fx M K pd d) :
    ∃ M' : me_M, f_X3_isSameRatio [.ref K, .ref pa, .ref pb, .ref pc, .ref pd] M = some (some (.int (if qRat a b c d then 1 else 0)), M') ∧ Ro M M' K := by
  have aN := ha.2.1
  have bN := hb.2.1
  have cN := hc.2.1
  have dN := hd.2.1
  obtain ⟨aa, ab, caa, cab, oa, Waa, Wab, kaa, kab⟩ := ha.ob
  obtain ⟨ba, bb, cba, cbb, ob', Wba, Wbb, kba, kbb⟩ := hb.ob
  obtain ⟨qa, qb, cqa, cqb, oc, Wqa, Wqb, kqa, kqb⟩ := hc.ob
  obtain ⟨da, db, cda, cdb, od, Wda, Wdb, kda, kdb⟩ := hd.ob
  rw [e_X3_isSameRatio]
  simp only [oa, ob', oc, od, bS, g0, vI]
  by_cases hsg : a.1 * d.1 = c.1 * b.1
  · rw [if_pos ((sgm aN.1 dN.1 cN.1 bN.1).mpr hsg)]
    have L0 := h.at 5 (w := K + 18) (by omega) (by omega)
    obtain ⟨M1, f1, V1, G1⟩ := prodW L0 Waa Wda (by omega) (by omega) (p527 ha.2.2.1.1) (p527 hd.2.2.1.1) (by omega)
    obtain ⟨R1, F1⟩ := h.opw 5 (by omega) (by omega) V1 G1
    have r1 := R1.at 6 (w := K + 20) (by omega) (by omega)
    obtain ⟨M2, f2, V2, G2⟩ := prodW r1 (Wqb.fk kqb h.dm F1) (Wbb.fk kbb h.dm F1) (by omega) (by omega) (p527 hc.2.2.1.2) (p527 hb.2.2.1.2) (by omega)
    obtain ⟨R2, F2⟩ := R1.opw 6 (by omega) (by omega) V2 G2
    have F12 := F1.trans F2
    have L2 := R2.at 5 (w := K + 18) (by omega) (by omega)
    rw [up_n _ _ (by omega), up_s] at L2
    have r2 := R2.at 6 (w := K + 20) (by omega) (by omega)
    rw [up_s] at r2
    have a2 := R2.at 7 (w := K + 22) (by omega) (by omega)
    obtain ⟨M3, f3, V3, G3⟩ := prodW a2 L2 r2 (by omega) (by omega) (p31m (m := 17) (n := 17) (p527 ha.2.2.1.1) (p527 hd.2.2.1.1)) (p31m (m := 17) (n := 17) (p527 hc.2.2.1.2) (p527 hb.2.2.1.2)) (by omega)
    obtain ⟨R3, F3⟩ := R2.opw 7 (by omega) (by omega) V3 G3
    have F13 := F12.trans F3
    have L3 := R3.at 5 (w := K + 18) (by omega) (by omega)
    obtain ⟨M4, f4, V4, G4⟩ := prodW L3 (Wqa.fk kqa h.dm F13) (Wba.fk kba h.dm F13) (by omega) (by omega) (p527 hc.2.2.1.1) (p527 hb.2.2.1.1) (by omega)
    obtain ⟨R4, F4⟩ := R3.opw 5 (by omega) (by omega) V4 G4
    have F14 := F13.trans F4
    have r4 := R4.at 6 (w := K + 20) (by omega) (by omega)
    obtain ⟨M5, f5, V5, G5⟩ := prodW r4 (Wab.fk kab h.dm F14) (Wdb.fk kdb h.dm F14) (by omega) (by omega) (p527 ha.2.2.1.2) (p527 hd.2.2.1.2) (by omega)
    obtain ⟨R5, F5⟩ := R4.opw 6 (by omega) (by omega) V5 G5
    have F15 := F14.trans F5
    have L5 := R5.at 5 (w := K + 18) (by omega) (by omega)
    rw [up_n _ _ (by omega), up_s] at L5
    have r5 := R5.at 6 (w := K + 20) (by omega) (by omega)
    rw [up_s] at r5
    have b5 := R5.at 8 (w := K + 24) (by omega) (by omega)
    obtain ⟨M6, f6, V6, G6⟩ := prodW b5 L5 r5 (by omega) (by omega) (p31m (m := 17) (n := 17) (p527 hc.2.2.1.1) (p527 hb.2.2.1.1)) (p31m (m := 17) (n := 17) (p527 ha.2.2.1.2) (p527 hd.2.2.1.2)) (by omega)
    obtain ⟨R6, F6⟩ := R5.opw 8 (by omega) (by omega) V6 G6
    have a6 := R6.at 7 (w := K + 22) (by omega) (by omega)
    rw [up_n _ _ (by omega), up_n _ _ (by omega), up_n _ _ (by omega), up_s] at a6
    have b6 := R6.at 8 (w := K + 24) (by omega) (by omega)
    rw [up_s] at b6
    have oc1 := ob_fk oc (Or.inr hc.1) h.dm F1
    have ob1 := ob_fk ob' (Or.inr hb.1) h.dm F1
    have oc3 := ob_fk oc (Or.inr hc.1) h.dm F13
    have ob3 := ob_fk ob' (Or.inr hb.1) h.dm F13
    have oa4 := ob_fk oa (Or.inr ha.1) h.dm F14
    have od4 := ob_fk od (Or.inr hd.1) h.dm F14
    simp only [h.o, rk7, g1, bS, vR]
    rw [L0.b]
    simp only [f1, bS, cNn, R1.o, oc1, ob1, rk8, h2, vR]
    rw [r1.b]
    simp only [f2, bS, cNn, R2.o, rk7, rk8, rk9, vR]
    rw [a2.b]
    simp only [f3, bS, cNn, R3.o, oc3, ob3, rk7, g1, vR]
    rw [L3.b]
    simp only [f4, bS, cNn]
    rw [e_X3_isSameRatio_85]
    simp only [R4.o, oa4, od4, bS, rk8, h2, vR]
    rw [r4.b]
    simp only [f5, bS, cNn, R5.o, rk10, rk7, rk8, vR]
    rw [b5.b]
    simp only [f6, bS, cNn, R6.o, rk9, rk10, vR]
    rw [a6.b]
    simp only [cmpW a6 b6, bS, vI]
    by_cases he : a.2.1 * d.2.1 * (c.2.2 * b.2.2) = c.2.1 * b.2.1 * (a.2.2 * d.2.2)
    · rw [if_pos (cmp_z.mpr he), if_pos (Or.inr trivial), c00, if_pos ⟨hsg, he⟩]
      exact ⟨M6, rfl, ⟨_, R6⟩, F15.trans F6, by rw [G6.1, G5.1, G4.1, G3.1, G2.1, G1.1]⟩
    · rw [if_neg (fun q => he (cmp_z.mp q)), if_pos (Or.inl trivial), c00, if_neg (fun q => he q.2)]
      exact ⟨M6, rfl, ⟨_, R6⟩, F15.trans F6, by rw [G6.1, G5.1, G4.1, G3.1, G2.1, G1.1]⟩
  · rw [if_neg (by rw [sgm aN.1 dN.1 cN.1 bN.1]; exact hsg), if_pos (Or.inl trivial), c00, if_neg (fun q => hsg q.1)]
    exact ⟨M, rfl, ⟨vs, h⟩, FK.refl _ _, rfl⟩
