/-- the count of multiples of 10 to the power -n -/
def qMany (a : Qn) (n e : Nat) : Nat := 10 ^ n * a.2.1 / a.2.2 + (if 10 ^ n * a.2.1 % a.2.2 ≠ 0 ∧ (e = 1 ↔ 0 < a.1) then 1 else 0)
theorem p10 {n : Nat} (hn : n ≤ 30) : 10 ^ n < 2 ^ (31 * 4) := Nat.lt_of_le_of_lt (Nat.pow_le_pow_right (by decide) hn) (by decide)
theorem mult_l {K pa n e : Nat} {a : Qn} (hn : n ≤ 30) (ha1 : K + 26 ≤ pa) :
    ∀ (m i : Nat) (M : me_M) (vs : Nat → Nat), i + m = n → RK M K vs → Fx M K pa a → vs 5 = 10 ^ i * a.2.1 →
      ∃ (M' : me_M) (ws : Nat → Nat), sm T_X3_multipleBeside (14, [(0, .ref K), (1, .ref pa), (2, .int (iZ n)), (3, .int (iZ e)), (4, .int (iZ i))], [], M, 0, 0) = sm T_X3_multipleBeside (14, [(0, .ref K), (1, .ref pa), (2, .int (iZ n)), (3, .int (iZ e)), (4, .int (iZ n))], [], M', 0, 0) ∧ RK M' K ws ∧ FK M M' K ∧ M'.1 = M.1 ∧ ws 5 = 10 ^ n * a.2.1 := by
  intro m
  induction m with
  | zero =>
    intro i M vs hi h ha h5
    rw [show i = n by omega] at h5 ⊢
    exact ⟨M, vs, rfl, h, FK.refl _ _, rfl, h5⟩
  | succ m ih =>
    intro i M vs hi h ha h5
    have L := h.at 5 (w := K + 18) (by omega) (by omega)
    rw [h5] at L
    have hb : 10 ^ i * a.2.1 < 2 ^ (31 * 21) := p31m (m := 4) (n := 17) (p10 (by omega)) (p527 ha.2.2.1.1)
    obtain ⟨M1, f1, V1, G1⟩ := growW (F := 10) L hb (by omega) (by omega)
    obtain ⟨R1, F1⟩ := h.opw 5 (by omega) (by omega) V1 G1
    obtain ⟨M', ws, k1, k2, k3, k4, k5⟩ := ih (i + 1) M1 _ (by omega) R1 (ha.fk h.dm F1) (by rw [up_s, Nat.pow_succ, Nat.mul_comm (10 ^ i) 10, Nat.mul_assoc])
    refine ⟨M', ws, ?_, k2, F1.trans k3, by rw [k4, G1.1], k5⟩
    rw [← k1, e_X3_multipleBeside_14, if_neg (by rw [iZ_le (by omega) (by omega)]; omega), h.o]
    simp only [bS, rk7, vR]
    rw [L.b]
    have f1' : f_X5_grow [.ref (K + 18), .int 10] M = some (none, M1) := f1
    simp only [f1', bS, cNn, z_p1]
theorem mult_s {M : me_M} {K pa n e : Nat} {vs : Nat → Nat} {a : Qn} (h : RK M K vs) (ha : Fx M K pa a) (hn : n ≤ 30) (he : e ≤ 1) :
    ∃ (M' : me_M) (ws : Nat → Nat), f_X3_multipleBeside [.ref K, .ref pa, .int (iZ n), .int (iZ e)] M = some (some (.ref (K + 22)), M') ∧ RK M' K ws ∧ FK M M' K ∧ M'.1 = M.1 ∧ ws 7 = qMany a n e := by
  have aN := ha.2.1
  have a1 := aN.1
  have hda := aN.2.2.1
  obtain ⟨aa, ab, caa, cab, oa, Waa, Wab, kaa, kab⟩ := ha.ob
  have sna := p527 ha.2.2.1.1
  have L := h.at 5 (w := K + 18) (by omega) (by omega)
  obtain ⟨M1, f1, V1, G1⟩ := copyW (m := 17) L Waa sna (by omega)
  obtain ⟨R1, F1⟩ := h.opw 5 (by omega) (by omega) V1 G1
  obtain ⟨M2, w2, f2, R2, F2, l2, e5⟩ := mult_l (e := e) hn ha.1 n 0 M1 _ (by omega) R1 (ha.fk h.dm F1) (by rw [up_s, Nat.pow_zero, Nat.one_mul])
  have F12 := F1.trans F2
  have hb : 10 ^ n * a.2.1 < 2 ^ (31 * 21) := p31m (m := 4) (n := 17) (p10 (by omega)) sna
  have L2 := R2.at 5 (w := K + 18) (by omega) (by omega)
  have oa2 := ob_fk oa (Or.inr ha.1) h.dm F12
  obtain ⟨M3, f3, R3, F3⟩ := R2.divw 5 7 (w1 := K + 18) (w2 := K + 22) (by omega) (by omega) (by omega) (by omega) (by omega) (Wab.fk kab h.dm F12) (by omega) (by omega) (by omega) hda (by rw [e5]; exact p31 hb (by omega))
  have l3 : M3.1 = M2.1 := by
    obtain ⟨M3', q1, _, _, q4, _⟩ := divide_s (m := 70) L2 (Wab.fk kab h.dm F12) (R2.at 7 (w := K + 22) (by omega) (by omega)) (by omega) (by omega) (by omega) hda (by rw [e5]; exact p31 hb (by omega)) (by omega) (by omega)
    rw [f3] at q1
    cases q1
    exact q4
  rw [e5] at R3
  have F13 := F12.trans F3
  have L3 := R3.at 5 (w := K + 18) (by omega) (by omega)
  rw [up_n _ _ (by omega), up_s] at L3
  have A3 := R3.at 7 (w := K + 22) (by omega) (by omega)
  rw [up_s] at A3
  obtain ⟨t, o1, o2, o3, _⟩ := L3.obj
  have oa3 := ob_fk oa (Or.inr ha.1) h.dm F13
  have l13 : M3.1 = M.1 := by rw [l3, l2, G1.1]
  have hbeg : f_X3_multipleBeside [.ref K, .ref pa, .int (iZ n), .int (iZ e)] M = sm T_X3_multipleBeside (14, [(0, .ref K), (1, .ref pa), (2, .int (iZ n)), (3, .int (iZ e)), (4, .int (iZ n))], [], M2, 0, 0) := by
    rw [e_X3_multipleBeside]
    simp only [h.o, oa, bS, rk7, g1, vR]
    rw [L.b]
    simp only [f1, bS, cNn]
    exact f2
  rw [hbeg, e_X3_multipleBeside_14, if_pos (by rw [iZ_le (by omega) (by omega)]; omega)]
  simp only [R2.o, oa2, bS, rk7, rk9, h2, vR]
  rw [L2.b]
  simp only [f3, bS, cNn, R3.o, rk7, rk9, vR, o1, g1, vI, vN]
  unfold qMany
  generalize 10 ^ n * a.2.1 = V at *
  by_cases hz : V % a.2.2 = 0
  · rw [if_pos (by rw [o3.mpr hz]; decide), c00, if_neg (fun w => w.1 hz)]
    exact ⟨M3, _, rfl, R3, F13, l13, by rw [up_s]; rfl⟩
  · have ht : t ≠ 0 := fun w => hz (o3.mp w)
    rw [if_neg (by rw [z_0, iZ_le (by omega) (by omega)]; omega)]
    have fin : ∀ (s0 s1 : Int32) (P : Prop) [Decidable P], (s1 = s0 ↔ P) → ∃ (M' : me_M) (ws : Nat → Nat), sm T_X3_multipleBeside (82, [(0, .ref K)], [.int s0, .int s1], M3, 0, 0) = some (some (.ref (K + 22)), M') ∧ RK M' K ws ∧ FK M M' K ∧ M'.1 = M.1 ∧ ws 7 = V / a.2.2 + (if P then 1 else 0) := by
      intro s0 s1 P _ hP
      rw [e_X3_multipleBeside_82]
      by_cases hp : P
      · rw [if_pos (hP.mpr hp), if_pos hp, R3.o]
        simp only [bS, rk9, vR]
        rw [A3.b]
        obtain ⟨M4, f4, V4, G4⟩ := addOne_s (m := 21) A3 (Nat.lt_of_le_of_lt (Nat.div_le_self _ _) hb) (by omega)
        obtain ⟨R4, F4⟩ := R3.opw 7 (by omega) (by omega) V4 G4
        simp only [f4, bS, cNn, R4.o, rk9, vN, c00]
        exact ⟨M4, _, rfl, R4, F13.trans F4, by rw [G4.1, l13], up_s _ _ _⟩
      · rw [if_neg (fun w => hp (hP.mp w)), if_neg hp, R3.o]
        simp only [bS, rk9, vN, c00]
        exact ⟨M3, _, rfl, R3, F13, l13, up_s _ _ _⟩
    have h70 : ∀ s0 : Int32, ((s0 = 1 ∧ e = 1) ∨ (s0 = 0 ∧ e = 0)) → ∃ (M' : me_M) (ws : Nat → Nat), sm T_X3_multipleBeside (70, [(0, .ref K), (1, .ref pa)], [.int s0], M3, 0, 0) = some (some (.ref (K + 22)), M') ∧ RK M' K ws ∧ FK M M' K ∧ M'.1 = M.1 ∧ ws 7 = V / a.2.2 + (if V % a.2.2 ≠ 0 ∧ (e = 1 ↔ 0 < a.1) then 1 else 0) := by
      intro s0 hs0
      rw [e_X3_multipleBeside_70, oa3]
      simp only [bS, g0, vI]
      by_cases hs : 0 < a.1
      · rw [if_neg (by rw [z_0, iZ_le (by omega) (by omega)]; omega)]
        refine fin 1 s0 _ ?_
        rcases hs0 with ⟨k1, k2⟩ | ⟨k1, k2⟩
        · exact ⟨fun _ => ⟨hz, by omega⟩, fun _ => k1⟩
        · exact ⟨fun w => by rw [k1] at w; exact absurd w (by decide), fun w => by omega⟩
      · rw [if_pos (by rw [z_0, iZ_le (by omega) (by omega)]; omega)]
        refine fin 0 s0 _ ?_
        rcases hs0 with ⟨k1, k2⟩ | ⟨k1, k2⟩
        · exact ⟨fun w => by rw [k1] at w; exact absurd w (by decide), fun w => by omega⟩
        · exact ⟨fun _ => ⟨hz, by omega⟩, fun _ => k1⟩
    by_cases he1 : e = 1
    · rw [if_pos (by rw [he1]; rfl)]
      exact h70 1 (Or.inl ⟨rfl, he1⟩)
    · rw [if_neg (by rw [z_1, iZ_eq (by omega) (by omega)]; omega)]
      exact h70 0 (Or.inr ⟨rfl, by omega⟩)
/-! Fractions: what they tell -/
/-- whether it is SMALL -/
def qSmall (a : Qn) : Prop := (a.2.1 < 9223372036854775808 ∨ (a.1 < 0 ∧ a.2.1 = 9223372036854775808)) ∧ a.2.2 < 9223372036854775808
theorem fitW {M : me_M} {w c v : Nat} (h : Wh M w c v) (hv : v < 2 ^ 512) (mi : Int32) : f_X5_fitsLong [.ref w, .int mi] M = some (some (.int (if v < 9223372036854775808 ∨ (mi ≠ 0 ∧ v = 9223372036854775808) then 1 else 0)), M) := by
  obtain ⟨s, f, h⟩ := h
  exact fitsLong_s h (by have := bl_le_iff.mpr hv; omega) mi
theorem small_s {M : me_M} {K pa : Nat} {a : Qn} [Decidable (qSmall a)] (ha : Fx M K pa a) : f_X2_isSmall [.ref pa] M = some (some (.int (if qSmall a then 1 else 0)), M) := by
  have a1 := ha.2.1.1
  obtain ⟨aa, ab, caa, cab, oa, Waa, Wab, kaa, kab⟩ := ha.ob
  have h16 : ∀ s0 : Int32, (s0 ≠ 0 ↔ a.1 < 0) → sm T_X2_isSmall (16, [(0, .ref pa)], [.int s0, .ref aa], M, 0, 0) = some (some (.int (if qSmall a then 1 else 0)), M) := by
    intro s0 hs
    rw [e_X2_isSmall_16]
    simp only [vR, bS]
    rw [Waa.b, fitW Waa ha.2.2.1.1]
    simp only [bS, vI]
    by_cases p : a.2.1 < 9223372036854775808 ∨ (s0 ≠ 0 ∧ a.2.1 = 9223372036854775808)
    · rw [if_neg (by rw [if_pos p]; decide), oa]
      simp only [bS, h2, vR]
      rw [Wab.b, fitW Wab ha.2.2.1.2]
      simp only [bS, vI]
      by_cases q : a.2.2 < 9223372036854775808
      · rw [if_neg (by rw [if_pos (Or.inl q)]; decide), if_pos (Or.inr trivial), c00, if_pos ⟨by rw [← hs]; exact p, q⟩]
      · rw [if_pos (by rw [if_neg (fun w => w.elim q (fun k => k.1 rfl))]), if_pos (Or.inl trivial), c00, if_neg (fun w => q w.2)]
    · rw [if_pos (by rw [if_neg p]), if_pos (Or.inl trivial), c00, if_neg (fun w => p (by rw [hs]; exact w.1))]
  rw [e_X2_isSmall, oa]
  simp only [bS, g0, g1, vI]
  by_cases hs : 0 ≤ a.1
  · rw [if_pos (by rw [z_0, iZ_le (by omega) (by omega)]; omega)]
    exact h16 0 ⟨fun w => absurd rfl w, fun w => by omega⟩
  · rw [if_neg (by rw [z_0, iZ_le (by omega) (by omega)]; omega)]
    exact h16 1 ⟨fun _ => by omega, fun _ => by decide⟩
def qLen (a : Qn) : Nat := max (bl a.2.1) (bl a.2.2)
theorem glen_s {M : me_M} {K pa : Nat} {a : Qn} (ha : Fx M K pa a) : f_X2_greaterLength [.ref pa] M = some (some (.int (iZ (qLen a))), M) := by
  obtain ⟨aa, ab, caa, cab, oa, Waa, Wab, kaa, kab⟩ := ha.ob
  have b1 := bl_le_iff.mpr ha.2.2.1.1
  have b2 := bl_le_iff.mpr ha.2.2.1.2
  rw [e_X2_greaterLength, oa]
  simp only [bS, g1, h2, vR]
  rw [Waa.b, lenW Waa]
  simp only [bS, vI, oa, h2, vR]
  rw [Wab.b, lenW Wab]
  simp only [bS, vI, c00]
  unfold qLen
  by_cases h : bl a.2.1 < bl a.2.2
  · rw [if_pos ((iZ_lt (by omega) (by omega)).mpr (by omega)), Nat.max_eq_right (by omega)]
  · rw [if_neg (by rw [iZ_lt (by omega) (by omega)]; omega), Nat.max_eq_left (by omega)]
theorem same_s {M : me_M} {K pa pb : Nat} {a b : Qn} [Decidable (a = b)] (ha : Fx M K pa a) (hb : Fx M K pb b) : f_X2_isSame [.ref pa, .ref pb] M = some (some (.int (if a = b then 1 else 0)), M) := by
  obtain ⟨aa, ab, caa, cab, oa, Waa, Wab, kaa, kab⟩ := ha.ob
  obtain ⟨ba, bb, cba, cbb, ob', Wba, Wbb, kba, kbb⟩ := hb.ob
  rw [e_X2_isSame, oa, ob']
  simp only [bS, g0, g1, h2, vI, vR]
  by_cases e1 : a.1 = b.1
  · rw [if_pos ((sge ha.2.1.1 hb.2.1.1).mpr e1), Waa.b, cmpW Waa Wba]
    simp only [bS, vI, oa, ob', h2, vR]
    by_cases e2 : a.2.1 = b.2.1
    · rw [if_pos (cmp_z.mpr e2), Wab.b, cmpW Wab Wbb]
      simp only [bS, vI]
      by_cases e3 : a.2.2 = b.2.2
      · rw [if_pos (cmp_z.mpr e3), if_pos (Or.inr trivial), c00, if_pos (Prod.ext e1 (Prod.ext e2 e3))]
      · rw [if_neg (fun w => e3 (cmp_z.mp w)), if_pos (Or.inl trivial), c00, if_neg (fun w => e3 (by rw [w]))]
    · rw [if_neg (fun w => e2 (cmp_z.mp w)), if_pos (Or.inl trivial), c00, if_neg (fun w => e2 (by rw [w]))]
  · rw [if_neg (by rw [sge ha.2.1.1 hb.2.1.1]; exact e1), if_pos (Or.inl trivial), c00, if_neg (fun w => e1 (by rw [w]))]
theorem side_s {M : me_M} {K pa : Nat} {a : Qn} {x : Int32} (ha : Fx M K pa a) : ∃ (w c : Nat), f_X2_side [.ref pa, .int x] M = some (some (.ref w), M) ∧ Wh M w c (if x = 0 then a.2.1 else a.2.2) := by
  obtain ⟨aa, ab, caa, cab, oa, Waa, Wab, kaa, kab⟩ := ha.ob
  rw [e_X2_side, oa]
  by_cases hx : x = 0
  · rw [if_pos hx, if_pos hx]
    exact ⟨aa, caa, rfl, Waa⟩
  · rw [if_neg hx, if_neg hx]
    exact ⟨ab, cab, rfl, Wab⟩
