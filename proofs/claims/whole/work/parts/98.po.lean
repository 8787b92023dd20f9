/-! .. the Decimal, PlanFractions itself, the reference -/
def s_0 : Sx := ((0, fun _ => (0, 0, 1)), (0, fun _ => 0, fun _ _ => (0, 0, 1)), 0, (0, fun _ => 0))
theorem c_10 : (10 : Int32).toNatClampNeg = 10 := by decide
theorem c_20 : (20 : Int32).toNatClampNeg = 20 := by decide
theorem c_240 : (240 : Int32).toNatClampNeg = 240 := by decide
theorem c_216 : (216 : Int32).toNatClampNeg = 216 := by decide
theorem mr_at {M : me_M} {kd q n : Nat} {f : Nat → Option Nat} (h : M.2 q = some (.inl (kd, n, .inr (.inr (.inr (.inr f)))))) : me_ref M kd q = some (n, f) := by simp [me_ref, h]
theorem deInit {M : me_M} {D : Nat} (hD : Dm M) (ho : me_obj M 0 D = some [.null, .int 0, .null]) : ∃ M' : me_M, f_X0_init [.ref D] M = some (none, M') ∧ me_obj M' 0 D = some [.ref M.1, .int 0, .ref (M.1 + 1)] ∧ me_int M' 2 M.1 = some (216, fun _ => 0) ∧ me_int M' 2 (M.1 + 1) = some (216, fun _ => 0) ∧ M'.1 = M.1 + 2 ∧ (∀ p, p < M.1 → p ≠ D → M'.2 p = M.2 p) ∧ Dm M' := by
  have hl := mo_lt hD ho
  obtain ⟨A, a1, a2, a3, a4, a5, a6, a7⟩ := anf hD ho (.inl (2, 216, .inl (fun _ => 0))) 0
  obtain ⟨B, b1, b2, b3, b4, b5, b6, b7⟩ := anf a7 a3 (.inl (2, 216, .inl (fun _ => 0))) 2
  refine ⟨B, ?_, ?_, ?_, ?_, by omega, fun p h1 h2 => ?_, b7⟩
  · rw [e_X0_init]
    simp only [c_216]
    rw [if_neg (by decide), ble2 (by omega) (by omega), cond_true, a1, bS, if_pos (by simp), if_neg (by decide), ble2 (by omega) (by omega), cond_true, ← a2, b1, bS, if_pos (by simp), if_pos (by omega), ← b2]
  · rw [a4] at b3
    exact b3
  · exact mi_at ((b6 _ (by omega) (by omega)).trans a5)
  · rw [← a4]
    exact mi_at b5
  · rw [b6 p (by omega) h2, a6 p h1 h2]
theorem pfInit {M : me_M} {A : Nat} (hD : Dm M) (hA : me_obj M 6 A = some [.null, .null, .null, .null, .null, .int 0, .int 0, .int 0, .int 0, .int 0]) (hl : M.1 = A + 1) : ∃ M' : me_M, f_X6_init [.ref A] M = some (none, M') ∧ PF M' A s_0 ∧ M'.1 = A + 38 ∧ ∀ p, p < A → M'.2 p = M.2 p := by
  have dN : Dm (me_new M (.inr (3, [.null, .null, .null, .null, .null, .null, .null, .null, .null, .null, .null, .null]))) := hD.new
  obtain ⟨R, f0, r0, n0, k0⟩ := rkInit (K := M.1) dN (nm5 M 3 _) (new_1 _ _)
  have dR := r0.dm
  have oR : me_obj R 6 A = some [.null, .null, .null, .null, .null, .int 0, .int 0, .int 0, .int 0, .int 0] := (mo_of (k0 A (by omega))).trans ((mo_of (new_ne (by omega))).trans hA)
  obtain ⟨S, eS⟩ : ∃ S, S = me_set R A (.inr (6, [.null, .null, .null, .null, .null, .int 0, .int 0, .int 0, .int 0, .int 0].set 0 (.ref M.1))) := ⟨_, rfl⟩
  have oS : me_obj S 6 A = some [.ref (A + 1), .null, .null, .null, .null, .int 0, .int 0, .int 0, .int 0, .int 0] := by rw [eS, hl]; exact mo_set _ _ _ _
  have S1 : S.1 = A + 32 := by rw [eS, set_1]; omega
  have dS : Dm S := by rw [eS]; exact dR.set (by omega)
  have Sk : ∀ p, p ≠ A → S.2 p = R.2 p := fun p hp => by rw [eS, set_ne hp]
  have dT : Dm (me_new S (.inr (0, [.null, .int 0, .null]))) := dS.new
  obtain ⟨T, t1, t2', t3, t4, t5, t6, t7⟩ := deInit dT (nm5 S 0 _)
  rw [new_1, S1] at t2' t3 t4 t5 t6
  have oT : me_obj T 6 A = some [.ref (A + 1), .null, .null, .null, .null, .int 0, .int 0, .int 0, .int 0, .int 0] := (mo_of (t6 A (by omega) (by omega))).trans ((mo_of (new_ne (by omega))).trans oS)
  obtain ⟨U, eU⟩ : ∃ U, U = me_set T A (.inr (6, [.ref (A + 1), .null, .null, .null, .null, .int 0, .int 0, .int 0, .int 0, .int 0].set 1 (.ref S.1))) := ⟨_, rfl⟩
  have oU : me_obj U 6 A = some [.ref (A + 1), .ref (A + 32), .null, .null, .null, .int 0, .int 0, .int 0, .int 0, .int 0] := by rw [eU, S1]; exact mo_set _ _ _ _
  have U1 : U.1 = A + 35 := by rw [eU, set_1]; omega
  have dU : Dm U := by rw [eU]; exact t7.set (by omega)
  have Uk : ∀ p, p < A + 32 → p ≠ A → U.2 p = R.2 p := fun p h1 h2 => by rw [eU, set_ne h2, t6 p (by omega) (by omega), new_ne (by omega), Sk p h2]
  have Uj : ∀ p, p ≠ A → U.2 p = T.2 p := fun p h2 => by rw [eU, set_ne h2]
  obtain ⟨V, v1, v2, v3, v4, v5, v6, v7⟩ := anf dU oU (.inl (3, 240, .inr (.inr (.inr (.inr (fun _ => none)))))) 2
  obtain ⟨X, x1, x2, x3, x4, x5, x6, x7⟩ := anf v7 v3 (.inl (4, 20, .inr (.inr (.inr (.inr (fun _ => none)))))) 3
  obtain ⟨Y, y1, y2, y3, y4, y5, y6, y7⟩ := anf x7 x3 (.inl (3, 10, .inr (.inr (.inr (.inr (fun _ => none)))))) 4
  have V1 : V.1 = A + 36 := by omega
  have X1 : X.1 = A + 37 := by omega
  have Yk : ∀ p, p < A + 35 → p ≠ A → Y.2 p = U.2 p := fun p h1 h2 => by rw [y6 p (by omega) h2, x6 p (by omega) h2, v6 p (by omega) h2]
  have Yr : ∀ p, p < A + 32 → p ≠ A → Y.2 p = R.2 p := fun p h1 h2 => by rw [Yk p (by omega) h2, Uk p h1 h2]
  refine ⟨Y, ?_, ⟨fun _ => 0, fun _ => none, fun _ => none, fun _ => none, fun _ => 0, fun _ => 0, ⟨y7, ?_, ?_, ?_, ?_, ?_, ?_⟩, ?_, ?_, ?_, ?_, ?_, ?_, ?_, Nat.zero_le _, Nat.zero_le _, fun i hi => absurd hi (Nat.not_lt_zero _), ⟨fun _ => 0, fun _ => 0, fun i hi => absurd hi (Nat.not_lt_zero _), fun i j hi => absurd hi (Nat.not_lt_zero _)⟩, Nat.zero_le _, fun j hj => absurd hj (Nat.not_lt_zero _)⟩, by omega, fun p hp => ?_⟩
  · rw [e_X6_init, nm5, bS, f0, bS]
    simp only [cNn, oR, bS]
    rw [if_pos (by simp), ← eS, nm5, bS, t1, bS]
    simp only [cNn, oT, bS, c_240, c_20, c_10]
    rw [if_pos (by simp), if_neg (by decide), ble2 (by omega) (by omega), cond_true, ← eU, v1, bS, if_pos (by simp), if_neg (by decide), ble2 (by omega) (by omega), cond_true, ← v2, x1, bS, if_pos (by simp), if_neg (by decide), ble2 (by omega) (by omega), cond_true, ← x2, y1, bS, if_pos (by simp), if_pos (by omega), ← y2]
  · have := r0.o
    rw [hl] at this
    exact (mo_of (Yr _ (by omega) (by omega))).trans this
  · have := r0.eu
    rw [hl] at this
    exact this.kp (fun p hp => Yr p (by omega) (by omega))
  · intro i hi
    have := r0.w hi
    rw [hl] at this
    exact this.kp (Yr _ (by omega) (by omega)) (Yr _ (by omega) (by omega))
  · have := r0.one
    rw [hl] at this
    exact this.kp (Yr _ (by omega) (by omega)) (Yr _ (by omega) (by omega))
  · have := r0.zo
    rw [hl] at this
    exact (mo_of (Yr _ (by omega) (by omega))).trans this
  · have := r0.z0
    rw [hl] at this
    exact this.kp (Yr _ (by omega) (by omega)) (Yr _ (by omega) (by omega))
  · rw [X1, V1, U1] at y3
    exact y3
  · exact (mo_of ((Yk _ (by omega) (by omega)).trans (Uj _ (by omega)))).trans t2'
  · exact (mi_of ((Yk _ (by omega) (by omega)).trans (Uj _ (by omega)))).trans t3
  · exact (mi_of ((Yk _ (by omega) (by omega)).trans (Uj _ (by omega)))).trans t4
  · refine mr_at ?_
    rw [y6 _ (by omega) (by omega), x6 _ (by omega) (by omega), ← U1]
    exact v5
  · refine mr_at ?_
    rw [y6 _ (by omega) (by omega), ← V1]
    exact x5
  · refine mr_at ?_
    rw [← X1]
    exact y5
  · rw [Yr p (by omega) (by omega), k0 p (by omega), new_ne (by omega)]
theorem c_3040 : (3040 : Int32).toNatClampNeg = 3040 := by decide
theorem c_19 : (19 : Int32).toNatClampNeg = 19 := by decide
theorem c_4 : (4 : Int32).toNatClampNeg = 4 := by decide
theorem c_450 : (450 : Int32).toNatClampNeg = 450 := by decide
theorem c_14400 : (14400 : Int32).toNatClampNeg = 14400 := by decide
theorem c_400 : (400 : Int32).toNatClampNeg = 400 := by decide
/-- ints, all 0 -/
abbrev zr (n : Nat) : me_E := .inl (0, n, .inl (fun _ => 0))
def MI (M0 M : me_M) (B : Nat) (fs : List Value) (i : Nat) (L : List Nat) : Prop := Dm M ∧ M.1 = B + 1 + i ∧ me_obj M 7 B = some fs ∧ (∀ j n, L[j]? = some n → M.2 (B + 1 + j) = some (zr n)) ∧ L.length = i ∧ ∀ p, p < B → M.2 p = M0.2 p
theorem MI.step {M0 M : me_M} {B i : Nat} {fs : List Value} {L : List Nat} (h : MI M0 M B fs i L) (n j : Nat) : ∃ M2 : me_M, me_obj (me_new M (zr n)) 7 B = some fs ∧ M2 = me_set (me_new M (zr n)) B (.inr (7, fs.set j (.ref M.1))) ∧ MI M0 M2 B (fs.set j (.ref (B + 1 + i))) (i + 1) (L ++ [n]) := by
  obtain ⟨hD, h1, ho, ha, hL, hk⟩ := h
  obtain ⟨M2, a1, a2, a3, a4, a5, a6, a7⟩ := anf hD ho (zr n) j
  refine ⟨M2, a1, a2, a7, by omega, by rw [← h1]; exact a3, fun k m hm => ?_, by simp [hL], fun p hp => (a6 p (by omega) (by omega)).trans (hk p hp)⟩
  by_cases hkl : k < L.length
  · rw [List.getElem?_append_left hkl] at hm
    exact (a6 _ (by omega) (by omega)).trans (ha k m hm)
  · rw [List.getElem?_append_right (by omega)] at hm
    by_cases hz : k - L.length = 0
    · rw [hz] at hm
      cases hm
      rw [show B + 1 + k = M.1 by omega]
      exact a5
    · rw [List.getElem?_eq_none (by simp; omega)] at hm
      cases hm
theorem mfInit {M : me_M} {B : Nat} (hD : Dm M) (hB : me_obj M 7 B = some [.int 0, .null, .null, .null, .null, .null, .null, .null, .null, .int 0, .int 0, .null, .int 0, .null, .int 0, .null]) (hl : M.1 = B + 1) : ∃ M' : me_M, f_X7_init [.ref B] M = some (none, M') ∧ MF M' B 0 s_0 ∧ M'.1 = B + 12 ∧ (∀ p, p < B → M'.2 p = M.2 p) ∧ Dm M' := by
  have r0 : MI M M B [.int 0, .null, .null, .null, .null, .null, .null, .null, .null, .int 0, .int 0, .null, .int 0, .null, .int 0, .null] 0 [] := ⟨hD, hl, hB, fun j n h => by simp at h, rfl, fun p _ => rfl⟩
  obtain ⟨A1, a1, a2, r1⟩ := r0.step 3040 1
  obtain ⟨A2, b1, b2, r2⟩ := r1.step 19 2
  obtain ⟨A3, c1, c2, r3⟩ := r2.step 4 3
  obtain ⟨A4, d1, d2, r4⟩ := r3.step 450 4
  obtain ⟨A5, e1, e2, r5⟩ := r4.step 14400 5
  obtain ⟨A6, f1, f2, r6⟩ := r5.step 450 6
  obtain ⟨A7, g1', g2', r7⟩ := r6.step 14400 7
  obtain ⟨A8, h1, h2', r8⟩ := r7.step 450 8
  obtain ⟨A9, i1, i2, r9⟩ := r8.step 20 11
  obtain ⟨AA, j1, j2, rA⟩ := r9.step 400 13
  obtain ⟨AB, k1, k2, rB⟩ := rA.step 400 15
  have rB' : MI M AB B [.int 0, .ref (B + 1), .ref (B + 2), .ref (B + 3), .ref (B + 4), .ref (B + 5), .ref (B + 6), .ref (B + 7), .ref (B + 8), .int 0, .int 0, .ref (B + 9), .int 0, .ref (B + 10), .int 0, .ref (B + 11)] 11 [3040, 19, 4, 450, 14400, 450, 14400, 450, 20, 400, 400] := rB
  obtain ⟨q1, q2, q3, q4, q5, q6⟩ := rB'
  have m1 : me_int AB 0 (B + 1) = some (3040, fun _ => 0) := mi_at (q4 0 _ rfl)
  have m2 : me_int AB 0 (B + 2) = some (19, fun _ => 0) := mi_at (q4 1 _ rfl)
  have m3 : me_int AB 0 (B + 3) = some (4, fun _ => 0) := mi_at (q4 2 _ rfl)
  have m4 : me_int AB 0 (B + 4) = some (450, fun _ => 0) := mi_at (q4 3 _ rfl)
  have m5 : me_int AB 0 (B + 5) = some (14400, fun _ => 0) := mi_at (q4 4 _ rfl)
  have m6 : me_int AB 0 (B + 6) = some (450, fun _ => 0) := mi_at (q4 5 _ rfl)
  have m7 : me_int AB 0 (B + 7) = some (14400, fun _ => 0) := mi_at (q4 6 _ rfl)
  have m8 : me_int AB 0 (B + 8) = some (450, fun _ => 0) := mi_at (q4 7 _ rfl)
  have m9 : me_int AB 0 (B + 9) = some (20, fun _ => 0) := mi_at (q4 8 _ rfl)
  have m10 : me_int AB 0 (B + 10) = some (400, fun _ => 0) := mi_at (q4 9 _ rfl)
  have m11 : me_int AB 0 (B + 11) = some (400, fun _ => 0) := mi_at (q4 10 _ rfl)
  have hRG : RG AB B (fun _ => 0) := ⟨fun _ => 0, fun _ => 0, ⟨⟨_, _, q3⟩, m1, m2⟩, fun x _ => ⟨0, rfl, by omega, ⟨show (0 : Nat) < 2 ^ (16 * 0) by decide, Or.inl rfl⟩, fun j hj => absurd hj (by omega)⟩⟩
  obtain ⟨P, pf, pR, pF⟩ := put_g (x := 18) (U := 1) hRG (by omega) (by omega)
  have pf' : f_X7_put [.ref B, .int (18 : Int32), .long (1 : Int64)] AB = some (none, P) := pf
  have dP : Dm P := by
    intro q x hq
    rw [pF.1]
    by_cases h1 : q = B + 1
    · omega
    · by_cases h2 : q = B + 2
      · omega
      · rw [pF.2 q h1 h2] at hq
        exact q1 q x hq
  refine ⟨P, ?_, ⟨_, fun _ => 0, (fun _ => 0, fun _ => 0, fun _ => 0, fun _ => 0, fun _ => 0), fun _ => 0, fun _ => 0, ⟨pR, ⟨fun _ => 0, (mi_of (pF.2 _ (by omega) (by omega))).trans m3, fun _ _ => rfl⟩⟩, (mo_of (pF.2 _ (by omega) (by omega))).trans q3, ⟨(mi_of (pF.2 _ (by omega) (by omega))).trans m4, (mi_of (pF.2 _ (by omega) (by omega))).trans m5, (mi_of (pF.2 _ (by omega) (by omega))).trans m6, (mi_of (pF.2 _ (by omega) (by omega))).trans m7, (mi_of (pF.2 _ (by omega) (by omega))).trans m8⟩, (mi_of (pF.2 _ (by omega) (by omega))).trans m9, (mi_of (pF.2 _ (by omega) (by omega))).trans m10, ⟨fun _ => 0, (mi_of (pF.2 _ (by omega) (by omega))).trans m11⟩, up_s _ _ _, Nat.zero_le _, Nat.zero_le _, fun i hi => absurd hi (Nat.not_lt_zero _), fun r hr => absurd hr (Nat.not_lt_zero _), Nat.zero_le _, fun j hj => absurd hj (Nat.not_lt_zero _)⟩, by rw [pF.1]; omega, fun p hp => (pF.2 p (by omega) (by omega)).trans (q6 p hp), dP⟩
  rw [e_X7_init]
  simp only [c_3040, c_19]
  rw [if_neg (by decide), ble2 (by omega) (by omega), cond_true, a1, bS, if_pos (by simp), if_neg (by decide), ble2 (by omega) (by omega), cond_true, ← a2, b1, bS, if_pos (by simp), ← b2, e_X7_init_21]
  simp only [c_4, c_450]
  rw [if_neg (by decide), ble2 (by omega) (by omega), cond_true, c1, bS, if_pos (by simp), if_neg (by decide), ble2 (by omega) (by omega), cond_true, ← c2, d1, bS, if_pos (by simp), ← d2, e_X7_init_37]
  simp only [c_14400, c_450]
  rw [if_neg (by decide), ble2 (by omega) (by omega), cond_true, e1, bS, if_pos (by simp), if_neg (by decide), ble2 (by omega) (by omega), cond_true, ← e2, f1, bS, if_pos (by simp), ← f2, e_X7_init_55]
  simp only [c_14400, c_450]
  rw [if_neg (by decide), ble2 (by omega) (by omega), cond_true, g1', bS, if_pos (by simp), if_neg (by decide), ble2 (by omega) (by omega), cond_true, ← g2', h1, bS, if_pos (by simp), ← h2', e_X7_init_73]
  simp only [c_20, c_400]
  rw [if_neg (by decide), ble2 (by omega) (by omega), cond_true, i1, bS, if_pos (by simp), if_neg (by decide), ble2 (by omega) (by omega), cond_true, ← i2, j1, bS, if_pos (by simp), ← j2, e_X7_init_90]
  simp only [c_400]
  rw [if_neg (by decide), ble2 (by omega) (by omega), cond_true, k1, bS, if_pos (by simp), ← k2, q3, bS, pf', bS, cond_true]
  simp only [cNn]
  rw [if_pos (by omega)]
