/-! the class's acts that may throw -/
theorem value_s {M : me_M} {A : Nat} {s : Sx} {T D : Int} (h : PF M A s) (t1 : -9223372036854775808 ≤ T) (t2 : T < 9223372036854775808) (b1 : -9223372036854775808 ≤ D) (b2 : D < 9223372036854775808) (hD : D ≠ 0) : Ac M A (f_X6_value [.ref A, .long (lZ T), .long (lZ D)] M) (tVa s T D) := by
  have hP := h
  obtain ⟨vs, vf, rf, ff, lf, df, h⟩ := h
  have b := h.n
  rw [e_X6_value, l0z, if_neg (fun k => hD ((lZ_eq ⟨b1, b2⟩ (by omega)).mp (lgc0.mp k)))]
  simp only [h.o, bS, isFull_s h.o h.n, vI, pf0, vF]
  by_cases hf : sN s = 240
  · rw [if_pos hf, if_neg i10, show tVa s T D = (-3, s) from if_pos hf]
    exact ⟨M, if_pos (by decide), hP, GF.refl _ _⟩
  · rw [if_neg hf, if_pos rfl, show tVa s T D = kp s (qVal T D) from if_neg hf]
    obtain ⟨N, v, f, S⟩ := fromLongs_s h.rk t1 t2 b1 b2 hD
    obtain ⟨L, f2, P, G, fs, oN⟩ := kept_f hP (by omega) S
    simp only [h.rk.o, bS, f]
    rw [S.vn]
    simp only [oN, bS, f2, vI]
    exact ⟨L, if_pos (by decide), P, G⟩
theorem value_0 {M : me_M} {A : Nat} {T : Int64} : f_X6_value [.ref A, .long T, .long (lZ 0)] M = some (some (.float 0), M) := by
  rw [e_X6_value, l0z, if_pos (lgc0.mpr rfl)]
theorem overV_s {M : me_M} {A : Nat} {s : Sx} {x y : Int32} (h : PF M A s) (h0 : ¬ (isV (sN s) x ∧ isV (sN s) y ∧ (sV s y.toNatClampNeg).1 = 0)) : Ac M A (f_X6_over [.ref A, .int x, .int y] M) (t2 s x y qDiv) := by
  have hP := h
  obtain ⟨vs, vf, rf, ff, lf, df, h⟩ := h
  have b := h.n
  rw [e_X6_over]
  simp only [h.o, bS, isValue_s h.o h.n, isFull_s h.o h.n, vI, h.rv, pf0, pf2, vF]
  by_cases hx : isV (sN s) x
  · rw [if_pos hx, if_neg i10]
    by_cases hy : isV (sN s) y
    · rw [if_pos hy, if_neg i10]
      obtain ⟨p', e2, F2⟩ := h.val hy
      obtain ⟨a', b', ca, cb, ob, _⟩ := F2.ob
      have hz : ¬ (sV s y.toNatClampNeg).1 = 0 := fun k => h0 ⟨hx, hy, k⟩
      rw [if_neg (hy.no b (by omega))]
      simp only [e2, rfS, vF, ob, bS, g0, vI]
      rw [if_neg (fun k => hz ((sgz F2.2.1.1).mp k))]
      by_cases hf : sN s = 240
      · rw [if_pos hf, if_neg i10, t2_f hx hy hf]
        exact ⟨M, if_pos (by decide), hP, GF.refl _ _⟩
      · rw [if_neg hf, if_pos rfl, t2_ok hx hy hf]
        obtain ⟨p, e1, F1⟩ := h.val hx
        obtain ⟨N, v, f, S⟩ := quotient_s h.rk F1 F2 hz
        obtain ⟨L, f2, P, G, fs, oN⟩ := kept_f hP (by omega) S
        rw [if_neg (hx.no b (by omega)), if_neg (hy.no b (by omega))]
        simp only [e1, rfS, h.rk.o, bS, f]
        rw [S.vn, e_X6_over_71]
        simp only [oN, bS, f2, vI]
        rw [ble2 (by omega) (by omega), cond_true]
        exact ⟨L, if_pos (by omega), P, G⟩
    · rw [if_neg hy, if_pos rfl, t2_y hx hy]
      exact ⟨M, if_pos (by decide), hP, GF.refl _ _⟩
  · rw [if_neg hx, if_pos rfl, t2_x hx]
    exact ⟨M, if_pos (by decide), hP, GF.refl _ _⟩
theorem over_0 {M : me_M} {A : Nat} {s : Sx} {x y : Int32} (h : PF M A s) (h0 : isV (sN s) x ∧ isV (sN s) y ∧ (sV s y.toNatClampNeg).1 = 0) : f_X6_over [.ref A, .int x, .int y] M = some (some (.float 0), M) := by
  obtain ⟨hx, hy, hz⟩ := h0
  obtain ⟨vs, vf, rf, ff, lf, df, h⟩ := h
  have b := h.n
  rw [e_X6_over]
  simp only [h.o, bS, isValue_s h.o h.n, isFull_s h.o h.n, vI, h.rv, pf0, pf2, vF]
  rw [if_pos hx, if_neg i10, if_pos hy, if_neg i10]
  obtain ⟨p', e2, F2⟩ := h.val hy
  obtain ⟨a', b', ca, cb, ob, _⟩ := F2.ob
  rw [if_neg (hy.no b (by omega))]
  simp only [e2, rfS, vF, ob, bS, g0, vI]
  rw [if_pos ((sgz F2.2.1.1).mpr hz)]
theorem restV_s {M : me_M} {A : Nat} {s : Sx} {x y : Int32} (h : PF M A s) (h0 : ¬ (isV (sN s) x ∧ isV (sN s) y ∧ (sV s y.toNatClampNeg).1 = 0)) : Ac M A (f_X6_rest [.ref A, .int x, .int y] M) (t2 s x y qRem) := by
  have hP := h
  obtain ⟨vs, vf, rf, ff, lf, df, h⟩ := h
  have b := h.n
  rw [e_X6_rest]
  simp only [h.o, bS, isValue_s h.o h.n, isFull_s h.o h.n, vI, h.rv, pf0, pf2, vF]
  by_cases hx : isV (sN s) x
  · rw [if_pos hx, if_neg i10]
    by_cases hy : isV (sN s) y
    · rw [if_pos hy, if_neg i10]
      obtain ⟨p', e2, F2⟩ := h.val hy
      obtain ⟨a', b', ca, cb, ob, _⟩ := F2.ob
      have hz : ¬ (sV s y.toNatClampNeg).1 = 0 := fun k => h0 ⟨hx, hy, k⟩
      rw [if_neg (hy.no b (by omega))]
      simp only [e2, rfS, vF, ob, bS, g0, vI]
      rw [if_neg (fun k => hz ((sgz F2.2.1.1).mp k))]
      by_cases hf : sN s = 240
      · rw [if_pos hf, if_neg i10, t2_f hx hy hf]
        exact ⟨M, if_pos (by decide), hP, GF.refl _ _⟩
      · rw [if_neg hf, if_pos rfl, t2_ok hx hy hf]
        obtain ⟨p, e1, F1⟩ := h.val hx
        obtain ⟨N, v, f, S⟩ := remainder_s h.rk F1 F2 hz
        obtain ⟨L, f2, P, G, fs, oN⟩ := kept_f hP (by omega) S
        rw [if_neg (hx.no b (by omega)), if_neg (hy.no b (by omega))]
        simp only [e1, rfS, h.rk.o, bS, f]
        rw [S.vn, e_X6_rest_71]
        simp only [oN, bS, f2, vI]
        rw [ble2 (by omega) (by omega), cond_true]
        exact ⟨L, if_pos (by omega), P, G⟩
    · rw [if_neg hy, if_pos rfl, t2_y hx hy]
      exact ⟨M, if_pos (by decide), hP, GF.refl _ _⟩
  · rw [if_neg hx, if_pos rfl, t2_x hx]
    exact ⟨M, if_pos (by decide), hP, GF.refl _ _⟩
theorem rest_0 {M : me_M} {A : Nat} {s : Sx} {x y : Int32} (h : PF M A s) (h0 : isV (sN s) x ∧ isV (sN s) y ∧ (sV s y.toNatClampNeg).1 = 0) : f_X6_rest [.ref A, .int x, .int y] M = some (some (.float 0), M) := by
  obtain ⟨hx, hy, hz⟩ := h0
  obtain ⟨vs, vf, rf, ff, lf, df, h⟩ := h
  have b := h.n
  rw [e_X6_rest]
  simp only [h.o, bS, isValue_s h.o h.n, isFull_s h.o h.n, vI, h.rv, pf0, pf2, vF]
  rw [if_pos hx, if_neg i10, if_pos hy, if_neg i10]
  obtain ⟨p', e2, F2⟩ := h.val hy
  obtain ⟨a', b', ca, cb, ob, _⟩ := F2.ob
  rw [if_neg (hy.no b (by omega))]
  simp only [e2, rfS, vF, ob, bS, g0, vI]
  rw [if_pos ((sgz F2.2.1.1).mpr hz)]
