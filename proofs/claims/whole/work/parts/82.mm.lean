/-! value, whole, order, of -/
theorem value_80 {M : me_M} {B : Nat} {th : Int32} {s : Sx} {reg : Nat → Nat} {sg : Nat → Int} {S : Sto} {sz wf : Nat → Int32} {T D : Int} (h : MG M B th s reg sg S sz wf) (hN : sN s < 240) (t1 : -9223372036854775808 ≤ T) (t2' : T < 9223372036854775808) (b1 : -9223372036854775808 ≤ D) (b2 : D < 9223372036854775808) (hD : D ≠ 0) (r0 : reg 0 = T.natAbs) (r1 : reg 1 = D.natAbs) : Am M B (sm T_X7_value (80, [(0, .ref B), (3, .long (lZ D))], [.int (if 0 ≤ T then 0 else 1), .int (0 : Int32), .ref (B + 3)], M, 0, 0)) th (kp s (qVal T D)) := by
  have key : ∀ v : Int, (reg 0 ≠ 0 → v = 1 ∨ v = -1) → v * ((T.natAbs : Nat) : Int) = T * D.sign → Am M B (sm T_X7_value (99, [(0, .ref B)], [.int (iZ v), .int (0 : Int32), .ref (B + 3)], M, 0, 0)) th (kp s (qVal T D)) := by
    intro v hv he
    obtain ⟨_, sf, s1, s2⟩ := h.ms
    have m3 := MS.sg (f := 0) (v := v) h.ms.1 s2
    have g3' := h.fs FS.s3 m3 h.r18
    obtain ⟨M', reg', sg', f3, L⟩ := fin_g (M := me_set M (B + 3) (.inl (0, 4, .inl (upd sf 0 (iZ v))))) (reg := reg) (sg := us sg 0 v) (q := qVal T D) m3 (FS.refl _ _) h.r18 (by rw [r1]; omega) (by rw [us_s]; exact hv) (fun _ _ _ _ => rfl) (fun _ _ => rfl) (by rw [us_s, r0, r1, he]; rfl)
    rw [e_X7_value_99]
    simp only [vF, bS, s1]
    rw [if_neg (nob n0 (by decide)), cl0, g3'.i0, f3]
    simp only [bS, vI]
    exact Am.trans FS.s3.fb (lq_comes g3' hN L (rd_nf (by omega)))
  have z1 : (0 ≤ lg_cmp (lZ D) (0 : Int64)) ↔ 0 ≤ D := by rw [lZ_0]; exact lc_ge0 (b := 0) ⟨b1, b2⟩ (by omega)
  rw [e_X7_value_80]
  by_cases hT : 0 ≤ T
  · rw [if_pos hT]
    by_cases hD0 : 0 ≤ D
    · rw [if_pos (z1.mpr hD0), e_X7_value_91, if_pos rfl]
      exact key 1 (fun _ => Or.inl rfl) (by rw [Int.sign_eq_one_of_pos (by omega)]; omega)
    · rw [if_neg (fun q => hD0 (z1.mp q)), e_X7_value_91, if_neg (by decide)]
      exact key (-1) (fun _ => Or.inr rfl) (by rw [Int.sign_eq_neg_one_of_neg (by omega)]; omega)
  · rw [if_neg hT]
    by_cases hD0 : 0 ≤ D
    · rw [if_pos (z1.mpr hD0), e_X7_value_91, if_neg i10]
      exact key (-1) (fun _ => Or.inr rfl) (by rw [Int.sign_eq_one_of_pos (by omega)]; omega)
    · rw [if_neg (fun q => hD0 (z1.mp q)), e_X7_value_91, if_pos rfl]
      exact key 1 (fun _ => Or.inl rfl) (by rw [Int.sign_eq_neg_one_of_neg (by omega)]; omega)
def tVa (s : Sx) (T D : Int) : Int32 × Sx := if sN s = 240 then (-3, s) else kp s (qVal T D)
theorem valueM_g {M : me_M} {B : Nat} {th : Int32} {s : Sx} {T D : Int} (h : MF M B th s) (t1 : -9223372036854775808 ≤ T) (t2' : T < 9223372036854775808) (b1 : -9223372036854775808 ≤ D) (b2 : D < 9223372036854775808) : Am M B (f_X7_value [.ref B, .long (lZ T), .long (lZ D)] M) (if D = 0 then 1 else 0) (if D = 0 then (0, s) else tVa s T D) := by
  obtain ⟨reg, sg, S, sz, wf, h⟩ := h
  have hn := h.n
  have hm := h.m
  have m := h.th (th' := 0)
  have F : FB M (me_set M B (.inr (7, mfo B 0 s))) B := FB.set (by omega)
  rw [e_X7_value]
  simp only [h.o, bS, ml0, mt0]
  obtain ⟨N, hN⟩ : ∃ N, N = me_set M B (.inr (7, mfo B 0 s)) := ⟨_, rfl⟩
  have hN' : N = me_set M B (.inr (7, [.int 0, .ref (B + 1), .ref (B + 2), .ref (B + 3), .ref (B + 4), .ref (B + 5), .ref (B + 6), .ref (B + 7), .ref (B + 8), .int (iZ (sN s)), .int (iZ (sR s)), .ref (B + 9), .int (iZ (sW s)), .ref (B + 10), .int (iZ (sT s)), .ref (B + 11)])) := hN
  rw [← hN] at m F
  rw [← hN']
  refine Am.trans F ?_
  have z0 : (lg_cmp (lZ D) (0 : Int64) = 0) ↔ D = 0 := by rw [lgc0, lZ_0, lZ_eq ⟨b1, b2⟩ (by omega)]
  have zT : (0 ≤ lg_cmp (lZ T) (0 : Int64)) ↔ 0 ≤ T := by rw [lZ_0]; exact lc_ge0 (b := 0) ⟨t1, t2'⟩ (by omega)
  have zD : (0 ≤ lg_cmp (lZ D) (0 : Int64)) ↔ 0 ≤ D := by rw [lZ_0]; exact lc_ge0 (b := 0) ⟨b1, b2⟩ (by omega)
  by_cases hD : D = 0
  · rw [if_pos (z0.mpr hD), if_pos hD, if_pos hD, m.i0]
    exact (throwing_g m).ret
  · rw [if_neg (fun q => hD (z0.mp q)), if_neg hD, if_neg hD]
    simp only [m.o, bS, mf9, vI]
    unfold tVa
    by_cases hf : sN s = 240
    · rw [if_pos (by rw [hf]; rfl), c00, if_pos hf]
      exact Am.val ⟨reg, sg, S, sz, wf, m⟩
    · rw [if_neg (by rw [show (240 : Int32) = iZ 240 from rfl, iZ_eq (by omega) (by omega)]; omega), if_neg hf]
      obtain ⟨eT, lT⟩ := fl_abs t1 t2'
      obtain ⟨eD, lD⟩ := fl_abs b1 b2
      obtain ⟨M1, f1, P1, F1⟩ := put_g (x := 0) (U := T.natAbs) m.ms.1 (by omega) lT
      obtain ⟨M2, f2, P2, F2⟩ := put_g (x := 1) (U := D.natAbs) P1 (by omega) lD
      have f1' : f_X7_put [.ref B, .int (0 : Int32), .long (lZ ((T.natAbs : Nat) : Int))] N = _ := f1
      have f2' : f_X7_put [.ref B, .int (1 : Int32), .long (lZ ((D.natAbs : Nat) : Int))] M1 = _ := f2
      have m2 := m.fs (F1.fs.trans F2.fs) ((m.ms.fm F1 P1).fm F2 P2) (by rw [up_n _ _ (by omega), up_n _ _ (by omega)]; exact m.r18)
      have fin := value_80 m2 (by omega) t1 t2' b1 b2 hD (by rw [up_n _ _ (by omega), up_s]) (up_s _ _ _)
      have s61 : Am N B (sm T_X7_value (61, [(0, .ref B), (1, .long (lZ T)), (3, .long (lZ D))], [.long (lZ ((D.natAbs : Nat) : Int)), .int (1 : Int32), .ref B], M1, 0, 0)) 0 (kp s (qVal T D)) := by
        rw [e_X7_value_61, P1.i0, f2']
        simp only [bS, cNn, m2.o, mf3]
        refine Am.trans (F1.fs.trans F2.fs).fb ?_
        by_cases hT : 0 ≤ T
        · rw [if_pos (zT.mpr hT)]
          rw [if_pos hT] at fin
          exact fin
        · rw [if_neg (fun q => hT (zT.mp q))]
          rw [if_neg hT] at fin
          exact fin
      have s44 : Am N B (sm T_X7_value (44, [(0, .ref B), (1, .long (lZ T)), (3, .long (lZ D))], [.long (lZ ((T.natAbs : Nat) : Int)), .int (0 : Int32), .ref B], N, 0, 0)) 0 (kp s (qVal T D)) := by
        rw [e_X7_value_44, m.i0, f1']
        simp only [bS, cNn]
        by_cases hD0 : 0 ≤ D
        · rw [if_pos (zD.mpr hD0)]
          rw [if_pos hD0] at eD
          rw [← eD] at s61
          exact s61
        · rw [if_neg (fun q => hD0 (zD.mp q))]
          rw [if_neg hD0] at eD
          rw [← eD] at s61
          exact s61
      by_cases hT : 0 ≤ T
      · rw [if_pos (zT.mpr hT)]
        rw [if_pos hT] at eT
        rw [← eT] at s44
        exact s44
      · rw [if_neg (fun q => hT (zT.mp q))]
        rw [if_neg hT] at eT
        rw [← eT] at s44
        exact s44
theorem cmpF_g {M : me_M} {B x y : Nat} {reg : Nat → Nat} {sg : Nat → Int} {a b : Qn} (h : MS M B reg sg) (hx : x < 4) (hy : y < 4) (ha : Fq reg sg x a) (hb : Fq reg sg y b) (na : Nf a) (nb : Nf b) (fa : Fits a) (fb : Fits b) :
    ∃ (M' : me_M) (reg' : Nat → Nat), f_X7_compareFractions [.ref B, .int (iZ x), .int (iZ y)] M = some (some (.int (qCmp a b)), M') ∧ MS M' B reg' sg ∧ FS M M' B ∧ ∀ w, (w < 10 ∨ 15 < w) → reg' w = reg w := by
  obtain ⟨a1, a2, a3⟩ := ha
  obtain ⟨b1, b2, b3⟩ := hb
  obtain ⟨M1, f1, P1, F1⟩ := across_g h.1 hx hy (by rw [a2]; exact fa.1) (by rw [a3]; exact fa.2) (by rw [b2]; exact fb.1) (by rw [b3]; exact fb.2)
  rw [a2, a3, b2, b3] at P1
  have m1 := h.fm F1 P1
  obtain ⟨_, sf1, u1, u2⟩ := m1
  have m1 := h.fm F1 P1
  obtain ⟨t, tl, k0⟩ := m1.h
  obtain ⟨_, sf, s1, s2⟩ := h
  obtain ⟨t', tl', h0⟩ := MS.h ⟨‹RG M B reg›, sf, s1, s2⟩
  have r10 : up (up reg 10 (a.2.1 * b.2.2)) 11 (b.2.1 * a.2.2) 10 = a.2.1 * b.2.2 := by rw [up_n _ _ (by omega), up_s]
  have r11 : up (up reg 10 (a.2.1 * b.2.2)) 11 (b.2.1 * a.2.2) 11 = b.2.1 * a.2.2 := up_s _ _ _
  have fc1 : f_X7_compare [.ref B, .int (10 : Int32), .int (11 : Int32)] M1 = _ := cmp_g (x := 10) (y := 11) P1 (by omega) (by omega)
  have fc2 : f_X7_compare [.ref B, .int (11 : Int32), .int (10 : Int32)] M1 = _ := cmp_g (x := 11) (y := 10) P1 (by omega) (by omega)
  rw [r10, r11] at fc1 fc2
  have cx := iZ_clampN (n := x) (by omega)
  have cy := iZ_clampN (n := y) (by omega)
  rw [e_X7_compareFractions]
  simp only [h0, bS, g3, vF, s1, cx, cy, s2 x hx, s2 y hy, a1, b1, f1, cNn, k0, u1, u2 x hx, fc1, fc2, vI]
  rw [if_neg (nob (iZ_n0 (by omega)) (by omega)), if_neg (nob (iZ_n0 (by omega)) (by omega))]
  unfold qCmp
  by_cases e : a.1 = b.1
  · rw [if_pos (by rw [e]), if_pos e, if_neg (nob (iZ_n0 (by omega)) (by omega))]
    refine ⟨M1, _, ?_, m1, F1.fs, fun w hw => by rw [up_n _ _ (by omega), up_n _ _ (by omega)]⟩
    rcases na.1 with k | k | k
    · have z1 : a.2.1 = 0 := na.2.1.mp k
      have z2 : b.2.1 = 0 := nb.2.1.mp (by omega)
      rw [if_pos (by rw [k]; decide), c00, k, z1, z2, Nat.zero_mul, Nat.zero_mul]
      rfl
    · rw [if_pos (by rw [k]; decide), c00, k]
      congr 3
      unfold cmpN
      split
      · rfl
      · split <;> rfl
    · rw [if_neg (by rw [k]; decide), c00, k]
      congr 3
      unfold cmpN
      by_cases l : a.2.1 * b.2.2 < b.2.1 * a.2.2
      · rw [if_neg (by omega), if_neg (by omega), if_pos l]; rfl
      · by_cases l2 : a.2.1 * b.2.2 = b.2.1 * a.2.2
        · rw [if_neg (by omega), if_pos l2.symm, if_neg l, if_pos l2]; rfl
        · rw [if_pos (by omega), if_neg l, if_neg l2]; rfl
  · rw [if_neg (fun z => e ((sge na.1 nb.1).mp z)), if_neg e, if_neg (nob (iZ_n0 (by omega)) (by omega)), if_neg (nob (iZ_n0 (by omega)) (by omega))]
    refine ⟨M, reg, ?_, ⟨‹RG M B reg›, sf, s1, s2⟩, FS.refl _ _, fun _ _ => rfl⟩
    have k1 := na.1
    have k2 := nb.1
    by_cases l : a.1 < b.1
    · rw [if_neg (by rw [iZ_le (by omega) (by omega)]; omega), if_pos l, c00]
    · rw [if_pos (by rw [iZ_le (by omega) (by omega)]; omega), if_neg l, c00]
theorem orderM_g {M : me_M} {B : Nat} {th : Int32} {s : Sx} {x y : Int32} (h : MF M B th s) : Am M B (f_X7_order [.ref B, .int x, .int y] M) 0 (tOr s x y) := by
  obtain ⟨reg, sg, S, sz, wf, h⟩ := h
  have hn := h.n
  have hm := h.m
  have m := h.th (th' := 0)
  have F : FB M (me_set M B (.inr (7, mfo B 0 s))) B := FB.set (by omega)
  rw [e_X7_order]
  simp only [h.o, bS, ml0, mt0]
  obtain ⟨N, hN⟩ : ∃ N, N = me_set M B (.inr (7, mfo B 0 s)) := ⟨_, rfl⟩
  have hN' : N = me_set M B (.inr (7, [.int 0, .ref (B + 1), .ref (B + 2), .ref (B + 3), .ref (B + 4), .ref (B + 5), .ref (B + 6), .ref (B + 7), .ref (B + 8), .int (iZ (sN s)), .int (iZ (sR s)), .ref (B + 9), .int (iZ (sW s)), .ref (B + 10), .int (iZ (sT s)), .ref (B + 11)])) := hN
  rw [← hN] at m F
  rw [← hN']
  simp only [m.o, bS, isValueM_s m.ob m.n, vI]
  refine Am.trans F ?_
  by_cases hx : isV (sN s) x
  · rw [if_pos hx, if_neg i10]
    by_cases hy : isV (sN s) y
    · rw [if_pos hy, if_neg i10, show tOr s x y = _ from if_pos ⟨hx, hy⟩]
      obtain ⟨i, i1, i2, i3⟩ := hx.ix (by omega)
      obtain ⟨j, j1, j2, j3⟩ := hy.ix (by omega)
      have Ka := m.V i i1
      have Kb := m.V j j1
      obtain ⟨M1, f1, m1, F1⟩ := load_mg (f := 1) (v := i) m (by omega) (by omega) Ka
      obtain ⟨M2, f2, m2, F2⟩ := load_mg (f := 2) (v := j) m1 (by omega) (by omega) Kb
      have f1' : f_X7_load [.ref B, .int (1 : Int32), .int (iZ i)] N = _ := f1
      have f2' : f_X7_load [.ref B, .int (2 : Int32), .int (iZ j)] M1 = _ := f2
      obtain ⟨M3, reg3, f3, m3, F3, hr⟩ := cmpF_g (x := 1) (y := 2) m2.ms (by omega) (by omega) ((Fq.ld reg sg 1 _).ne (by omega)) (Fq.ld _ _ 2 _) Ka.1 Kb.1 Ka.2.1 Kb.2.1
      have f3' : f_X7_compareFractions [.ref B, .int (1 : Int32), .int (2 : Int32)] M2 = _ := f3
      rw [i3, j3, i2, j2, f1']
      simp only [bS, cNn]
      rw [m1.i0, f2']
      simp only [bS, cNn]
      rw [m2.i0, f3']
      simp only [bS, vI]
      exact ⟨M3, c00, ⟨_, _, S, sz, wf, m2.fs F3 m3 ((hr 18 (by omega)).trans m2.r18)⟩, ((F1.trans F2).trans F3).fb⟩
    · rw [if_neg hy, if_pos rfl, c00, show tOr s x y = (-2, s) from if_neg (fun k => hy k.2)]
      exact Am.val ⟨reg, sg, S, sz, wf, m⟩
  · rw [if_neg hx, if_pos rfl, c00, show tOr s x y = (-2, s) from if_neg (fun k => hx k.1)]
    exact Am.val ⟨reg, sg, S, sz, wf, m⟩
theorem isLong_g {M : me_M} {B x : Nat} {reg : Nat → Nat} {its : Int} (h : RG M B reg) (hx : x < 19) (h1 : -2 ≤ its) (h2' : its ≤ 2) : f_X7_isLong [.ref B, .int (iZ x), .int (iZ its)] M = some (some (.int (if reg x < 9223372036854775808 ∨ (its < 0 ∧ reg x = 9223372036854775808) then 1 else 0)), M) := by
  have lb : bl (reg x) ≤ 2560 := by
    obtain ⟨rf, nf, _, hR⟩ := h
    exact (hR x hx).bl_le
  have e63 : (2 : Nat) ^ 63 = 9223372036854775808 := by decide
  have e64 : (2 : Nat) ^ 64 = 18446744073709551616 := by decide
  have b63 : bl (reg x) ≤ 63 ↔ reg x < 9223372036854775808 := by rw [bl_le_iff, e63]
  have b64 : bl (reg x) ≤ 64 ↔ reg x < 18446744073709551616 := by rw [bl_le_iff, e64]
  rw [e_X7_isLong, h.i0, bits_g h hx]
  simp only [bS, vI]
  by_cases k : reg x < 9223372036854775808
  · have := b63.mpr k
    rw [if_pos (by rw [show (64 : Int32) = iZ 64 from rfl, iZ_lt (by omega) (by omega)]; omega), cT1, c00, if_pos (Or.inl k)]
  · have k' : ¬ bl (reg x) ≤ 63 := fun q => k (b63.mp q)
    rw [if_neg (by rw [show (64 : Int32) = iZ 64 from rfl, iZ_lt (by omega) (by omega)]; omega)]
    by_cases hi : 0 ≤ its
    · rw [if_pos (by rw [z_0, iZ_le (by omega) (by omega)]; exact hi), cT0, c00, if_neg (by omega)]
    · rw [if_neg (by rw [z_0, iZ_le (by omega) (by omega)]; exact hi), h.i0, bits_g h hx]
      simp only [bS, vI]
      by_cases l : reg x < 18446744073709551616
      · have := b64.mpr l
        rw [if_pos (by rw [show (64 : Int32) = iZ 64 from rfl, iZ_eq (by omega) (by omega)]; omega), h.i0, low_g h hx l]
        simp only [bS, vL]
        have em : (-9223372036854775808 : Int64) = lZ ((9223372036854775808 : Nat) : Int) := by decide
        have ez : (lg_cmp (lZ ((reg x : Nat) : Int)) (-9223372036854775808 : Int64) = 0) ↔ reg x = 9223372036854775808 := by
          rw [lgc0, em]
          constructor
          · intro e
            have e2 := congrArg (fun z : Int64 => z.toBitVec.toNat) e
            simp only [lZ_bits] at e2
            omega
          · intro e; rw [e]
        by_cases q : reg x = 9223372036854775808
        · rw [if_pos (ez.mpr q), cT1, c00, if_pos (Or.inr ⟨by omega, q⟩)]
        · rw [if_neg (fun z => q (ez.mp z)), cT0, c00, if_neg (by omega)]
      · have l' : ¬ bl (reg x) ≤ 64 := fun q => l (b64.mp q)
        rw [if_neg (by rw [show (64 : Int32) = iZ 64 from rfl, iZ_eq (by omega) (by omega)]; omega), cT0, c00, if_neg (by omega)]
theorem small_g {M : me_M} {B v : Nat} {th : Int32} {s : Sx} {reg : Nat → Nat} {sg : Nat → Int} {S : Sto} {sz wf : Nat → Int32} {q : Qn} (h : MG M B th s reg sg S sz wf) (hv : v < 450) (hq : Kq S v q) :
    ∃ M' : me_M, f_X7_isSmall [.ref B, .int (iZ v)] M = some (some (.int (iZ (qS1 q))), M') ∧ MG M' B th s (up (up reg 2 q.2.1) 3 q.2.2) (us sg 1 q.1) S sz wf ∧ FS M M' B := by
  obtain ⟨M1, f1, m1, F1⟩ := load_mg (f := 1) (v := v) h (by omega) hv hq
  have f1' : f_X7_load [.ref B, .int (1 : Int32), .int (iZ v)] M = _ := f1
  have m1 : MG M1 B th s (up (up reg 2 q.2.1) 3 q.2.2) (us sg 1 q.1) S sz wf := m1
  refine ⟨M1, ?_, m1, F1⟩
  obtain ⟨_, sf, s1, s2⟩ := m1.ms
  have c1 : sf 1 = iZ q.1 := by rw [s2 1 (by omega), us_s]
  have k1 := hq.1.1
  have fa : f_X7_isLong [.ref B, .int (2 : Int32), .int (iZ q.1)] M1 = _ := isLong_g (x := 2) m1.ms.1 (by omega) (by omega) (by omega)
  have fb : f_X7_isLong [.ref B, .int (3 : Int32), .int (1 : Int32)] M1 = _ := isLong_g (x := 3) (its := 1) m1.ms.1 (by omega) (by omega) (by omega)
  rw [up_n (i := 3) (j := 2) _ _ (by omega), up_s] at fa
  rw [up_s] at fb
  rw [e_X7_isSmall, h.i0, f1']
  simp only [bS, cNn, m1.o, mf3, vF, s1, cl1, c1, fa, vI, fb]
  rw [if_neg (nob n1 (by decide))]
  unfold qS1
  by_cases k : q.2.1 < 9223372036854775808 ∨ (q.1 < 0 ∧ q.2.1 = 9223372036854775808)
  · rw [if_pos k, if_neg i10]
    by_cases l : q.2.2 < 9223372036854775808
    · rw [if_pos (Or.inl l), if_neg i10, cT1, c00, if_pos ⟨k, l⟩]; rfl
    · rw [show (if q.2.2 < 9223372036854775808 ∨ ((1 : Int) < 0 ∧ q.2.2 = 9223372036854775808) then (1 : Int32) else 0) = 0 from if_neg (fun z => z.elim l (fun y => absurd y.1 (by decide))), if_pos rfl, cT0, c00, if_neg (fun z => l z.2)]; rfl
  · rw [if_neg k, if_pos rfl, cT0, c00, if_neg (fun z => k z.1)]; rfl
