theorem left_g {M : me_M} {B x y : Nat} {reg : Nat → Nat} {sg : Nat → Int} {a b : Qn} (h : MS M B reg sg) (hx : x < 4) (hy : y < 4) (hx0 : 0 < x) (hy0 : 0 < y) (h18 : reg 18 = 1) (ha : Fq reg sg x a) (hb : Fq reg sg y b) (na : Nf a) (nb : Nf b) (fa : Fits a) (fb : Fits b) (hb0 : b.1 ≠ 0) :
    ∃ (M' : me_M) (reg' : Nat → Nat) (sg' : Nat → Int), f_X7_left [.ref B, .int (iZ x), .int (iZ y)] M = some (some (.int (fi (qRem a b))), M') ∧ Lq M M' B 0 reg reg' sg sg' (qRem a b) := by
  obtain ⟨a1, a2, a3⟩ := ha
  obtain ⟨b1, b2, b3⟩ := hb
  have hbp : 0 < b.2.1 := Nat.pos_of_ne_zero (fun e => hb0 (nb.2.1.mpr e))
  obtain ⟨M1, f1, P1, F1⟩ := across_g h.1 hx hy (by rw [a2]; exact fa.1) (by rw [a3]; exact fa.2) (by rw [b2]; exact fb.1) (by rw [b3]; exact fb.2)
  rw [a2, a3, b2, b3] at P1
  obtain ⟨P, hPe⟩ : ∃ P, P = a.2.1 * b.2.2 := ⟨_, rfl⟩
  obtain ⟨Q, hQe⟩ : ∃ Q, Q = b.2.1 * a.2.2 := ⟨_, rfl⟩
  rw [← hPe, ← hQe] at P1
  have hQ0 : 0 < Q := by rw [hQe]; exact Nat.mul_pos hbp na.2.2.1
  have eq0 : qRem a b = rd (b.1 * (((if P % Q = 0 ∨ a.1 = b.1 then P % Q else Q - P % Q) : Nat) : Int)) (a.2.2 * b.2.2) := by rw [hPe, hQe]; rfl
  have r10 : up (up reg 10 P) 11 Q 10 = P := by rw [up_n _ _ (by omega), up_s]
  have r11 : up (up reg 10 P) 11 Q 11 = Q := up_s _ _ _
  obtain ⟨M2, f2, P2, F2⟩ := divide_g (x := 10) (b := 11) (q := 19) (qi := -1) P1 (by omega) (by omega) (by omega) (by omega) (by omega) (Or.inl ⟨rfl, rfl⟩) (by rw [r11]; exact hQ0)
  have ed : dvR (up (up reg 10 P) 11 Q) 10 19 (up (up reg 10 P) 11 Q 10) (up (up reg 10 P) 11 Q 11) = up (up (up reg 10 P) 11 Q) 10 (P % Q) := by unfold dvR; rw [if_neg (by omega), r10, r11]
  rw [ed] at P2
  have F12 := F1.trans F2
  have m2 := h.fm F12 P2
  obtain ⟨_, sf, s1, s2⟩ := m2
  have m2 := h.fm F12 P2
  have q10 : up (up (up reg 10 P) 11 Q) 10 (P % Q) 10 = P % Q := up_s _ _ _
  have q11 : up (up (up reg 10 P) 11 Q) 10 (P % Q) 11 = Q := by rw [up_n _ _ (by omega), r11]
  -- from 65 on
  have s65 : ∀ (M3 : me_M) (R : Nat), FM M M3 B → RG M3 B (up (up (up (up reg 10 P) 11 Q) 10 (P % Q)) 0 R) → R = (if P % Q = 0 ∨ a.1 = b.1 then P % Q else Q - P % Q) → ∃ (M' : me_M) (reg' : Nat → Nat) (sg' : Nat → Int), sm T_X7_left (65, [(0, .ref B), (1, .int (iZ x)), (2, .int (iZ y))], [], M3, 0, 0) = some (some (.int (fi (qRem a b))), M') ∧ Lq M M' B 0 reg reg' sg sg' (qRem a b) := by
    intro M3 R F3 P3 hR
    have m3 := h.fm F3 P3
    obtain ⟨_, sf3, t1, t2⟩ := m3
    have m3 := h.fm F3 P3
    obtain ⟨u, ul, k0⟩ := m3.h
    have m4 := MS.sg (f := 0) (v := b.1) P3 t2
    obtain ⟨M', reg', sg', f4, L⟩ := sum_154 (M := M) (reg := reg) (sg := sg) (a := a) (b := b) (q := qRem a b) m4 (F3.fs.trans FS.s3) hx hy hx0 hy0 h18 ⟨a1, a2, a3⟩ ⟨b1, b2, b3⟩ na nb fa fb (fun w k1 k2 => by rw [up_n _ _ k1, up_n _ _ (by omega), up_n _ _ (by omega), up_n _ _ (by omega)]) (fun g k => us_n _ _ k) (fun _ => by rw [us_s]; exact nb.1.resolve_left hb0) (by rw [us_s, up_s, eq0, hR])
    refine ⟨M', reg', sg', ?_, L⟩
    rw [e_X7_left_65]
    simp only [k0, bS, g3, vF, t1]
    rw [iZ_clampN (by omega : y < 2147483648), if_neg (nob (iZ_n0 (by omega)) (by omega)), if_neg (nob n0 (by decide)), cl0, t2 y hy, b1, m4.i0, z21, z21]
    exact f4
  have s40 : (P % Q = 0 ∨ a.1 = b.1) → ∃ (M' : me_M) (reg' : Nat → Nat) (sg' : Nat → Int), sm T_X7_left (40, [(0, .ref B), (1, .int (iZ x)), (2, .int (iZ y))], [], M2, 0, 0) = some (some (.int (fi (qRem a b))), M') ∧ Lq M M' B 0 reg reg' sg sg' (qRem a b) := by
    intro hc
    obtain ⟨M3, f3, P3, F3⟩ := copy_g (x := 0) (y := 10) P2 (by omega) (by omega) (by omega)
    rw [q10] at P3
    have f3' : f_X7_copy [.ref B, .int (0 : Int32), .int (10 : Int32)] M2 = _ := f3
    rw [e_X7_left_40, P2.i0, f3']
    simp only [bS, cNn]
    exact s65 M3 _ (F12.trans F3) P3 (by rw [if_pos hc])
  obtain ⟨t, tl, nf, s, h0, h2', hn, hs1, hs0⟩ := P2.n (x := 10) (by omega)
  rw [q10] at hs0
  have f2' : f_X7_divide [.ref B, .int (10 : Int32), .int (11 : Int32), .int (-1 : Int32)] M1 = _ := f2
  rw [e_X7_left, h.i0, f1]
  simp only [bS, cNn]
  rw [P1.i0, f2']
  have c10 : (10 : Int32).toNatClampNeg = 10 := rfl
  simp only [bS, cNn, h0, g2, g3, vF, h2', s1, c10, hn]
  rw [if_neg (nob (by decide) (by omega))]
  by_cases e : P % Q = 0
  · rw [if_pos (by rw [hs0.mpr e]; rfl)]
    exact s40 (Or.inl e)
  · have hs2 : s ≠ 0 := fun q => e (hs0.mp q)
    rw [if_neg (by rw [z_0, iZ_eq (by omega) (by omega)]; omega), iZ_clampN (by omega : x < 2147483648), iZ_clampN (by omega : y < 2147483648), if_neg (nob (iZ_n0 (by omega)) (by omega)), if_neg (nob (iZ_n0 (by omega)) (by omega))]
    simp only [s2 x hx, s2 y hy, a1, b1]
    by_cases e2 : a.1 = b.1
    · rw [if_pos (by rw [e2])]
      exact s40 (Or.inr e2)
    · rw [if_neg (fun z => e2 ((sge na.1 nb.1).mp z))]
      have hml : P % Q < Q := Nat.mod_lt _ hQ0
      obtain ⟨M3, f3, P3, F3⟩ := copy_g (x := 0) (y := 11) P2 (by omega) (by omega) (by omega)
      rw [q11] at P3
      obtain ⟨M4, f4, P4, F4⟩ := less_rg (x := 0) (b := 10) P3 (by omega) (by omega) (by omega) (by rw [up_s, up_n _ _ (by omega), q10]; omega)
      rw [up_s, up_n (i := 0) (j := 10) _ _ (by omega), q10, up_up] at P4
      have f3' : f_X7_copy [.ref B, .int (0 : Int32), .int (11 : Int32)] M2 = _ := f3
      have f4' : f_X7_lessen [.ref B, .int (0 : Int32), .int (10 : Int32), .int (0 : Int32)] M3 = _ := f4
      rw [f3']
      simp only [bS, cNn]
      rw [P3.i0, f4']
      simp only [bS, cNn]
      exact s65 M4 _ ((F12.trans F3).trans F4) P4 (by rw [if_neg (fun z => z.elim e e2)])
theorem common_g {M : me_M} {B x y : Nat} {reg : Nat → Nat} {sg : Nat → Int} {a b : Qn} (h : MS M B reg sg) (hx : x < 4) (hy : y < 4) (hx0 : 0 < x) (hy0 : 0 < y) (h18 : reg 18 = 1) (ha : Fq reg sg x a) (hb : Fq reg sg y b) (na : Nf a) (nb : Nf b) (fa : Fits a) (fb : Fits b) :
    ∃ (M' : me_M) (reg' : Nat → Nat) (sg' : Nat → Int), f_X7_common [.ref B, .int (iZ x), .int (iZ y)] M = some (some (.int (fi (qMeas a b))), M') ∧ Lq M M' B 0 reg reg' sg sg' (qMeas a b) := by
  obtain ⟨a1, a2, a3⟩ := ha
  obtain ⟨b1, b2, b3⟩ := hb
  obtain ⟨M1, f1, P1, F1⟩ := across_g h.1 hx hy (by rw [a2]; exact fa.1) (by rw [a3]; exact fa.2) (by rw [b2]; exact fb.1) (by rw [b3]; exact fb.2)
  rw [a2, a3, b2, b3] at P1
  obtain ⟨M2, reg2, f2, P2, F2, g1', g2'⟩ := dvs_g (z := 0) (a := 10) (b := 11) P1 (by omega) (by omega) (by omega)
  rw [up_s, up_n (i := 11) (j := 10) _ _ (by omega), up_s] at g1'
  have F12 := F1.trans F2
  have m2 := h.fm F12 P2
  obtain ⟨_, sf, s1, s2⟩ := m2
  have m2 := h.fm F12 P2
  obtain ⟨u, ul, k0⟩ := m2.h
  have m4 := MS.sg (f := 0) (v := 1) P2 s2
  obtain ⟨M', reg', sg', f4, L⟩ := sum_154 (M := M) (reg := reg) (sg := sg) (a := a) (b := b) (q := qMeas a b) m4 (F12.fs.trans FS.s3) hx hy hx0 hy0 h18 ⟨a1, a2, a3⟩ ⟨b1, b2, b3⟩ na nb fa fb (fun w k1 k2 => by rw [g2' w k1 (by omega) (by omega), up_n _ _ (by omega), up_n _ _ (by omega)]) (fun g k => us_n _ _ k) (fun _ => Or.inl (us_s _ _ _)) (by rw [us_s, g1', Int.one_mul]; rfl)
  refine ⟨M', reg', sg', ?_, L⟩
  have f2' : f_X7_divisor [.ref B, .int (0 : Int32), .int (10 : Int32), .int (11 : Int32)] M1 = _ := f2
  rw [e_X7_common, h.i0, f1]
  simp only [bS, cNn]
  rw [P1.i0, f2']
  simp only [bS, cNn, k0, g3, vF, s1]
  rw [if_neg (nob n0 (by decide)), cl0, z_1, m4.i0, z_1.symm, z21, z21]
  simp only [e_X7_common_37]
  exact f4
theorem move_g {M : me_M} {B x y : Nat} {reg : Nat → Nat} {sg : Nat → Int} (h : MS M B reg sg) (hx : x < 4) (hy : y < 4) (hxy : x ≠ y) :
    ∃ M' : me_M, f_X7_move [.ref B, .int (iZ x), .int (iZ y)] M = some (none, M') ∧ MS M' B (up (up reg (2 * x) (reg (2 * y))) (2 * x + 1) (reg (2 * y + 1))) (us sg x (sg y)) ∧ FS M M' B := by
  obtain ⟨M1, f1, P1, F1⟩ := copy_g (x := 2 * x) (y := 2 * y) h.1 (by omega) (by omega) (by omega)
  obtain ⟨M2, f2, P2, F2⟩ := copy_g (x := 2 * x + 1) (y := 2 * y + 1) P1 (by omega) (by omega) (by omega)
  rw [up_n (i := 2 * x) (j := 2 * y + 1) _ _ (by omega)] at P2
  have F12 := F1.trans F2
  have m2 := h.fm F12 P2
  obtain ⟨_, sf, s1, s2⟩ := m2
  have m2 := h.fm F12 P2
  obtain ⟨u, ul, k0⟩ := m2.h
  have m3 := MS.sg (f := x) (v := sg y) P2 s2
  refine ⟨_, ?_, m3, F12.fs.trans FS.s3⟩
  rw [e_X7_move, z21, z21, z2, z2, h.i0, f1]
  simp only [bS, cNn]
  rw [P1.i0, f2]
  simp only [bS, cNn, k0, g3, vF, s1]
  rw [iZ_clampN (by omega : x < 2147483648), iZ_clampN (by omega : y < 2147483648), if_neg (nob (iZ_n0 (by omega)) (by omega)), if_neg (nob (iZ_n0 (by omega)) (by omega)), c00, s2 y hy]
