/-! a Whole and its limbs, which lie behind it -/
def Wh (M : me_M) (w cap v : Nat) : Prop := ∃ (s : Nat) (f : Nat → Int32), WS M w (w + 1) cap s v f
theorem Wh.of {M M' : me_M} {w cap v : Nat} (h : Wh M w cap v) (h1 : M'.2 w = M.2 w) (h2 : M'.2 (w + 1) = M.2 (w + 1)) : Wh M' w cap v := by
  obtain ⟨s, f, h⟩ := h
  exact ⟨s, f, h.of h1 h2⟩
theorem Sz.le {v s m : Nat} (h : Sz 31 v s) (hm : v < 2 ^ (31 * m)) : s ≤ m := by
  apply Nat.le_of_not_lt
  intro hlt
  obtain ⟨_, h | h⟩ := h
  · omega
  · have := pw_le 31 (show m ≤ s - 1 by omega)
    omega
theorem div_b {V D s n : Nat} (hV : V < 2 ^ (31 * s)) (hD : 2 ^ (31 * (n - 1)) ≤ D) (h : n ≤ s) (hn : 0 < n) : V / D < 2 ^ (31 * (s - n + 1)) := by
  have h0 := Nat.two_pow_pos (31 * (n - 1))
  rw [Nat.div_lt_iff_lt_mul (by omega)]
  refine Nat.lt_of_lt_of_le hV (Nat.le_trans ?_ (Nat.mul_le_mul_left _ hD))
  rw [← Nat.pow_add, show 31 * (s - n + 1) + 31 * (n - 1) = 31 * s by omega]
  exact Nat.le_refl _
theorem div_end {M : me_M} {w cap q capq x s n V D : Nat} {sq sw : Value} {f0 fq g h : Nat → Int32} {x4 : Int32} {x5 : Int64} {ax : Value} (hw : me_obj M 5 w = some [.ref (w + 1), sw]) (hl : me_int M 0 (w + 1) = some (cap, f0)) (hc : cap < 1000) (hq : me_obj M 5 q = some [.ref (q + 1), sq]) (hqa : me_int M 0 (q + 1) = some (capq, fq)) (hcq : capq < 1000) (hwq : w ≠ q) (hx : me_obj M 5 x = some [ax, .int (iZ n)]) (hxq : x ≠ q) (hn : n ≤ cap) (hs1 : s - n + 1 ≤ capq) (hr : V % D < 2 ^ (31 * n)) (hd : V / D < 2 ^ (31 * (s - n + 1))) (hg : ∀ j, j < n → g j = iZ (dg 31 (V % D) j)) (hh : ∀ j, j ≤ s - n → h j = iZ (dg 31 (V / D) j)) :
    ∃ M' : me_M, sm T_X5_divide (116, [(0, .ref w), (1, .ref x), (2, .ref q), (3, .int (iZ ((s - n : Nat) : Int))), (4, .int x4), (5, .long x5), (7, .int (iZ (-1)))], [], mA (mA M (q + 1) capq h) (w + 1) cap g, 0, 0) = some (none, M') ∧ Wh M' w cap (V % D) ∧ Wh M' q capq (V / D) ∧ M'.1 = M.1 ∧ ∀ p, p ≠ w → p ≠ w + 1 → p ≠ q → p ≠ q + 1 → M'.2 p = M.2 p := by
  have hwl := oi_ne hw hl
  have hwqa := oi_ne hw hqa
  have hql := oi_ne hq hl
  have hqq := oi_ne hq hqa
  have hxl := oi_ne hx hl
  have hxqa := oi_ne hx hqa
  have hm : mA (mA M (q + 1) capq h) (w + 1) cap g = mA (mA M (w + 1) cap g) (q + 1) capq h := by
    unfold mA
    rw [set_comm _ (by omega)]
  obtain ⟨sq', t1, t2⟩ := trimW (M := mA M (w + 1) cap g) (w := q) (a := q + 1) (cap := capq) (s := s - n + 1) (v := V / D) (g := h) (by omega) hcq hs1 hd (fun j hj => hh j (by omega))
  have hN2 : (mW (mA M (w + 1) cap g) q (q + 1) capq h sq').2 (w + 1) = some (.inl (0, cap, .inl g)) := by
    rw [mW_ne _ _ _ _ (Ne.symm hql) (by omega)]
    exact set_eq _ _ _
  obtain ⟨sw', t3, t4⟩ := trimW (M := mW (mA M (w + 1) cap g) q (q + 1) capq h sq') (w := w) (a := w + 1) (cap := cap) (s := n) (v := V % D) (g := g) (by omega) hc hn hr hg
  refine ⟨mW (mW (mA M (w + 1) cap g) q (q + 1) capq h sq') w (w + 1) cap g sw', ?_, ⟨sw', g, t4⟩, ⟨sq', h, t2.of (mW_ne _ _ _ _ (by omega) hql) (mW_ne _ _ _ _ (by omega) (by omega))⟩, rfl, fun p h1 h2 h3 h4 => ?_⟩
  · have hz : iZ (-1) < 0 := by decide
    rw [hm, e_X5_divide_116, if_pos hz]
    have o1 : me_obj (mA (mA M (w + 1) cap g) (q + 1) capq h) 5 q = some [.ref (q + 1), sq] := by rw [mA_o hqq, mA_o hql]; exact hq
    simp only [o1, bS, l2, s21, z_p1]
    rw [mA_W]
    simp only [mW_o, bS, t1, cNn]
    have o2 : me_obj (mW (mA M (w + 1) cap g) q (q + 1) capq h sq') 5 x = some [ax, .int (iZ n)] := by
      rw [mo_of (mW_ne _ _ _ _ hxq hxqa), mA_o hxl]; exact hx
    have o3 : me_obj (mW (mA M (w + 1) cap g) q (q + 1) capq h sq') 5 w = some [.ref (w + 1), sw] := by
      rw [mo_of (mW_ne _ _ _ _ hwq hwqa), mA_o hwl]; exact hw
    simp only [o2, o3, bS, g1, vI, l2, s21]
    rw [e_X5_divide_208]
    have hm2 : me_set (mW (mA M (w + 1) cap g) q (q + 1) capq h sq') w (.inr (5, [.ref (w + 1), .int (iZ (n : Int))])) = mW (mW (mA M (w + 1) cap g) q (q + 1) capq h sq') w (w + 1) cap g n := by
      conv => rhs; unfold mW
      rw [show me_set (me_set (me_set (mA M (w + 1) cap g) (q + 1) (.inl (0, capq, .inl h))) q (.inr (5, [.ref (q + 1), .int (iZ (sq' : Int))]))) (w + 1) (.inl (0, cap, .inl g)) = mW (mA M (w + 1) cap g) q (q + 1) capq h sq' from set_self hN2]
    rw [hm2]
    simp only [mW_o, bS, t3, cNn, c00]
  · rw [mW_ne _ _ _ _ h1 h2, mW_ne _ _ _ _ h3 h4]
    exact set_ne h2
theorem divide_s {M : me_M} {w cap V x c D q capq v0 m : Nat} (hW : Wh M w cap V) (hX : Wh M x c D) (hQ : Wh M q capq v0) (hwx : w ≠ x) (hwq : w ≠ q) (hxq : x ≠ q) (hD : 0 < D) (hV : V < 2 ^ (31 * m)) (hm : m < cap) (hmq : m ≤ capq) :
    ∃ M' : me_M, f_X5_divide [.ref w, .ref x, .ref q] M = some (none, M') ∧ Wh M' w cap (V % D) ∧ Wh M' q capq (V / D) ∧ M'.1 = M.1 ∧ ∀ p, p ≠ w → p ≠ w + 1 → p ≠ q → p ≠ q + 1 → M'.2 p = M.2 p := by
  obtain ⟨s, f, hw⟩ := hW
  obtain ⟨n, fx, hx⟩ := hX
  obtain ⟨sq, fq, hq⟩ := hQ
  have hsm : s ≤ m := hw.2.2.2.2.1.le hV
  have hwl := oi_ne hw.1 hw.2.1
  have hql := oi_ne hq.1 hw.2.1
  have hqq := oi_ne hq.1 hq.2.1
  have hxl := oi_ne hx.1 hw.2.1
  have hwa := oi_ne hw.1 hx.2.1
  have hqa := oi_ne hq.1 hx.2.1
  have hwqa := oi_ne hw.1 hq.2.1
  have hxqa := oi_ne hx.1 hq.2.1
  have hn0 : 0 < n := by
    apply Nat.pos_of_ne_zero
    intro h
    subst h
    have := hx.2.2.2.2.1.z
    omega
  have hn := hx.sz
  have hcw := hw.2.2.2.1
  have hcq := hq.2.2.2.1
  generalize hM1 : me_set M q (.inr (5, [.ref (q + 1), .int 0])) = M1
  have hne : ∀ p, p ≠ q → M1.2 p = M.2 p := fun p hp => by rw [← hM1]; exact set_ne hp
  have hw1 := hw.of (M' := M1) (hne w hwq) (hne (w + 1) (Ne.symm hql))
  have hx1 := hx.of (M' := M1) (hne x hxq) (hne (x + 1) (Ne.symm hqa))
  have hq1 : me_obj M1 5 q = some [.ref (q + 1), .int 0] := by rw [← hM1]; exact mo_set _ _ _ _
  have hqi1 : me_int M1 0 (q + 1) = some (capq, fq) := by rw [mi_of (hne (q + 1) (Ne.symm hqq))]; exact hq.2.1
  have h11 : M1.1 = M.1 := by rw [← hM1]; rfl
  have hnz : ¬ iZ (n : Int) = 0 := by rw [z_0, iZ_eq (by omega) (by omega)]; omega
  rw [e_X5_divide]
  simp only [hq.1, bS, l2, s21, hM1, hx1.1, hw1.1, hq1, g1, vI]
  rw [if_neg hnz]
  by_cases hsn : n ≤ s
  · rw [if_pos ((iZ_le (by omega) (by omega)).mpr (by omega))]
    by_cases hn1 : n = 1
    · subst hn1
      rw [if_pos (show iZ ((1 : Nat) : Int) = 1 from rfl)]
      have hDd : D = dg 31 D 0 := by
        have := hx.2.2.2.2.1.1
        unfold dg
        rw [show (2 : Nat) ^ (31 * 0) = 1 from rfl, Nat.div_one]
        exact (Nat.mod_eq_of_lt this).symm
      have hDb : D < 2147483648 := hx.2.2.2.2.1.1
      have hfx : fx 0 = iZ (D : Int) := by
        have := hx.2.2.2.2.2 0 (by decide)
        rw [← hDd] at this
        exact this
      obtain ⟨c1, c2⟩ := copy_s hw1 hq1 hqi1 hcq (by omega)
      obtain ⟨s', g', c3, c4⟩ := shrink_s c2 hD hDb
      rw [c1]
      generalize hM2 : mW M1 q (q + 1) capq (va_cpy f fq 0 0 s) s = M2 at c2 c3 c4
      have hne2 : ∀ p, p ≠ q → p ≠ q + 1 → M2.2 p = M1.2 p := fun p h1 h2 => by rw [← hM2]; exact mW_ne _ _ _ _ h1 h2
      have h21 : M2.1 = M1.1 := by rw [← hM2]; rfl
      have hw2 := hw1.of (M' := M2) (hne2 w hwq hwqa) (hne2 (w + 1) (Ne.symm hql) (by omega))
      have hx2 := hx1.of (M' := M2) (hne2 x hxq hxqa) (hne2 (x + 1) (Ne.symm hqa) (by omega))
      have hcx := hx.2.2.1
      simp only [bS, cNn, hw2.1, hx2.1, hx2.2.1, g0, vR, cl0]
      rw [if_neg (nob n0 (by omega)), hfx, c2.1]
      simp only [bS, c3]
      generalize hM3 : mW M2 q (q + 1) capq g' s' = M3 at c4
      have hne3 : ∀ p, p ≠ q → p ≠ q + 1 → M3.2 p = M2.2 p := fun p h1 h2 => by rw [← hM3]; exact mW_ne _ _ _ _ h1 h2
      have h31 : M3.1 = M2.1 := by rw [← hM3]; rfl
      have hw3 := hw2.of (M' := M3) (hne3 w hwq hwqa) (hne3 (w + 1) (Ne.symm hql) (by omega))
      simp only [vI, vR, bS, hw3.2.1]
      rw [if_neg (nob n0 (by omega)), e_X5_divide_53]
      have hrb : V % D < 2 ^ (31 * 1) := Nat.lt_trans (Nat.mod_lt _ hD) hDb
      obtain ⟨s3, t1, t2⟩ := trimW (M := M3) (w := w) (a := w + 1) (cap := cap) (s := 1) (v := V % D) (g := upd f 0 (iZ ((V % D : Nat) : Int))) (by omega) hcw (by omega) hrb (fun j hj => by
        rw [show j = 0 by omega, upd_s]
        congr 2
        unfold dg
        rw [show (2 : Nat) ^ (31 * 0) = 1 from rfl, Nat.div_one]
        exact (Nat.mod_eq_of_lt hrb).symm)
      have ho : me_obj (me_set M3 (w + 1) (.inl (0, cap, .inl (upd f 0 (iZ ((V % D : Nat) : Int)))))) 5 w = some [.ref (w + 1), .int (iZ s)] := by rw [mo_ne _ _ _ _ _ (by omega)]; exact hw3.1
      simp only [ho, bS, l2, s21]
      rw [show me_set (me_set M3 (w + 1) (.inl (0, cap, .inl (upd f 0 (iZ ((V % D : Nat) : Int)))))) w (.inr (5, [.ref (w + 1), .int 1])) = mW M3 w (w + 1) cap (upd f 0 (iZ ((V % D : Nat) : Int))) 1 from rfl, mW_o]
      simp only [bS, t1, cNn, c00]
      refine ⟨_, rfl, ⟨_, _, t2⟩, ⟨s', g', c4.of (mW_ne _ _ _ _ (by omega) hql) (mW_ne _ _ _ _ (by omega) (by omega))⟩, ?_, fun p p1 p2 p3 p4 => ?_⟩
      · rw [mW_1]; omega
      · rw [mW_ne _ _ _ _ p1 p2, hne3 p p3 p4, hne2 p p3 p4, hne p p3]
    · rw [if_neg (by rw [z_1, iZ_eq (by omega) (by omega)]; omega)]
      have hfb := freeBits_s hx1 hn0
      have hSz := hx.2.2.2.2.1
      obtain ⟨_, htop⟩ := hSz.bl hn0
      have hbp := bl_pos (v := dg 31 D (n - 1)) (by omega)
      generalize hsh : 31 - bl (dg 31 D (n - 1)) = sh at hfb
      obtain ⟨e2, he2⟩ : ∃ e2 : Nat, e2 = if n - 1 = 1 then 0 else dg 31 D (n - 1 - 2) := ⟨_, rfl⟩
      have he2b : e2 < 2147483648 := by
        rw [he2]
        split
        · decide
        · exact dg_31 _ _
      have hL2 : Lm M1 x ((n - 1 : Nat) - 2 : Int) e2 := by
        by_cases h2 : n - 1 = 1
        · rw [he2, if_pos h2]
          exact Lm_neg (by omega) (by omega)
        · rw [he2, if_neg h2, show ((n - 1 : Nat) - 2 : Int) = ((n - 1 - 2 : Nat) : Int) by omega]
          exact Lm_of hx1 (by omega)
      have hL1 : Lm M1 x ((n - 1 : Nat) - 1 : Int) (dg 31 D (n - 1 - 1)) := by
        rw [show ((n - 1 : Nat) - 1 : Int) = ((n - 1 - 1 : Nat) : Int) by omega]
        exact Lm_of hx1 (by omega)
      have htl := twoLimbs_s (i := ((n - 1 : Nat) : Int)) (sh := sh) hx1.1 (Lm_of hx1 (by omega)) hL1 hL2 (by omega) (dg_31 _ _) he2b
      have en : iZ (n : Int) - 1 = iZ ((n - 1 : Nat) : Int) := by rw [z_1, iZ_sub]; congr 1; omega
      have es : iZ (s : Int) - iZ (n : Int) = iZ ((s - n : Nat) : Int) := by rw [iZ_sub]; congr 1; omega
      simp only [hfb, bS, vI, vL, hx1.1, g1, en, es, htl]
      obtain ⟨d1, hd1⟩ : ∃ d1 : Nat, d1 = tl (dg 31 D (n - 1)) (dg 31 D (n - 1 - 1)) e2 sh / 2147483648 := ⟨_, rfl⟩
      obtain ⟨d2, hd2⟩ : ∃ d2 : Nat, d2 = tl (dg 31 D (n - 1)) (dg 31 D (n - 1 - 1)) e2 sh % 2147483648 := ⟨_, rfl⟩
      have hhead : tl (dg 31 D (n - 1)) (dg 31 D (n - 1 - 1)) e2 sh = d1 * 2147483648 + d2 := by
        rw [hd1, hd2, Nat.mul_comm]
        exact (Nat.div_add_mod _ _).symm
      rw [hhead, e_X5_divide_91]
      have hcl := iZ_clampN (n := s) (by omega)
      have hns0 := iZ_n0 (n := s) (by omega)
      simp only [hw1.1, hw1.2.1, bS, g0, g1, vI, vR, hcl]
      rw [if_neg (nob hns0 (by omega)), mo_ne _ _ _ _ _ hwl, hw1.1]
      simp only [bS, g1, vI, l2, s21, z_p1]
      rw [set_comm _ (Ne.symm hwl)]
      generalize hMb : me_set M1 w (.inr (5, [.ref (w + 1), .int (iZ ((s + 1 : Nat) : Int))])) = Mb
      have hneb : ∀ p, p ≠ w → Mb.2 p = M1.2 p := fun p h1 => by rw [← hMb]; exact set_ne h1
      have hwb : me_obj Mb 5 w = some [.ref (w + 1), .int (iZ ((s + 1 : Nat) : Int))] := by rw [← hMb]; exact mo_set _ _ _ _
      have hlb : me_int Mb 0 (w + 1) = some (cap, f) := by rw [mi_of (hneb (w + 1) (Ne.symm hwl))]; exact hw1.2.1
      have hxb := hx1.of (M' := Mb) (hneb x (Ne.symm hwx)) (hneb (x + 1) (Ne.symm hwa))
      have hqb : me_obj Mb 5 q = some [.ref (q + 1), .int 0] := by rw [mo_of (hneb q (Ne.symm hwq))]; exact hq1
      have hqib : me_int Mb 0 (q + 1) = some (capq, fq) := by rw [mi_of (hneb (q + 1) (Ne.symm hwqa))]; exact hqi1
      have hb1 : Mb.1 = M1.1 := by rw [← hMb]; rfl
      have hVs := hw.2.2.2.2.1.1
      have hDn : 2 ^ (31 * (n - 1)) ≤ D := by
        rcases hSz.2 with h | h
        · omega
        · exact h
      have hVt : V / 2 ^ (31 * (s - n + 1)) < 2 ^ (31 * (n - 1)) := by
        rw [Nat.div_lt_iff_lt_mul (Nat.two_pow_pos _), ← Nat.pow_add, show 31 * (n - 1) + 31 * (s - n + 1) = 31 * s by omega]
        exact hVs
      obtain ⟨g', h', l1, l2', l3⟩ := div_loop (V := V) (q := q) (capq := capq) (fq := fq) hwb hlb hcw (by omega) hxb (by omega) hsn hqb hqib hcq (by omega) (by omega) (by omega) (by omega) hsh.symm he2 hd1 hd2 (s - n + 1) (upd f s 0) fq (Nat.le_refl _)
        (fun j hj => by rw [upd_n _ _ (by omega)]; exact hw.2.2.2.2.2 j (by omega))
        (fun j hj => by
          rw [Nat.mod_eq_of_lt (Nat.lt_of_lt_of_le hVt hDn), dg_dv]
          by_cases hj2 : s - n + 1 + j = s
          · rw [hj2, upd_s, dg_zero hVs]; rfl
          · rw [upd_n _ _ hj2]; exact hw.2.2.2.2.2 _ (by omega))
        (fun j h1 h2 => by omega)
      rw [mA_self hqib, show ((s - n + 1 : Nat) : Int) - 1 = ((s - n : Nat) : Int) by omega] at l1
      obtain ⟨M', r1, r2, r3, r4, r5⟩ := div_end (V := V) (D := D) (s := s) (n := n) (g := g') (h := h') (x4 := iZ sh) (x5 := lZ ((d1 * 2147483648 + d2 : Nat) : Int)) hwb hlb hcw hqb hqib hcq hwq hxb.1 hxq (by omega) (by omega) (Nat.lt_trans (Nat.mod_lt _ hD) hSz.1) (div_b hVs hDn hsn hn0) l2' l3
      refine ⟨M', l1.trans r1, r2, r3, by omega, fun p p1 p2 p3 p4 => ?_⟩
      rw [r5 p p1 p2 p3 p4, hneb p p1, hne p p3]
  · rw [if_neg (by rw [iZ_le (by omega) (by omega)]; omega)]
    have hlt : V < D := Sz.lt hw.2.2.2.2.1 hx.2.2.2.2.1 (by omega)
    rw [Nat.mod_eq_of_lt hlt, Nat.div_eq_of_lt hlt]
    refine ⟨M1, c00, ⟨s, f, hw1⟩, ⟨0, fq, hq1, hqi1, Nat.zero_le _, hcq, ⟨by decide, Or.inl rfl⟩, fun j hj => by omega⟩, h11, fun p _ _ p3 _ => hne p p3⟩
