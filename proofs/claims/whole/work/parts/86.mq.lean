/-! the reference: row, dot, scale -/
theorem MG.sz {M : me_M} {B : Nat} {th : Int32} {s : Sx} {reg : Nat → Nat} {sg : Nat → Int} {S : Sto} {sz wf : Nat → Int32} {sz' : Nat → Int32} (h : MG M B th s reg sg S sz wf) (he : ∀ r, r < sR s → sz' r = sz r) : MG (me_set M (B + 9) (.inl (0, 20, .inl sz'))) B th s reg sg S sz' wf := by
  obtain ⟨ff, hf⟩ := h.i11
  obtain ⟨S4, S5, S6, S7, S8⟩ := h.st
  obtain ⟨⟨rf, nf, ⟨⟨t, tl, h0⟩, h1, h2'⟩, hR⟩, sf, t1, t2⟩ := h.ms
  refine ⟨⟨⟨rf, nf, ⟨⟨t, tl, (mo_ne _ _ _ _ _ (by omega)).trans h0⟩, (mi_ne _ _ _ _ _ (by omega)).trans h1, (mi_ne _ _ _ _ _ (by omega)).trans h2'⟩, hR⟩, sf, (mi_ne _ _ _ _ _ (by omega)).trans t1, t2⟩, (mo_ne _ _ _ _ _ (by omega)).trans h.o, ⟨(mi_ne _ _ _ _ _ (by omega)).trans S4, (mi_ne _ _ _ _ _ (by omega)).trans S5, (mi_ne _ _ _ _ _ (by omega)).trans S6, (mi_ne _ _ _ _ _ (by omega)).trans S7, (mi_ne _ _ _ _ _ (by omega)).trans S8⟩, mi_set _ _ _ _ _, (mi_ne _ _ _ _ _ (by omega)).trans h.i10, ⟨ff, (mi_ne _ _ _ _ _ (by omega)).trans hf⟩, h.r18, h.n, h.m, h.V, fun r hr => ?_, h.T, h.C⟩
  obtain ⟨a, b, c, d⟩ := h.R r hr
  exact ⟨a, b, (he r hr).trans c, d⟩
theorem zero_n {M : me_M} {B x : Nat} {reg : Nat → Nat} {nf : Nat → Int32} (h : RG M B reg) (hn : me_int M 0 (B + 2) = some (19, nf)) : RG (me_set M (B + 2) (.inl (0, 19, .inl (upd nf x 0)))) B (up reg x 0) ∧ FM M (me_set M (B + 2) (.inl (0, 19, .inl (upd nf x 0)))) B := by
  obtain ⟨rf, nf', hL, hR⟩ := h
  have e : nf' = nf := by
    have := hL.2.2.symm.trans hn
    injection this with this
    injection this
  subst e
  refine ⟨⟨rf, _, hL.n _, fun y hy => ?_⟩, FM.n⟩
  by_cases k : y = x
  · subst k
    rw [up_s]
    exact ⟨0, upd_s _ _ _, by omega, ⟨by rw [Nat.mul_zero, Nat.pow_zero]; omega, Or.inl rfl⟩, fun j hj => absurd hj (by omega)⟩
  · rw [up_n _ _ k]
    exact (hR y hy).o k (Ot.refl _ _) (upd_n _ _ k)
theorem least_0 {M : me_M} {B f : Nat} {reg : Nat → Nat} {sg : Nat → Int} (h : MS M B reg sg) (hf : f < 4) (h0' : reg (2 * f) = 0) : ∃ M' : me_M, f_X7_least [.ref B, .int (iZ f)] M = some (some (.int 1), M') ∧ MS M' B (up reg (2 * f + 1) 1) (us sg f 0) ∧ FS M M' B := by
  obtain ⟨hR, sf, s3, hsf⟩ := h
  obtain ⟨t, tl, nf, s, h0, h2', hn, hs1, hs0⟩ := hR.n (x := 2 * f) (by omega)
  have c2 := iZ_clampN (n := 2 * f) (by omega)
  have cf := iZ_clampN (n := f) (by omega)
  have hm := MS.sg (f := f) (v := 0) hR hsf
  obtain ⟨M', f1, P, F⟩ := put_g (x := 2 * f + 1) (U := 1) hm.1 (by omega) (by omega)
  have f1' : f_X7_put [.ref B, .int (iZ ((2 * f + 1 : Nat) : Int)), .long (1 : Int64)] (me_set M (B + 3) (.inl (0, 4, .inl (upd sf f (0 : Int32))))) = _ := f1
  refine ⟨M', ?_, hm.fm F P, FS.s3.trans F.fs⟩
  rw [e_X7_least]
  simp only [h0, bS, g2, g3, vF, h2', s3, z2, z_p1, c2, cf, hn]
  rw [if_neg (nob (iZ_n0 (by omega)) (by omega)), if_neg (nob (iZ_n0 (by omega)) (by omega)), if_pos (by rw [hs0.mpr h0']; rfl), f1']
  have oB : me_obj (me_set M (B + 3) (.inl (0, 4, .inl (upd sf f (0 : Int32))))) 7 B = some (t :: .ref (B + 1) :: .ref (B + 2) :: .ref (B + 3) :: tl) := (mo_ne _ _ _ _ _ (by omega)).trans h0
  simp only [oB, bS, cNn]
  exact cT1.trans c00
theorem row_56 {B n : Nat} {th : Int32} {s : Sx} {sz wf : Nat → Int32} (hr : sR s < 20) (h1 : 1 ≤ n) (hn : n ≤ 10) (hsz : sz (sR s) = iZ n) : ∀ (d k : Nat) (M : me_M) (reg : Nat → Nat) (sg : Nat → Int) (S : Sto), d + k = n → MG M B th s reg sg S sz wf → Fq reg sg 0 (0, 0, 1) → (∀ j, j < k → Kq S (240 + 10 * sR s + j) (0, 0, 1)) →
    Am M B (sm T_X7_row (56, [(0, .ref B), (1, .int (iZ n)), (3, .int (iZ k))], [], M, 0, 0)) th (iZ (sR s), nR s n) := by
  intro d
  induction d with
  | zero =>
    intro k M reg sg S hd h hq hk
    have e : k = n := by omega
    subst e
    have m1 := h.so (th' := th) (s' := nR s k) h.n (by show sR s + 1 ≤ 20; omega) h.V (fun r hr' => by
      have hr2 : r < sR s + 1 := hr'
      show RM S sz r (if r = sR s then k else sL s r) (if r = sR s then (fun _ => (0, 0, 1)) else sP s r)
      by_cases e : r = sR s
      · rw [if_pos e, if_pos e, e]
        exact ⟨h1, hn, hsz, fun j hj => hk j hj⟩
      · rw [if_neg e, if_neg e]
        exact h.R r (by omega)) h.T h.C
    refine ⟨_, ?_, ⟨reg, sg, S, sz, wf, m1⟩, FB.set (by omega)⟩
    rw [e_X7_row_56, if_pos (Int32.le_refl _)]
    simp only [h.o, bS, mf10, vI, ml10, mt10, mo_set, z_p1]
    refine c00.trans ?_
    rw [z_1, iZ_sub, show ((sR s + 1 : Nat) : Int) - 1 = (sR s : Int) by omega]
    rfl
  | succ d ih =>
    intro k M reg sg S hd h hq hk
    obtain ⟨M1, S1, f1, c1⟩ := save_r (f := 0) (v := 240 + 10 * sR s + k) h (by omega) (by omega) hq ⟨zero_lt512, one_lt512⟩ Nf.zero
    have f1' : f_X7_save [.ref B, .int (iZ ((240 + 10 * sR s + k : Nat) : Int)), .int (0 : Int32)] M = _ := f1
    have hn' := h.n
    have m1 : MG M1 B th s reg sg S1 sz wf := c1.2.2.2 s rfl rfl rfl rfl (fun i hi => c1.2.2.1 i _ (by omega) (h.V i hi)) (fun r hr' => by
      obtain ⟨a, b, c, d'⟩ := h.R r hr'
      exact ⟨a, b, c, fun j hj => c1.2.2.1 _ _ (by omega) (d' j hj)⟩) h.C
    rw [e_X7_row_56, if_neg (by rw [iZ_le (by omega) (by omega)]; omega)]
    simp only [h.o, bS, mf10, place_g, vI, f1', cNn]
    rw [z_p1]
    refine Am.trans c1.1 (ih (k + 1) M1 reg sg S1 (by omega) m1 hq (fun j hj => ?_))
    by_cases e : j = k
    · subst e; exact c1.2.1
    · exact c1.2.2.1 _ _ (by omega) (hk j (by omega))
theorem rowM_g {M : me_M} {B : Nat} {th : Int32} {s : Sx} {x : Int32} (h : MF M B th s) : Am M B (f_X7_row [.ref B, .int x] M) 0 (tRo s x) := by
  obtain ⟨X, e, b1, b2, t⟩ := i_rep x
  obtain ⟨reg, sg, S, sz, wf, h⟩ := h
  have hn := h.n
  have hm := h.m
  have m := h.th (th' := 0)
  have F : FB M (me_set M B (.inr (7, mfo B 0 s))) B := FB.set (by omega)
  rw [e_X7_row]
  simp only [h.o, bS, ml0, mt0]
  obtain ⟨N, hN⟩ : ∃ N, N = me_set M B (.inr (7, mfo B 0 s)) := ⟨_, rfl⟩
  have hN' : N = me_set M B (.inr (7, [.int 0, .ref (B + 1), .ref (B + 2), .ref (B + 3), .ref (B + 4), .ref (B + 5), .ref (B + 6), .ref (B + 7), .ref (B + 8), .int (iZ (sN s)), .int (iZ (sR s)), .ref (B + 9), .int (iZ (sW s)), .ref (B + 10), .int (iZ (sT s)), .ref (B + 11)])) := hN
  rw [← hN] at m F
  rw [← hN']
  refine Am.trans F ?_
  by_cases h1 : X < 1
  · rw [if_pos (by rw [e, z_1, iZ_lt (by omega) (by omega)]; exact h1), c00, show tRo s x = (-2, s) from if_neg (by omega)]
    exact Am.val ⟨reg, sg, S, sz, wf, m⟩
  · rw [if_neg (by rw [e, z_1, iZ_lt (by omega) (by omega)]; exact h1)]
    by_cases h2' : X ≤ 10
    · rw [if_pos (by rw [e, show (10 : Int32) = iZ 10 from rfl, iZ_le (by omega) (by omega)]; exact h2'), show tRo s x = if sR s = 20 then (-3, s) else (iZ (sR s), nR s x.toNatClampNeg) from if_pos (by omega)]
      simp only [m.o, bS, mf10, mf11, vI, vF, m.i9]
      by_cases hr : sR s = 20
      · rw [if_pos (by rw [hr]; rfl), c00, if_pos hr]
        exact Am.val ⟨reg, sg, S, sz, wf, m⟩
      · rw [if_neg (by rw [show (20 : Int32) = iZ 20 from rfl, iZ_eq (by omega) (by omega)]; omega), if_neg hr, iZ_clampN (by omega : sR s < 2147483648), if_neg (nob (iZ_n0 (by omega)) (by omega))]
        obtain ⟨n, n1, n2, n3⟩ := isV.ix (n := 11) (x := x) (by constructor <;> omega) (by omega)
        have n4 : 1 ≤ n := by
          have e9 : iZ (n : Int) = iZ X := n2.symm.trans e
          rw [iZ_eq (by omega) (by omega)] at e9
          omega
        have m2 := m.sz (sz' := upd sz (sR s) (iZ n)) (fun r hr' => upd_n _ _ (by omega))
        have F2 : FB N (me_set N (B + 9) (.inl (0, 20, .inl (upd sz (sR s) (iZ n))))) B := FB.set (by omega)
        rw [n3, n2]
        obtain ⟨N2, hN2⟩ : ∃ N2, N2 = me_set N (B + 9) (.inl (0, 20, .inl (upd sz (sR s) (iZ n)))) := ⟨_, rfl⟩
        rw [← hN2] at m2 F2 ⊢
        obtain ⟨rf, nf, hL, hR⟩ := m2.ms.1
        obtain ⟨P3, F3⟩ := zero_n (x := 0) m2.ms.1 hL.2.2
        have m3 := m2.fs F3.fs (m2.ms.fm F3 P3) (by rw [up_n _ _ (by omega)]; exact m2.r18)
        obtain ⟨M4, f4, ms4, F4⟩ := least_0 (f := 0) m3.ms (by omega) (up_s _ _ _)
        have f4' : f_X7_least [.ref B, .int (0 : Int32)] (me_set N2 (B + 2) (.inl (0, 19, .inl (upd nf 0 0)))) = _ := f4
        have m4 := m3.fs F4 ms4 (by rw [up_n _ _ (by omega)]; exact m3.r18)
        simp only [m2.o, bS, mf2, vF, hL.2.2, cl0]
        rw [if_neg (nob n0 (by omega)), m3.i0, f4']
        simp only [bS, vI]
        rw [e_X7_row_53]
        refine Am.trans ((F2.trans F3.fs.fb).trans F4.fb) ?_
        exact row_56 (by omega) n4 (by omega) (upd_s _ _ _) n 0 M4 _ _ S (by omega) m4 ⟨us_s _ _ _, by rw [up_n _ _ (by omega), up_s], up_s _ _ _⟩ (fun j hj => absurd hj (by omega))
    · rw [if_neg (by rw [e, show (10 : Int32) = iZ 10 from rfl, iZ_le (by omega) (by omega)]; exact h2'), c00, show tRo s x = (-2, s) from if_neg (by omega)]
      exact Am.val ⟨reg, sg, S, sz, wf, m⟩
theorem move_mg {M : me_M} {B x y : Nat} {th : Int32} {s : Sx} {reg : Nat → Nat} {sg : Nat → Int} {S : Sto} {sz wf : Nat → Int32} {q : Qn} (h : MG M B th s reg sg S sz wf) (hx : x < 4) (hy : y < 4) (hxy : x ≠ y) (hq : Fq reg sg y q) :
    ∃ M' : me_M, f_X7_move [.ref B, .int (iZ x), .int (iZ y)] M = some (none, M') ∧ MG M' B th s (up (up reg (2 * x) q.2.1) (2 * x + 1) q.2.2) (us sg x q.1) S sz wf ∧ FS M M' B := by
  obtain ⟨M', f, ms, F⟩ := move_g h.ms hx hy hxy
  rw [hq.2.1, hq.2.2, hq.1] at ms
  exact ⟨M', f, h.fs F ms (by rw [up_n _ _ (by omega), up_n _ _ (by omega)]; exact h.r18), F⟩
theorem fi_n {q : Qn} (h : ¬ Fits q) : fi q = 0 := if_neg h
theorem dot_121 {M : me_M} {B : Nat} {th : Int32} {s : Sx} {reg : Nat → Nat} {sg : Nat → Int} {S : Sto} {sz wf : Nat → Int32} {t : Qn} (h : MG M B th s reg sg S sz wf) (hN : sN s < 240) (hq : Fq reg sg 3 t) (nt : Nf t) : Am M B (sm T_X7_dot (121, [(0, .ref B), (3, .int (fi t))], [], M, 0, 0)) th (kp s t) := by
  obtain ⟨M1, f1, m1, F1⟩ := move_mg (x := 0) (y := 3) h (by omega) (by omega) (by omega) hq
  have f1' : f_X7_move [.ref B, .int (0 : Int32), .int (3 : Int32)] M = _ := f1
  rw [e_X7_dot_121, h.i0, f1']
  simp only [bS, cNn]
  rw [m1.i0]
  exact Am.trans F1.fb (comes_g m1 hN (Fq.ld _ _ 0 _) nt).ret
theorem dot_121z {M : me_M} {B : Nat} {th : Int32} {s : Sx} {reg : Nat → Nat} {sg : Nat → Int} {S : Sto} {sz wf : Nat → Int32} {t : Qn} (h : MG M B th s reg sg S sz wf) (hq : Fq reg sg 3 t) : Am M B (sm T_X7_dot (121, [(0, .ref B), (3, .int (0 : Int32))], [], M, 0, 0)) th (-4, wd s) := by
  obtain ⟨M1, f1, m1, F1⟩ := move_mg (x := 0) (y := 3) h (by omega) (by omega) (by omega) hq
  have f1' : f_X7_move [.ref B, .int (0 : Int32), .int (3 : Int32)] M = _ := f1
  rw [e_X7_dot_121, h.i0, f1']
  simp only [bS, cNn]
  rw [m1.i0, e_X7_comes, if_pos rfl, m1.i0]
  exact Am.trans F1.fb (wideM_s ⟨_, _, _, _, _, m1⟩).ret.ret
theorem Kq.at {M : me_M} {B r k : Nat} {th : Int32} {s : Sx} {reg : Nat → Nat} {sg : Nat → Int} {S : Sto} {sz wf : Nat → Int32} (h : MG M B th s reg sg S sz wf) (hr : r < sR s) (hk : k < sL s r) : Kq S (240 + 10 * r + k) (sP s r k) ∧ 240 + 10 * r + k < 440 ∧ sz r = iZ (sL s r) ∧ sL s r ≤ 10 ∧ r < 20 := by
  obtain ⟨a, b, c, d⟩ := h.R r hr
  have := h.m
  exact ⟨d k hk, by omega, c, b, by omega⟩
theorem dotM_l {B r r' : Nat} {th : Int32} {s : Sx} {S : Sto} {sz wf : Nat → Int32} (hr : r < sR s) (hr' : r' < sR s) (he : sL s r = sL s r') (hN : sN s < 240) : ∀ (d k : Nat) (M : me_M) (reg : Nat → Nat) (sg : Nat → Int) (t : Qn) (fl : Int32), d + k = sL s r → MG M B th s reg sg S sz wf → Fq reg sg 3 t → ((fl = 1 ∧ dotN (sP s r) (sP s r') k = some t ∧ Nf t ∧ Fits t) ∨ (fl = 0 ∧ dotN (sP s r) (sP s r') k = none)) →
    Am M B (sm T_X7_dot (47, [(0, .ref B), (1, .int (iZ r)), (2, .int (iZ r')), (3, .int fl), (4, .int (iZ k))], [], M, 0, 0)) th (kpo s (dotN (sP s r) (sP s r') (sL s r))) := by
  intro d
  induction d with
  | zero =>
    intro k M reg sg t fl hd h hq hst
    obtain ⟨a1, a2, a3, a4⟩ := h.R r hr
    have hm := h.m
    have e : k = sL s r := by omega
    rw [e_X7_dot_47]
    simp only [h.o, bS, mf11, vF, h.i9]
    rw [iZ_clampN (by omega), if_neg (nob (iZ_n0 (by omega)) (by omega))]
    simp only [a3]
    rw [if_pos (by rw [iZ_le (by omega) (by omega)]; omega), ← e]
    rcases hst with ⟨f1, f2, f3, f4⟩ | ⟨f1, f2⟩
    · have := dot_121 h hN hq f3
      rw [fi_p f4] at this
      rw [f1, f2]
      exact this
    · rw [f1, f2]
      exact dot_121z h hq
  | succ d ih =>
    intro k M reg sg t fl hd h hq hst
    obtain ⟨a1, a2, a3, a4⟩ := h.R r hr
    have hm := h.m
    rw [e_X7_dot_47]
    simp only [h.o, bS, mf11, vF, h.i9]
    rw [iZ_clampN (by omega), if_neg (nob (iZ_n0 (by omega)) (by omega))]
    simp only [a3]
    rw [if_neg (by rw [iZ_le (by omega) (by omega)]; omega)]
    rcases hst with ⟨f1, f2, f3, f4⟩ | ⟨f1, f2⟩
    · rw [if_neg (by rw [f1]; exact i10), place_g]
      obtain ⟨Ka, la, _⟩ := Kq.at h hr (show k < sL s r by omega)
      obtain ⟨Kb, lb, _⟩ := Kq.at h hr' (show k < sL s r' by omega)
      obtain ⟨M1, l1, m1, F1⟩ := load_mg (f := 1) (v := 240 + 10 * r + k) h (by omega) (by omega) Ka
      obtain ⟨M2, l2, m2, F2⟩ := load_mg (f := 2) (v := 240 + 10 * r' + k) m1 (by omega) (by omega) Kb
      have l1' : f_X7_load [.ref B, .int (1 : Int32), .int (iZ ((240 + 10 * r + k : Nat) : Int))] M = _ := l1
      have l2' : f_X7_load [.ref B, .int (2 : Int32), .int (iZ ((240 + 10 * r' + k : Nat) : Int))] M1 = _ := l2
      have qx := (Fq.ld reg sg 1 (sP s r k)).ne (f := 2) (a := (sP s r' k).2.1) (b := (sP s r' k).2.2) (c := (sP s r' k).1) (by omega)
      have qy := Fq.ld (up (up reg (2 * 1) (sP s r k).2.1) (2 * 1 + 1) (sP s r k).2.2) (us sg 1 (sP s r k).1) 2 (sP s r' k)
      have q3 := (hq.ne (f := 1) (a := (sP s r k).2.1) (b := (sP s r k).2.2) (c := (sP s r k).1) (by omega)).ne (f := 2) (a := (sP s r' k).2.1) (b := (sP s r' k).2.2) (c := (sP s r' k).1) (by omega)
      obtain ⟨M3, reg3, sg3, p3, L3⟩ := product_g m2.ms (by omega) (by omega) (by omega) (by omega) m2.r18 qx qy Ka.1 Kb.1 Ka.2.1 Kb.2.1
      have p3' : f_X7_product [.ref B, .int (1 : Int32), .int (2 : Int32)] M2 = _ := p3
      have m3 := m2.lq (by omega) L3
      have q3' := q3.lq L3 (by omega) (by omega)
      have es : dotN (sP s r) (sP s r') (k + 1) = (fq (qMul (sP s r k) (sP s r' k))).bind fun p => fq (qSum t p p.1) := by
        show (dotN _ _ k).bind _ = _
        rw [f2, bS]
      have F13 := (F1.trans F2).trans L3.2.1
      simp only [bS, vI]
      rw [h.i0, l1']
      simp only [bS, cNn, place_g, vI]
      rw [m1.i0, l2']
      simp only [bS, cNn]
      rw [e_X7_dot_84, m2.i0, p3']
      simp only [bS, vI]
      by_cases hf : Fits (qMul (sP s r k) (sP s r' k))
      · have np := qMul_nf Ka.1 Kb.1
        rw [fi_p hf, if_neg i10]
        obtain ⟨M4, v4, m4, F4⟩ := move_mg (x := 1) (y := 0) m3 (by omega) (by omega) (by omega) L3.2.2.1
        have v4' : f_X7_move [.ref B, .int (1 : Int32), .int (0 : Int32)] M3 = _ := v4
        obtain ⟨M5, reg5, sg5, p5, L5⟩ := sum_g (x := 3) (y := 1) (w := 0) m4.ms (by omega) (by omega) (by omega) (by omega) m4.r18 (q3'.ne (by omega)) (Fq.ld _ _ 1 _) f3 np f4 hf (Or.inl ⟨rfl, rfl⟩)
        have p5' : f_X7_sum [.ref B, .int (3 : Int32), .int (1 : Int32), .int (0 : Int32)] M4 = _ := p5
        have m5 := m4.lq (by omega) L5
        obtain ⟨M6, v6, m6, F6⟩ := move_mg (x := 3) (y := 0) m5 (by omega) (by omega) (by omega) L5.2.2.1
        have v6' : f_X7_move [.ref B, .int (3 : Int32), .int (0 : Int32)] M5 = _ := v6
        rw [m3.i0, v4']
        simp only [bS, cNn]
        rw [m4.i0, p5']
        simp only [bS, vI]
        rw [m5.i0, v6']
        simp only [bS, cNn]
        rw [e_X7_dot_115, z_p1]
        refine Am.trans (((F13.trans F4).trans L5.2.1).trans F6).fb (ih (k + 1) M6 _ _ (qSum t (qMul (sP s r k) (sP s r' k)) (qMul (sP s r k) (sP s r' k)).1) _ (by omega) m6 (Fq.ld _ _ 3 _) ?_)
        rw [es, fq_p hf, bS]
        by_cases hf2 : Fits (qSum t (qMul (sP s r k) (sP s r' k)) (qMul (sP s r k) (sP s r' k)).1)
        · exact Or.inl ⟨fi_p hf2, fq_p hf2, qSum_nf f3 np, hf2⟩
        · exact Or.inr ⟨fi_n hf2, fq_n hf2⟩
      · rw [fi_n hf, if_pos rfl, e_X7_dot_115, z_p1]
        refine Am.trans F13.fb (ih (k + 1) M3 reg3 sg3 t 0 (by omega) m3 q3' (Or.inr ⟨rfl, ?_⟩))
        rw [es, fq_n hf]
        rfl
    · rw [if_pos f1, f1, dotN_none f2 (by omega)]
      exact dot_121z h hq
theorem dotM_g {M : me_M} {B : Nat} {th : Int32} {s : Sx} {x y : Int32} (h : MF M B th s) : Am M B (f_X7_dot [.ref B, .int x, .int y] M) 0 (tDo s x y) := by
  obtain ⟨reg, sg, S, sz, wf, h⟩ := h
  have hn := h.n
  have hm := h.m
  have m := h.th (th' := 0)
  have F : FB M (me_set M B (.inr (7, mfo B 0 s))) B := FB.set (by omega)
  rw [e_X7_dot]
  simp only [h.o, bS, ml0, mt0]
  obtain ⟨N, hN⟩ : ∃ N, N = me_set M B (.inr (7, mfo B 0 s)) := ⟨_, rfl⟩
  have hN' : N = me_set M B (.inr (7, [.int 0, .ref (B + 1), .ref (B + 2), .ref (B + 3), .ref (B + 4), .ref (B + 5), .ref (B + 6), .ref (B + 7), .ref (B + 8), .int (iZ (sN s)), .int (iZ (sR s)), .ref (B + 9), .int (iZ (sW s)), .ref (B + 10), .int (iZ (sT s)), .ref (B + 11)])) := hN
  rw [← hN] at m F
  rw [← hN']
  simp only [m.o, bS, areAlongM_s m, vI, mf9]
  refine Am.trans F ?_
  by_cases hk : isA s x y
  · rw [if_pos hk, if_neg i10, show tDo s x y = if sN s = 240 then (-3, s) else kpo s (dotN (sP s x.toNatClampNeg) (sP s y.toNatClampNeg) (sL s x.toNatClampNeg)) from if_pos hk]
    by_cases hf : sN s = 240
    · rw [if_pos (by rw [hf]; rfl), c00, if_pos hf]
      exact Am.val ⟨reg, sg, S, sz, wf, m⟩
    · rw [if_neg (by rw [show (240 : Int32) = iZ 240 from rfl, iZ_eq (by omega) (by omega)]; omega), if_neg hf]
      obtain ⟨r, r1, r2, r3⟩ := hk.1.ix (by omega)
      obtain ⟨r', r1', r2', r3'⟩ := hk.2.1.ix (by omega)
      have he := hk.2.2
      rw [r3, r3'] at he
      obtain ⟨rf, nf, hL, hR⟩ := m.ms.1
      obtain ⟨P3, F3⟩ := zero_n (x := 6) m.ms.1 hL.2.2
      have m3 := m.fs F3.fs (m.ms.fm F3 P3) (by rw [up_n _ _ (by omega)]; exact m.r18)
      obtain ⟨M4, f4, ms4, F4⟩ := least_0 (f := 3) m3.ms (by omega) (up_s _ _ _)
      have f4' : f_X7_least [.ref B, .int (3 : Int32)] (me_set N (B + 2) (.inl (0, 19, .inl (upd nf 6 0)))) = _ := f4
      have m4 := m3.fs F4 ms4 (by rw [up_n _ _ (by omega)]; exact m3.r18)
      have c6 : (6 : Int32).toNatClampNeg = 6 := rfl
      simp only [mf2, bS, vF, hL.2.2, c6]
      rw [if_neg (nob (by decide) (by omega)), m3.i0, f4']
      simp only [bS, vI]
      rw [e_X7_dot_43, r3, r3', r2, r2']
      refine Am.trans (F3.fs.trans F4).fb ?_
      exact dotM_l r1 r1' he (by omega) (sL s r) 0 M4 _ _ (0, 0, 1) 1 (by omega) m4 ⟨us_s _ _ _, by rw [up_n _ _ (by omega), up_s], up_s _ _ _⟩ (Or.inl ⟨rfl, rfl, Nf.zero, zero_lt512, one_lt512⟩)
  · rw [if_neg hk, if_pos rfl, c00, show tDo s x y = (-2, s) from if_neg hk]
    exact Am.val ⟨reg, sg, S, sz, wf, m⟩
theorem scaleM_l {B r : Nat} {th : Int32} {s : Sx} {sz wf : Nat → Int32} {t : Qn} (hr : r < sR s) (nt : Nf t) (ft : Fits t) : ∀ (d k : Nat) (M : me_M) (reg : Nat → Nat) (sg : Nat → Int) (S : Sto), d + k = sL s r → MG M B th s reg sg S sz wf → Fq reg sg 2 t → (∀ j, j < k → Kq S (440 + j) (qMul (sP s r j) t)) →
    Am M B (sm T_X7_scale (47, [(0, .ref B), (1, .int (iZ r)), (3, .int (1 : Int32)), (4, .int (iZ k))], [], M, 0, 0)) th (rAct s r (fun i => fq (qMul (sP s r i) t))) := by
  intro d
  induction d with
  | zero =>
    intro k M reg sg S hd h hq hk
    obtain ⟨a1, a2, a3, a4⟩ := h.R r hr
    have hm := h.m
    have e : k = sL s r := by omega
    subst e
    rw [e_X7_scale_47]
    simp only [h.o, bS, mf11, vF, h.i9]
    rw [iZ_clampN (by omega), if_neg (nob (iZ_n0 (by omega)) (by omega))]
    simp only [a3]
    rw [if_pos (by rw [iZ_le (by omega) (by omega)]; omega), e_X7_scale_101, h.i0, rAct_p (fun i hi => by rw [fq_p (hk i hi).2.1]; rfl)]
    refine (becomes_p h hr (fun j hj => ?_)).ret
    show Kq S (440 + j) ((fq (qMul (sP s r j) t)).getD (0, 0, 1))
    rw [fq_p (hk j hj).2.1]
    exact hk j hj
  | succ d ih =>
    intro k M reg sg S hd h hq hk
    obtain ⟨a1, a2, a3, a4⟩ := h.R r hr
    have hm := h.m
    obtain ⟨Ka, la, _⟩ := Kq.at h hr (show k < sL s r by omega)
    obtain ⟨M1, l1, m1, F1⟩ := load_mg (f := 1) (v := 240 + 10 * r + k) h (by omega) (by omega) Ka
    have l1' : f_X7_load [.ref B, .int (1 : Int32), .int (iZ ((240 + 10 * r + k : Nat) : Int))] M = _ := l1
    have q2 := hq.ne (f := 1) (a := (sP s r k).2.1) (b := (sP s r k).2.2) (c := (sP s r k).1) (by omega)
    obtain ⟨M3, reg3, sg3, p3, L3⟩ := product_g m1.ms (by omega) (by omega) (by omega) (by omega) m1.r18 (Fq.ld reg sg 1 _) q2 Ka.1 nt Ka.2.1 ft
    have p3' : f_X7_product [.ref B, .int (1 : Int32), .int (2 : Int32)] M1 = _ := p3
    have m3 := m1.lq (by omega) L3
    have q2' := q2.lq L3 (by omega) (by omega)
    have F13 := F1.trans L3.2.1
    rw [e_X7_scale_47]
    simp only [h.o, bS, mf11, vF, h.i9]
    rw [iZ_clampN (by omega), if_neg (nob (iZ_n0 (by omega)) (by omega))]
    simp only [a3]
    rw [if_neg (by rw [iZ_le (by omega) (by omega)]; omega), if_neg i10, place_g]
    simp only [bS, vI]
    rw [h.i0, l1']
    simp only [bS, cNn]
    rw [m1.i0, p3']
    simp only [bS, vI]
    by_cases hf : Fits (qMul (sP s r k) t)
    · have np := qMul_nf Ka.1 nt
      rw [fi_p hf, if_neg i10, m3.i0, z440]
      obtain ⟨M4, S4, f4, c4⟩ := save_r (f := 0) (v := 440 + k) m3 (by omega) (by omega) L3.2.2.1 hf np
      have f4' : f_X7_save [.ref B, .int (iZ ((440 + k : Nat) : Int)), .int (0 : Int32)] M3 = _ := f4
      have m4 := c4.new m3 (by omega)
      rw [f4']
      simp only [bS, cNn]
      rw [e_X7_scale_95, z_p1]
      refine Am.trans (F13.fb.trans c4.1) (ih (k + 1) M4 reg3 sg3 S4 (by omega) m4 q2' (fun j hj => ?_))
      by_cases e : j = k
      · subst e; exact c4.2.1
      · exact c4.2.2.1 _ _ (by omega) (hk j (by omega))
    · rw [fi_n hf, if_pos rfl, rAct_n (s := s) (r := r) (i := k) (g := fun i => fq (qMul (sP s r i) t)) (by omega) (fq_n hf), e_X7_scale_95, e_X7_scale_47]
      simp only [m3.o, bS, mf11, vF, m3.i9]
      rw [iZ_clampN (by omega), if_neg (nob (iZ_n0 (by omega)) (by omega)), if_pos trivial, ite_self, e_X7_scale_101, m3.i0]
      exact Am.trans F13.fb (becomes_n ⟨_, _, _, _, _, m3⟩).ret
theorem scaleM_g {M : me_M} {B : Nat} {th : Int32} {s : Sx} {x v : Int32} (h : MF M B th s) : Am M B (f_X7_scale [.ref B, .int x, .int v] M) 0 (tSc s x v) := by
  obtain ⟨reg, sg, S, sz, wf, h⟩ := h
  have hn := h.n
  have hm := h.m
  have m := h.th (th' := 0)
  have F : FB M (me_set M B (.inr (7, mfo B 0 s))) B := FB.set (by omega)
  rw [e_X7_scale]
  simp only [h.o, bS, ml0, mt0]
  obtain ⟨N, hN⟩ : ∃ N, N = me_set M B (.inr (7, mfo B 0 s)) := ⟨_, rfl⟩
  have hN' : N = me_set M B (.inr (7, [.int 0, .ref (B + 1), .ref (B + 2), .ref (B + 3), .ref (B + 4), .ref (B + 5), .ref (B + 6), .ref (B + 7), .ref (B + 8), .int (iZ (sN s)), .int (iZ (sR s)), .ref (B + 9), .int (iZ (sW s)), .ref (B + 10), .int (iZ (sT s)), .ref (B + 11)])) := hN
  rw [← hN] at m F
  rw [← hN']
  simp only [m.o, bS, isRowM_s m.ob m.m, isValueM_s m.ob m.n, vI, mf4, vF, m.st.1]
  refine Am.trans F ?_
  by_cases hx : isV (sR s) x
  · rw [if_pos hx, if_neg i10]
    by_cases hv : isV (sN s) v
    · rw [if_pos hv, if_neg i10, if_neg (hv.no (m := 450) (by omega) (by omega)), show tSc s x v = if (sV s v.toNatClampNeg).1 = 0 then (-5, s) else rAct s x.toNatClampNeg (fun i => fq (qMul (sP s x.toNatClampNeg i) (sV s v.toNatClampNeg))) from if_pos ⟨hx, hv⟩]
      obtain ⟨i, i1, i2, i3⟩ := hv.ix (by omega)
      obtain ⟨r, r1, r2, r3⟩ := hx.ix (by omega)
      have Ka := m.V i i1
      simp only [i3, Ka.2.2.1]
      by_cases hz : (sV s i).1 = 0
      · rw [if_pos ((sgz Ka.1.1).mpr hz), c00, if_pos hz]
        exact Am.val ⟨reg, sg, S, sz, wf, m⟩
      · rw [if_neg (fun z => hz ((sgz Ka.1.1).mp z)), if_neg hz]
        obtain ⟨M1, f1, m1, F1⟩ := load_mg (f := 2) (v := i) m (by omega) (by omega) Ka
        have f1' : f_X7_load [.ref B, .int (2 : Int32), .int (iZ i)] N = _ := f1
        rw [i2, f1']
        simp only [bS, cNn]
        rw [e_X7_scale_44, r3, r2]
        exact Am.trans F1.fb (scaleM_l r1 Ka.1 Ka.2.1 (sL s r) 0 M1 _ _ S (by omega) m1 (Fq.ld _ _ 2 _) (fun j hj => absurd hj (by omega)))
    · rw [if_neg hv, if_pos rfl, c00, show tSc s x v = (-2, s) from if_neg (fun z => hv z.2)]
      exact Am.val ⟨reg, sg, S, sz, wf, m⟩
  · rw [if_neg hx, if_pos rfl, c00, show tSc s x v = (-2, s) from if_neg (fun z => hx z.1)]
    exact Am.val ⟨reg, sg, S, sz, wf, m⟩
