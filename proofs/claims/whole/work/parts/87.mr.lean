/-! the reference: eliminate, primitive -/
def elG (s : Sx) (r r' : Nat) (t : Option Qn) (i : Nat) : Option Qn := t.bind fun f => (fq (qMul f (sP s r' i))).bind fun p => fq (qSum (sP s r i) p (-p.1))
/-- not all of it fits -/
theorem elim_z {M : me_M} {B r r' k : Nat} {th : Int32} {s : Sx} {reg : Nat → Nat} {sg : Nat → Int} {S : Sto} {sz wf : Nat → Int32} (h : MG M B th s reg sg S sz wf) (hr : r < sR s) : Am M B (sm T_X7_eliminate (99, [(0, .ref B), (1, .int (iZ r)), (2, .int (iZ r')), (4, .int (0 : Int32)), (5, .int (iZ k))], [], M, 0, 0)) th (-4, wd s) := by
  have hm := h.m
  rw [e_X7_eliminate_99]
  simp only [h.o, bS, mf11, vF, h.i9]
  rw [iZ_clampN (by omega), if_neg (nob (iZ_n0 (by omega)) (by omega)), if_pos trivial, ite_self, e_X7_eliminate_187, h.i0]
  exact (becomes_n ⟨_, _, _, _, _, h⟩).ret
theorem elimM_l {B r r' : Nat} {th : Int32} {s : Sx} {sz wf : Nat → Int32} {t : Qn} (hr : r < sR s) (hr' : r' < sR s) (he : sL s r = sL s r') (nt : Nf t) (ft : Fits t) : ∀ (d k : Nat) (M : me_M) (reg : Nat → Nat) (sg : Nat → Int) (S : Sto), d + k = sL s r → MG M B th s reg sg S sz wf → Fq reg sg 3 t → (∀ j, j < k → ∃ q : Qn, elG s r r' (some t) j = some q ∧ Kq S (440 + j) q) →
    Am M B (sm T_X7_eliminate (99, [(0, .ref B), (1, .int (iZ r)), (2, .int (iZ r')), (4, .int (1 : Int32)), (5, .int (iZ k))], [], M, 0, 0)) th (rAct s r (elG s r r' (some t))) := by
  intro d
  induction d with
  | zero =>
    intro k M reg sg S hd h hq hk
    obtain ⟨a1, a2, a3, a4⟩ := h.R r hr
    have hm := h.m
    have e : k = sL s r := by omega
    subst e
    rw [e_X7_eliminate_99]
    simp only [h.o, bS, mf11, vF, h.i9]
    rw [iZ_clampN (by omega), if_neg (nob (iZ_n0 (by omega)) (by omega))]
    simp only [a3]
    rw [if_pos (by rw [iZ_le (by omega) (by omega)]; omega), e_X7_eliminate_187, h.i0, rAct_p (fun i hi => by obtain ⟨q, e1, _⟩ := hk i hi; rw [e1]; rfl)]
    refine (becomes_p h hr (fun j hj => ?_)).ret
    obtain ⟨q, e1, e2⟩ := hk j hj
    show Kq S (440 + j) ((elG s r r' (some t) j).getD (0, 0, 1))
    rw [e1]
    exact e2
  | succ d ih =>
    intro k M reg sg S hd h hq hk
    obtain ⟨a1, a2, a3, a4⟩ := h.R r hr
    have hm := h.m
    obtain ⟨Kb, lb, _⟩ := Kq.at h hr' (show k < sL s r' by omega)
    obtain ⟨M1, l1, m1, F1⟩ := load_mg (f := 1) (v := 240 + 10 * r' + k) h (by omega) (by omega) Kb
    have l1' : f_X7_load [.ref B, .int (1 : Int32), .int (iZ ((240 + 10 * r' + k : Nat) : Int))] M = _ := l1
    have q3 := hq.ne (f := 1) (a := (sP s r' k).2.1) (b := (sP s r' k).2.2) (c := (sP s r' k).1) (by omega)
    obtain ⟨M2, reg2, sg2, p2, L2⟩ := product_g (x := 3) (y := 1) m1.ms (by omega) (by omega) (by omega) (by omega) m1.r18 q3 (Fq.ld reg sg 1 _) nt Kb.1 ft Kb.2.1
    have p2' : f_X7_product [.ref B, .int (3 : Int32), .int (1 : Int32)] M1 = _ := p2
    have m2 := m1.lq (by omega) L2
    have q3' := q3.lq L2 (by omega) (by omega)
    have F12 := F1.trans L2.2.1
    have eg : elG s r r' (some t) k = (fq (qMul t (sP s r' k))).bind fun p => fq (qSum (sP s r k) p (-p.1)) := bS _ _
    rw [e_X7_eliminate_99]
    simp only [h.o, bS, mf11, vF, h.i9]
    rw [iZ_clampN (by omega), if_neg (nob (iZ_n0 (by omega)) (by omega))]
    simp only [a3]
    rw [if_neg (by rw [iZ_le (by omega) (by omega)]; omega), if_neg i10, place_g]
    simp only [bS, vI]
    rw [h.i0, l1']
    simp only [bS, cNn]
    rw [m1.i0, p2']
    simp only [bS, vI]
    by_cases hf : Fits (qMul t (sP s r' k))
    · have np := qMul_nf nt Kb.1
      rw [fi_p hf, if_neg i10, m2.i0]
      obtain ⟨M3, v3, m3, F3⟩ := move_mg (x := 2) (y := 0) m2 (by omega) (by omega) (by omega) L2.2.2.1
      have v3' : f_X7_move [.ref B, .int (2 : Int32), .int (0 : Int32)] M2 = _ := v3
      obtain ⟨Ka, la, _⟩ := Kq.at m3 hr (show k < sL s r by omega)
      obtain ⟨M4, l4, m4, F4⟩ := load_mg (f := 1) (v := 240 + 10 * r + k) m3 (by omega) (by omega) Ka
      have l4' : f_X7_load [.ref B, .int (1 : Int32), .int (iZ ((240 + 10 * r + k : Nat) : Int))] M3 = _ := l4
      have q2 := (Fq.ld reg2 sg2 2 (qMul t (sP s r' k))).ne (f := 1) (a := (sP s r k).2.1) (b := (sP s r k).2.2) (c := (sP s r k).1) (by omega)
      have q3b := (q3'.ne (f := 2) (a := (qMul t (sP s r' k)).2.1) (b := (qMul t (sP s r' k)).2.2) (c := (qMul t (sP s r' k)).1) (by omega)).ne (f := 1) (a := (sP s r k).2.1) (b := (sP s r k).2.2) (c := (sP s r k).1) (by omega)
      obtain ⟨M5, reg5, sg5, p5, L5⟩ := sum_g (x := 1) (y := 2) (w := 1) m4.ms (by omega) (by omega) (by omega) (by omega) m4.r18 (Fq.ld _ _ 1 _) q2 Ka.1 np Ka.2.1 hf (Or.inr ⟨rfl, rfl⟩)
      have p5' : f_X7_sum [.ref B, .int (1 : Int32), .int (2 : Int32), .int (1 : Int32)] M4 = _ := p5
      have m5 := m4.lq (by omega) L5
      have q3c := q3b.lq L5 (by omega) (by omega)
      have F15 := ((F12.trans F3).trans F4).trans L5.2.1
      rw [v3']
      simp only [bS, cNn]
      rw [e_X7_eliminate_145, place_g]
      simp only [bS, vI]
      rw [m3.i0, l4']
      simp only [bS, cNn]
      rw [m4.i0, p5']
      simp only [bS, vI]
      rw [e_X7_eliminate_165]
      rw [fq_p hf, bS] at eg
      by_cases hf2 : Fits (qSum (sP s r k) (qMul t (sP s r' k)) (-(qMul t (sP s r' k)).1))
      · rw [fq_p hf2] at eg
        rw [fi_p hf2, if_neg i10, m5.i0, z440]
        obtain ⟨M6, S6, f6, c6⟩ := save_r (f := 0) (v := 440 + k) m5 (by omega) (by omega) L5.2.2.1 hf2 (qSum_nf Ka.1 np)
        have f6' : f_X7_save [.ref B, .int (iZ ((440 + k : Nat) : Int)), .int (0 : Int32)] M5 = _ := f6
        have m6 := c6.new m5 (by omega)
        rw [f6']
        simp only [bS, cNn]
        rw [z_p1]
        refine Am.trans (F15.fb.trans c6.1) (ih (k + 1) M6 reg5 sg5 S6 (by omega) m6 q3c (fun j hj => ?_))
        by_cases e : j = k
        · subst e; exact ⟨_, eg, c6.2.1⟩
        · obtain ⟨q, e1, e2⟩ := hk j (by omega)
          exact ⟨q, e1, c6.2.2.1 _ _ (by omega) e2⟩
      · rw [fq_n hf2] at eg
        rw [fi_n hf2, if_pos rfl, rAct_n (s := s) (r := r) (i := k) (g := elG s r r' (some t)) (by omega) eg, z_p1]
        exact Am.trans F15.fb (elim_z m5 hr)
    · rw [fq_n hf] at eg
      rw [fi_n hf, if_pos rfl, rAct_n (s := s) (r := r) (i := k) (g := elG s r r' (some t)) (by omega) eg, e_X7_eliminate_165, if_pos rfl, z_p1]
      exact Am.trans F12.fb (elim_z m2 hr)
theorem elimM_g {M : me_M} {B : Nat} {th : Int32} {s : Sx} {x y k : Int32} (h : MF M B th s) : Am M B (f_X7_eliminate [.ref B, .int x, .int y, .int k] M) 0 (tEl s x y k) := by
  obtain ⟨reg, sg, S, sz, wf, h⟩ := h
  have hn := h.n
  have hm := h.m
  have m := h.th (th' := 0)
  have F : FB M (me_set M B (.inr (7, mfo B 0 s))) B := FB.set (by omega)
  rw [e_X7_eliminate]
  simp only [h.o, bS, ml0, mt0]
  obtain ⟨N, hN⟩ : ∃ N, N = me_set M B (.inr (7, mfo B 0 s)) := ⟨_, rfl⟩
  have hN' : N = me_set M B (.inr (7, [.int 0, .ref (B + 1), .ref (B + 2), .ref (B + 3), .ref (B + 4), .ref (B + 5), .ref (B + 6), .ref (B + 7), .ref (B + 8), .int (iZ (sN s)), .int (iZ (sR s)), .ref (B + 9), .int (iZ (sW s)), .ref (B + 10), .int (iZ (sT s)), .ref (B + 11)])) := hN
  rw [← hN] at m F
  rw [← hN']
  simp only [m.o, bS, areAlongM_s m, isPlaceM_s m, vI, mf4]
  refine Am.trans F ?_
  by_cases ha : isA s x y
  · rw [if_pos ha, if_neg i10]
    by_cases hxy : x = y
    · rw [if_pos hxy, c00, show tEl s x y k = (-2, s) from if_neg (fun z => z.2.1 hxy)]
      exact Am.val ⟨reg, sg, S, sz, wf, m⟩
    · rw [if_neg hxy]
      by_cases hk : isP s x k
      · rw [if_pos hk, if_neg i10, show tEl s x y k = if (sP s y.toNatClampNeg k.toNatClampNeg).1 = 0 then (-5, s) else if (sP s x.toNatClampNeg k.toNatClampNeg).1 = 0 then (0, s) else rAct s x.toNatClampNeg (elG s x.toNatClampNeg y.toNatClampNeg (fq (qDiv (sP s x.toNatClampNeg k.toNatClampNeg) (sP s y.toNatClampNeg k.toNatClampNeg)))) from if_pos ⟨ha, hxy, hk⟩]
        obtain ⟨r, r1, r2, r3⟩ := ha.1.ix (by omega)
        obtain ⟨r', r1', r2', r3'⟩ := ha.2.1.ix (by omega)
        have he := ha.2.2
        rw [r3, r3'] at he
        have hk2 := hk.2
        rw [r3] at hk2
        obtain ⟨a1, a2, a3, a4⟩ := m.R r r1
        obtain ⟨j, j1, j2, j3⟩ := hk2.ix (by omega)
        obtain ⟨Ka, la, _⟩ := Kq.at m r1 j1
        obtain ⟨Kb, lb, _⟩ := Kq.at m r1' (show j < sL s r' by omega)
        rw [r3, r3', j3, r2, r2', j2, place_g]
        simp only [bS, vI]
        rw [e_X7_eliminate_40]
        simp only [vF, bS, m.st.1, m.o, mf4, place_g, vI]
        rw [iZ_clampN (by omega : 240 + 10 * r' + j < 2147483648), iZ_clampN (by omega : 240 + 10 * r + j < 2147483648), if_neg (nob (iZ_n0 (by omega)) (by omega))]
        simp only [Ka.2.2.1, Kb.2.2.1]
        by_cases hz : (sP s r' j).1 = 0
        · rw [if_pos ((sgz Kb.1.1).mpr hz), c00, if_pos hz]
          exact Am.val ⟨reg, sg, S, sz, wf, m⟩
        · rw [if_neg (fun z => hz ((sgz Kb.1.1).mp z)), if_neg hz, if_neg (nob (iZ_n0 (by omega)) (by omega))]
          by_cases hz2 : (sP s r j).1 = 0
          · rw [if_pos ((sgz Ka.1.1).mpr hz2), c00, if_pos hz2]
            exact Am.val ⟨reg, sg, S, sz, wf, m⟩
          · rw [if_neg (fun z => hz2 ((sgz Ka.1.1).mp z)), if_neg hz2]
            obtain ⟨M1, l1, m1, F1⟩ := load_mg (f := 1) (v := 240 + 10 * r + j) m (by omega) (by omega) Ka
            obtain ⟨M2, l2, m2, F2⟩ := load_mg (f := 2) (v := 240 + 10 * r' + j) m1 (by omega) (by omega) Kb
            have l1' : f_X7_load [.ref B, .int (1 : Int32), .int (iZ ((240 + 10 * r + j : Nat) : Int))] N = _ := l1
            have l2' : f_X7_load [.ref B, .int (2 : Int32), .int (iZ ((240 + 10 * r' + j : Nat) : Int))] M1 = _ := l2
            obtain ⟨M3, reg3, sg3, p3, L3⟩ := quotient_g m2.ms (by omega) (by omega) (by omega) (by omega) m2.r18 ((Fq.ld reg sg 1 _).ne (by omega)) (Fq.ld _ _ 2 _) Ka.1 Kb.1 Ka.2.1 Kb.2.1 hz
            have p3' : f_X7_quotient [.ref B, .int (1 : Int32), .int (2 : Int32)] M2 = _ := p3
            have m3 := m2.lq (by omega) L3
            obtain ⟨M4, v4, m4, F4⟩ := move_mg (x := 3) (y := 0) m3 (by omega) (by omega) (by omega) L3.2.2.1
            have v4' : f_X7_move [.ref B, .int (3 : Int32), .int (0 : Int32)] M3 = _ := v4
            rw [l1']
            simp only [bS, cNn, place_g, vI]
            rw [e_X7_eliminate_79, m1.i0, l2']
            simp only [bS, cNn]
            rw [m2.i0, p3']
            simp only [bS, vI]
            rw [m3.i0, v4']
            simp only [bS, cNn]
            refine Am.trans (((F1.trans F2).trans L3.2.1).trans F4).fb ?_
            by_cases hf : Fits (qDiv (sP s r j) (sP s r' j))
            · rw [fi_p hf, fq_p hf]
              exact elimM_l r1 r1' he (qDiv_nf Ka.1 Kb.1 hz) hf (sL s r) 0 M4 _ _ S (by omega) m4 (Fq.ld _ _ 3 _) (fun j hj => absurd hj (by omega))
            · rw [fi_n hf, fq_n hf, rAct_n (s := s) (r := r) (i := 0) (g := elG s r r' none) (by omega) rfl]
              exact elim_z m4 r1
      · rw [if_neg hk, if_pos rfl, c00, show tEl s x y k = (-2, s) from if_neg (fun z => hk z.2.2)]
        exact Am.val ⟨reg, sg, S, sz, wf, m⟩
  · rw [if_neg ha, if_pos rfl, c00, show tEl s x y k = (-2, s) from if_neg (fun z => ha z.1)]
    exact Am.val ⟨reg, sg, S, sz, wf, m⟩
/-! primitive -/
theorem prim_z {M : me_M} {B r : Nat} {th : Int32} {s : Sx} {reg : Nat → Nat} {sg : Nat → Int} {S : Sto} {sz wf : Nat → Int32} {k : Int32} (h : MG M B th s reg sg S sz wf) (hr : r < sR s) : Am M B (sm T_X7_primitive (110, [(0, .ref B), (1, .int (iZ r)), (2, .int (0 : Int32)), (3, .int k)], [], M, 0, 0)) th (-4, wd s) := by
  have hm := h.m
  rw [e_X7_primitive_110]
  simp only [h.o, bS, mf11, vF, h.i9]
  rw [iZ_clampN (by omega), if_neg (nob (iZ_n0 (by omega)) (by omega)), if_pos trivial, ite_self, e_X7_primitive_161, h.i0]
  exact (becomes_n ⟨_, _, _, _, _, h⟩).ret
theorem primM_l {B r : Nat} {th : Int32} {s : Sx} {sz wf : Nat → Int32} {t : Qn} (hr : r < sR s) (nt : Nf t) (ft : Fits t) (t0 : t.1 ≠ 0) : ∀ (d k : Nat) (M : me_M) (reg : Nat → Nat) (sg : Nat → Int) (S : Sto), d + k = sL s r → MG M B th s reg sg S sz wf → Fq reg sg 3 t → (∀ j, j < k → Kq S (440 + j) (qDiv (sP s r j) t)) →
    Am M B (sm T_X7_primitive (110, [(0, .ref B), (1, .int (iZ r)), (2, .int (1 : Int32)), (3, .int (iZ k))], [], M, 0, 0)) th (rAct s r (fun i => fq (qDiv (sP s r i) t))) := by
  intro d
  induction d with
  | zero =>
    intro k M reg sg S hd h hq hk
    obtain ⟨a1, a2, a3, a4⟩ := h.R r hr
    have hm := h.m
    have e : k = sL s r := by omega
    subst e
    rw [e_X7_primitive_110]
    simp only [h.o, bS, mf11, vF, h.i9]
    rw [iZ_clampN (by omega), if_neg (nob (iZ_n0 (by omega)) (by omega))]
    simp only [a3]
    rw [if_pos (by rw [iZ_le (by omega) (by omega)]; omega), e_X7_primitive_161, h.i0, rAct_p (fun i hi => by rw [fq_p (hk i hi).2.1]; rfl)]
    refine (becomes_p h hr (fun j hj => ?_)).ret
    show Kq S (440 + j) ((fq (qDiv (sP s r j) t)).getD (0, 0, 1))
    rw [fq_p (hk j hj).2.1]
    exact hk j hj
  | succ d ih =>
    intro k M reg sg S hd h hq hk
    obtain ⟨a1, a2, a3, a4⟩ := h.R r hr
    have hm := h.m
    obtain ⟨Ka, la, _⟩ := Kq.at h hr (show k < sL s r by omega)
    obtain ⟨M1, l1, m1, F1⟩ := load_mg (f := 1) (v := 240 + 10 * r + k) h (by omega) (by omega) Ka
    have l1' : f_X7_load [.ref B, .int (1 : Int32), .int (iZ ((240 + 10 * r + k : Nat) : Int))] M = _ := l1
    have q2 := hq.ne (f := 1) (a := (sP s r k).2.1) (b := (sP s r k).2.2) (c := (sP s r k).1) (by omega)
    obtain ⟨M3, reg3, sg3, p3, L3⟩ := quotient_g (x := 1) (y := 3) m1.ms (by omega) (by omega) (by omega) (by omega) m1.r18 (Fq.ld reg sg 1 _) q2 Ka.1 nt Ka.2.1 ft t0
    have p3' : f_X7_quotient [.ref B, .int (1 : Int32), .int (3 : Int32)] M1 = _ := p3
    have m3 := m1.lq (by omega) L3
    have q2' := q2.lq L3 (by omega) (by omega)
    have F13 := F1.trans L3.2.1
    rw [e_X7_primitive_110]
    simp only [h.o, bS, mf11, vF, h.i9]
    rw [iZ_clampN (by omega), if_neg (nob (iZ_n0 (by omega)) (by omega))]
    simp only [a3]
    rw [if_neg (by rw [iZ_le (by omega) (by omega)]; omega), if_neg i10, place_g]
    simp only [bS, vI]
    rw [h.i0, l1']
    simp only [bS, cNn]
    rw [m1.i0, p3']
    simp only [bS, vI]
    by_cases hf : Fits (qDiv (sP s r k) t)
    · have np := qDiv_nf Ka.1 nt t0
      rw [fi_p hf, if_neg i10, m3.i0, z440]
      obtain ⟨M4, S4, f4, c4⟩ := save_r (f := 0) (v := 440 + k) m3 (by omega) (by omega) L3.2.2.1 hf np
      have f4' : f_X7_save [.ref B, .int (iZ ((440 + k : Nat) : Int)), .int (0 : Int32)] M3 = _ := f4
      have m4 := c4.new m3 (by omega)
      rw [f4']
      simp only [bS, cNn]
      rw [e_X7_primitive_155, z_p1]
      refine Am.trans (F13.fb.trans c4.1) (ih (k + 1) M4 reg3 sg3 S4 (by omega) m4 q2' (fun j hj => ?_))
      by_cases e : j = k
      · subst e; exact c4.2.1
      · exact c4.2.2.1 _ _ (by omega) (hk j (by omega))
    · rw [fi_n hf, if_pos rfl, rAct_n (s := s) (r := r) (i := k) (g := fun i => fq (qDiv (sP s r i) t)) (by omega) (fq_n hf), e_X7_primitive_155]
      exact Am.trans F13.fb (prim_z m3 hr)
/-- from the common measure on -/
theorem prim_93 {M : me_M} {B r : Nat} {th : Int32} {s : Sx} {reg : Nat → Nat} {sg : Nat → Int} {S : Sto} {sz wf : Nat → Int32} {t : Qn} {fl : Int32} {c : Option Qn} (h : MG M B th s reg sg S sz wf) (hr : r < sR s) (hq : Fq reg sg 3 t) (hst : (fl = 1 ∧ c = some t ∧ Nf t ∧ Fits t) ∨ (fl = 0 ∧ c = none)) : Am M B (sm T_X7_primitive (93, [(0, .ref B), (1, .int (iZ r)), (2, .int fl)], [], M, 0, 0)) th (prA s r c) := by
  rw [e_X7_primitive_93]
  rcases hst with ⟨f1, f2, f3, f4⟩ | ⟨f1, f2⟩
  · obtain ⟨_, sf, s1, s2⟩ := h.ms
    have c3 : (3 : Int32).toNatClampNeg = 3 := rfl
    rw [f1, if_neg i10, f2]
    simp only [h.o, bS, mf3, vF, s1, c3, s2 3 (by omega), hq.1]
    rw [if_neg (nob (by decide) (by omega)), show prA s r (some t) = if t.1 = 0 then (0, s) else rAct s r (fun i => fq (qDiv (sP s r i) t)) from rfl]
    by_cases hz : t.1 = 0
    · rw [if_pos ((sgz f3.1).mpr hz), c00, if_pos hz]
      exact Am.val ⟨_, _, _, _, _, h⟩
    · rw [if_neg (fun z => hz ((sgz f3.1).mp z)), if_neg hz]
      exact primM_l hr f3 f4 hz (sL s r) 0 M reg sg S (by omega) h hq (fun j hj => absurd hj (by omega))
  · rw [f1, if_pos rfl, f2]
    exact prim_z h hr
theorem prim_50 {B r : Nat} {th : Int32} {s : Sx} {S : Sto} {sz wf : Nat → Int32} (hr : r < sR s) : ∀ (d k : Nat) (M : me_M) (reg : Nat → Nat) (sg : Nat → Int) (t : Qn) (fl : Int32), d + k = sL s r → MG M B th s reg sg S sz wf → Fq reg sg 3 t → ((fl = 1 ∧ cmA (sP s r) k = some t ∧ Nf t ∧ Fits t) ∨ (fl = 0 ∧ cmA (sP s r) k = none)) →
    Am M B (sm T_X7_primitive (50, [(0, .ref B), (1, .int (iZ r)), (2, .int fl), (3, .int (iZ k))], [], M, 0, 0)) th (prA s r (cmA (sP s r) (sL s r))) := by
  intro d
  induction d with
  | zero =>
    intro k M reg sg t fl hd h hq hst
    obtain ⟨a1, a2, a3, a4⟩ := h.R r hr
    have hm := h.m
    have e : k = sL s r := by omega
    subst e
    rw [e_X7_primitive_50]
    simp only [h.o, bS, mf11, vF, h.i9]
    rw [iZ_clampN (by omega), if_neg (nob (iZ_n0 (by omega)) (by omega))]
    simp only [a3]
    rw [if_pos (by rw [iZ_le (by omega) (by omega)]; omega)]
    exact prim_93 h hr hq hst
  | succ d ih =>
    intro k M reg sg t fl hd h hq hst
    obtain ⟨a1, a2, a3, a4⟩ := h.R r hr
    have hm := h.m
    rw [e_X7_primitive_50]
    simp only [h.o, bS, mf11, vF, h.i9]
    rw [iZ_clampN (by omega), if_neg (nob (iZ_n0 (by omega)) (by omega))]
    simp only [a3]
    rw [if_neg (by rw [iZ_le (by omega) (by omega)]; omega)]
    rcases hst with ⟨f1, f2, f3, f4⟩ | ⟨f1, f2⟩
    · rw [if_neg (by rw [f1]; exact i10), place_g]
      obtain ⟨Ka, la, _⟩ := Kq.at h hr (show k < sL s r by omega)
      obtain ⟨M1, l1, m1, F1⟩ := load_mg (f := 1) (v := 240 + 10 * r + k) h (by omega) (by omega) Ka
      have l1' : f_X7_load [.ref B, .int (1 : Int32), .int (iZ ((240 + 10 * r + k : Nat) : Int))] M = _ := l1
      have q3 := hq.ne (f := 1) (a := (sP s r k).2.1) (b := (sP s r k).2.2) (c := (sP s r k).1) (by omega)
      obtain ⟨M3, reg3, sg3, p3, L3⟩ := common_g (x := 3) (y := 1) m1.ms (by omega) (by omega) (by omega) (by omega) m1.r18 q3 (Fq.ld reg sg 1 _) f3 Ka.1 f4 Ka.2.1
      have p3' : f_X7_common [.ref B, .int (3 : Int32), .int (1 : Int32)] M1 = _ := p3
      have m3 := m1.lq (by omega) L3
      obtain ⟨M4, v4, m4, F4⟩ := move_mg (x := 3) (y := 0) m3 (by omega) (by omega) (by omega) L3.2.2.1
      have v4' : f_X7_move [.ref B, .int (3 : Int32), .int (0 : Int32)] M3 = _ := v4
      have es : cmA (sP s r) (k + 1) = fq (qMeas t (sP s r k)) := by
        show (cmA _ k).bind _ = _
        rw [f2, bS]
      simp only [bS, vI]
      rw [h.i0, l1']
      simp only [bS, cNn]
      rw [m1.i0, p3']
      simp only [bS, vI]
      rw [m3.i0, v4']
      simp only [bS, cNn]
      rw [e_X7_primitive_87, z_p1]
      refine Am.trans ((F1.trans L3.2.1).trans F4).fb (ih (k + 1) M4 _ _ (qMeas t (sP s r k)) _ (by omega) m4 (Fq.ld _ _ 3 _) ?_)
      rw [es]
      by_cases hf : Fits (qMeas t (sP s r k))
      · exact Or.inl ⟨fi_p hf, fq_p hf, qMeas_nf f3 Ka.1, hf⟩
      · exact Or.inr ⟨fi_n hf, fq_n hf⟩
    · rw [if_pos f1]
      exact prim_93 h hr hq (Or.inr ⟨f1, cmA_none f2 (by omega)⟩)
theorem meas_z {a : Qn} (h : Nf a) : qMeas (0, 0, 1) a = (if a.1 = 0 then 0 else 1, a.2.1, a.2.2) := by
  unfold qMeas
  show rd ((Nat.gcd (0 * a.2.2) (a.2.1 * 1) : Nat) : Int) (1 * a.2.2) = _
  rw [Nat.zero_mul, Nat.mul_one, Nat.one_mul, Nat.gcd_zero_left]
  refine rd_uniq ?_ h.2.2.1 ?_
  · refine ⟨?_, ?_, h.2.2.1, h.2.2.2⟩
    · show (if a.1 = 0 then (0 : Int) else 1) = 0 ∨ _
      split
      · exact Or.inl rfl
      · exact Or.inr (Or.inl rfl)
    · show (if a.1 = 0 then (0 : Int) else 1) = 0 ↔ a.2.1 = 0
      rw [← h.2.1]
      by_cases e : a.1 = 0
      · rw [if_pos e]; exact ⟨fun _ => e, fun _ => rfl⟩
      · rw [if_neg e]; exact ⟨fun z => absurd z (by decide), fun z => absurd z e⟩
  · by_cases e : a.1 = 0
    · rw [if_pos e, h.2.1.mp e]; simp
    · rw [if_neg e, Int.one_mul]
theorem primM_g {M : me_M} {B : Nat} {th : Int32} {s : Sx} {x : Int32} (h : MF M B th s) : Am M B (f_X7_primitive [.ref B, .int x] M) 0 (tPr s x) := by
  obtain ⟨reg, sg, S, sz, wf, h⟩ := h
  have hn := h.n
  have hm := h.m
  have m := h.th (th' := 0)
  have F : FB M (me_set M B (.inr (7, mfo B 0 s))) B := FB.set (by omega)
  rw [e_X7_primitive]
  simp only [h.o, bS, ml0, mt0]
  obtain ⟨N, hN⟩ : ∃ N, N = me_set M B (.inr (7, mfo B 0 s)) := ⟨_, rfl⟩
  have hN' : N = me_set M B (.inr (7, [.int 0, .ref (B + 1), .ref (B + 2), .ref (B + 3), .ref (B + 4), .ref (B + 5), .ref (B + 6), .ref (B + 7), .ref (B + 8), .int (iZ (sN s)), .int (iZ (sR s)), .ref (B + 9), .int (iZ (sW s)), .ref (B + 10), .int (iZ (sT s)), .ref (B + 11)])) := hN
  rw [← hN] at m F
  rw [← hN']
  simp only [m.o, bS, isRowM_s m.ob m.m, vI]
  refine Am.trans F ?_
  by_cases hx : isV (sR s) x
  · rw [if_pos hx, if_neg i10, show tPr s x = prA s x.toNatClampNeg (cmA (sP s x.toNatClampNeg) (sL s x.toNatClampNeg)) from if_pos hx]
    obtain ⟨r, r1, r2, r3⟩ := hx.ix (by omega)
    obtain ⟨a1, a2, a3, a4⟩ := m.R r r1
    obtain ⟨Ka, la, _⟩ := Kq.at m r1 (show 0 < sL s r by omega)
    obtain ⟨M1, l1, m1, F1⟩ := load_mg (f := 3) (v := 240 + 10 * r + 0) m (by omega) (by omega) Ka
    have l1' : f_X7_load [.ref B, .int (3 : Int32), .int (iZ ((240 + 10 * r + 0 : Nat) : Int))] N = _ := l1
    have pl : f_X7_place [.int (iZ r), .int (0 : Int32)] N = _ := place_g (r := r) (k := 0)
    obtain ⟨_, sf, s1, s2⟩ := m1.ms
    have c3 : (3 : Int32).toNatClampNeg = 3 := rfl
    have k1 := Ka.1.1
    have e1 : cmA (sP s r) 1 = some (if (sP s r 0).1 = 0 then 0 else 1, (sP s r 0).2.1, (sP s r 0).2.2) := by
      show (some (0, 0, 1) : Option Qn).bind _ = _
      rw [bS, meas_z Ka.1]
      exact fq_p Ka.2.1
    have nf1 : Nf (if (sP s r 0).1 = 0 then 0 else 1, (sP s r 0).2.1, (sP s r 0).2.2) := by
      rw [← meas_z Ka.1]
      exact qMeas_nf Nf.zero Ka.1
    rw [r3, r2, pl]
    simp only [bS, vI]
    rw [m.i0, l1']
    simp only [bS, cNn]
    rw [e_X7_primitive_26]
    simp only [m1.o, bS, mf3, vF, s1, c3, s2 3 (by omega), us_s]
    rw [if_neg (nob (by decide) (by omega))]
    refine Am.trans F1.fb ?_
    have key : ∀ v : Int, v = (if (sP s r 0).1 = 0 then 0 else 1) → Am M1 B (sm T_X7_primitive (45, [(0, .ref B), (1, .int (iZ r))], [.int (iZ v), .int (3 : Int32), .ref (B + 3)], M1, 0, 0)) 0 (prA s r (cmA (sP s r) (sL s r))) := by
      intro v hv
      have m2 := MS.sg (f := 3) (v := v) m1.ms.1 s2
      have g2' := m1.fs FS.s3 m2 m1.r18
      rw [e_X7_primitive_45]
      simp only [vF, bS, s1, c3]
      rw [if_neg (nob (by decide) (by omega))]
      exact Am.trans FS.s3.fb (prim_50 r1 (sL s r - 1) 1 _ _ _ (if (sP s r 0).1 = 0 then 0 else 1, (sP s r 0).2.1, (sP s r 0).2.2) 1 (by omega) g2' ⟨(us_s _ _ _).trans hv, by rw [up_n _ _ (by omega), up_s], up_s _ _ _⟩ (Or.inl ⟨rfl, e1, nf1, Ka.2.1⟩))
    by_cases hz : (sP s r 0).1 = 0
    · rw [if_pos ((sgz k1).mpr hz)]
      exact key 0 (by rw [if_pos hz])
    · rw [if_neg (fun z => hz ((sgz k1).mp z))]
      exact key 1 (by rw [if_neg hz])
  · rw [if_neg hx, if_pos rfl, c00, show tPr s x = (-2, s) from if_neg hx]
    exact Am.val ⟨reg, sg, S, sz, wf, m⟩
