/-! the reference's acts on VALUES -/
theorem load_mg {M : me_M} {B f v : Nat} {th : Int32} {s : Sx} {reg : Nat → Nat} {sg : Nat → Int} {S : Sto} {sz wf : Nat → Int32} {q : Qn} (h : MG M B th s reg sg S sz wf) (hf : f < 4) (hv : v < 450) (hq : Kq S v q) :
    ∃ M' : me_M, f_X7_load [.ref B, .int (iZ f), .int (iZ v)] M = some (none, M') ∧ MG M' B th s (up (up reg (2 * f) q.2.1) (2 * f + 1) q.2.2) (us sg f q.1) S sz wf ∧ FS M M' B := by
  obtain ⟨M', f1, m1, F⟩ := load_g h.ms h.ob h.st hf hv hq.2.2
  exact ⟨M', f1, h.fs F m1 (by rw [up_n _ _ (by omega), up_n _ _ (by omega)]; exact h.r18), F⟩
theorem Fq.ld (reg : Nat → Nat) (sg : Nat → Int) (f : Nat) (q : Qn) : Fq (up (up reg (2 * f) q.2.1) (2 * f + 1) q.2.2) (us sg f q.1) f q := ⟨us_s _ _ _, by rw [up_n _ _ (by omega), up_s], up_s _ _ _⟩
theorem Fq.ne {reg : Nat → Nat} {sg : Nat → Int} {f g a b : Nat} {c : Int} {q : Qn} (h : Fq reg sg g q) (hg : g ≠ f) : Fq (up (up reg (2 * f) a) (2 * f + 1) b) (us sg f c) g q := ⟨(us_n _ _ hg).trans h.1, by rw [up_n _ _ (by omega), up_n _ _ (by omega)]; exact h.2.1, by rw [up_n _ _ (by omega), up_n _ _ (by omega)]; exact h.2.2⟩
theorem Fq.lq {M M' : me_M} {B f g : Nat} {reg reg' : Nat → Nat} {sg sg' : Nat → Int} {q r : Qn} (h : Fq reg sg g r) (k : Lq M M' B f reg reg' sg sg' q) (hg : g ≠ f) (hg4 : g < 4) : Fq reg' sg' g r := ⟨(k.2.2.2.2 g hg).trans h.1, (k.2.2.2.1 _ (by omega) (by omega) (by omega)).trans h.2.1, (k.2.2.2.1 _ (by omega) (by omega) (by omega)).trans h.2.2⟩
def opq (op : Nat) : Qn → Qn → Qn := if op = 0 then (fun a b => qSum a b b.1) else if op = 1 then (fun a b => qSum a b (-b.1)) else if op = 2 then qMul else if op = 3 then qDiv else if op = 4 then qRem else qMeas
theorem qSum_nf {a b : Qn} {sb : Int} (ha : Nf a) (hb : Nf b) : Nf (qSum a b sb) := rd_nf (Nat.mul_pos ha.2.2.1 hb.2.2.1)
theorem qMul_nf {a b : Qn} (ha : Nf a) (hb : Nf b) : Nf (qMul a b) := rd_nf (Nat.mul_pos ha.2.2.1 hb.2.2.1)
theorem qDiv_nf {a b : Qn} (ha : Nf a) (hb : Nf b) (h0 : b.1 ≠ 0) : Nf (qDiv a b) := rd_nf (Nat.mul_pos ha.2.2.1 (Nat.pos_of_ne_zero (fun e => h0 (hb.2.1.mpr e))))
theorem qRem_nf {a b : Qn} (ha : Nf a) (hb : Nf b) : Nf (qRem a b) := rd_nf (Nat.mul_pos ha.2.2.1 hb.2.2.1)
theorem qMeas_nf {a b : Qn} (ha : Nf a) (hb : Nf b) : Nf (qMeas a b) := rd_nf (Nat.mul_pos ha.2.2.1 hb.2.2.1)
theorem lq_comes {M M' : me_M} {B : Nat} {th : Int32} {s : Sx} {reg reg' : Nat → Nat} {sg sg' : Nat → Int} {S : Sto} {sz wf : Nat → Int32} {q : Qn} (h : MG M B th s reg sg S sz wf) (hN : sN s < 240) (k : Lq M M' B 0 reg reg' sg sg' q) (nq : Nf q) : Am M B ((me_obj M' 7 B).bind fun _ => (f_X7_comes [.ref B, .int (fi q)] M').bind fun r4 => r4.1.bind fun v5 => (v_int v5).bind fun y6 => if 0 ≤ 0 ∧ 0 ≤ 0 then some (some (.int y6), r4.2) else none) th (kp s q) := by
  have m := h.lq (by omega) k
  rw [m.i0]
  exact Am.trans k.2.1.fb (comes_g m hN k.2.2.1 nq).ret
theorem two_75 {M : me_M} {B op : Nat} {th : Int32} {s : Sx} {reg : Nat → Nat} {sg : Nat → Int} {S : Sto} {sz wf : Nat → Int32} {a b : Qn} (h : MG M B th s reg sg S sz wf) (hN : sN s < 240) (hop : op ≤ 5) (ha : Fq reg sg 1 a) (hb : Fq reg sg 2 b) (na : Nf a) (nb : Nf b) (fa : Fits a) (fb : Fits b) (h0 : op = 3 ∨ op = 4 → b.1 ≠ 0) : Am M B (sm T_X7_two (75, [(0, .ref B)], [.int (iZ op)], M, 0, 0)) th (kp s (opq op a b)) := by
  have e : (iZ (op : Int)).toInt = (op : Int) := iZ_toInt (by omega) (by omega)
  rw [e_X7_two_75, e]
  have hc : op = 0 ∨ op = 1 ∨ op = 2 ∨ op = 3 ∨ op = 4 ∨ op = 5 := by omega
  rcases hc with rfl | rfl | rfl | rfl | rfl | rfl
  · rw [if_neg (by omega)]
    show Am M B (sm T_X7_two (108, _, _, M, 0, 0)) th (kp s (qSum a b b.1))
    obtain ⟨M', reg', sg', f, L⟩ := sum_g (w := 0) h.ms (by omega) (by omega) (by omega) (by omega) h.r18 ha hb na nb fa fb (Or.inl ⟨rfl, rfl⟩)
    have f' : f_X7_sum [.ref B, .int (1 : Int32), .int (2 : Int32), .int (0 : Int32)] M = _ := f
    rw [e_X7_two_108, h.i0, f']
    simp only [bS, vI]
    exact lq_comes h hN L (qSum_nf na nb)
  · rw [if_neg (by omega)]
    show Am M B (sm T_X7_two (120, _, _, M, 0, 0)) th (kp s (qSum a b (-b.1)))
    obtain ⟨M', reg', sg', f, L⟩ := sum_g (w := 1) h.ms (by omega) (by omega) (by omega) (by omega) h.r18 ha hb na nb fa fb (Or.inr ⟨rfl, rfl⟩)
    have f' : f_X7_sum [.ref B, .int (1 : Int32), .int (2 : Int32), .int (1 : Int32)] M = _ := f
    rw [e_X7_two_120, h.i0, f']
    simp only [bS, vI]
    exact lq_comes h hN L (qSum_nf na nb)
  · rw [if_neg (by omega)]
    show Am M B (sm T_X7_two (132, _, _, M, 0, 0)) th (kp s (qMul a b))
    obtain ⟨M', reg', sg', f, L⟩ := product_g h.ms (by omega) (by omega) (by omega) (by omega) h.r18 ha hb na nb fa fb
    have f' : f_X7_product [.ref B, .int (1 : Int32), .int (2 : Int32)] M = _ := f
    rw [e_X7_two_132, h.i0, f']
    simp only [bS, vI]
    exact lq_comes h hN L (qMul_nf na nb)
  · rw [if_neg (by omega)]
    show Am M B (sm T_X7_two (143, _, _, M, 0, 0)) th (kp s (qDiv a b))
    obtain ⟨M', reg', sg', f, L⟩ := quotient_g h.ms (by omega) (by omega) (by omega) (by omega) h.r18 ha hb na nb fa fb (h0 (Or.inl rfl))
    have f' : f_X7_quotient [.ref B, .int (1 : Int32), .int (2 : Int32)] M = _ := f
    rw [e_X7_two_143, h.i0, f']
    simp only [bS, vI]
    exact lq_comes h hN L (qDiv_nf na nb (h0 (Or.inl rfl)))
  · rw [if_neg (by omega)]
    show Am M B (sm T_X7_two (154, _, _, M, 0, 0)) th (kp s (qRem a b))
    obtain ⟨M', reg', sg', f, L⟩ := left_g h.ms (by omega) (by omega) (by omega) (by omega) h.r18 ha hb na nb fa fb (h0 (Or.inr rfl))
    have f' : f_X7_left [.ref B, .int (1 : Int32), .int (2 : Int32)] M = _ := f
    rw [e_X7_two_154, h.i0, f']
    simp only [bS, vI]
    exact lq_comes h hN L (qRem_nf na nb)
  · rw [if_pos (by omega)]
    show Am M B (sm T_X7_two (165, _, _, M, 0, 0)) th (kp s (qMeas a b))
    obtain ⟨M', reg', sg', f, L⟩ := common_g h.ms (by omega) (by omega) (by omega) (by omega) h.r18 ha hb na nb fa fb
    have f' : f_X7_common [.ref B, .int (1 : Int32), .int (2 : Int32)] M = _ := f
    rw [e_X7_two_165, h.i0, f']
    simp only [bS, vI]
    exact lq_comes h hN L (qMeas_nf na nb)
theorem two_49 {M : me_M} {B op : Nat} {th : Int32} {s : Sx} {reg : Nat → Nat} {sg : Nat → Int} {S : Sto} {sz wf : Nat → Int32} {x y : Int32} (h : MG M B th s reg sg S sz wf) (hop : op ≤ 5) (hx : isV (sN s) x) (hy : isV (sN s) y) (h0 : op = 3 ∨ op = 4 → (sV s y.toNatClampNeg).1 ≠ 0) : Am M B (sm T_X7_two (49, [(0, .ref B), (1, .int (iZ op)), (2, .int x), (3, .int y)], [], M, 0, 0)) th (t2 s x y (opq op)) := by
  have hn := h.n
  rw [e_X7_two_49]
  simp only [h.o, bS, mf9, vI]
  by_cases hf : sN s = 240
  · rw [if_pos (by rw [hf]; rfl), c00, t2_f hx hy hf]
    exact Am.val ⟨reg, sg, S, sz, wf, h⟩
  · rw [if_neg (by rw [show (240 : Int32) = iZ 240 from rfl, iZ_eq (by omega) (by omega)]; omega), t2_ok hx hy hf]
    obtain ⟨i, i1, i2, i3⟩ := hx.ix (by omega)
    obtain ⟨j, j1, j2, j3⟩ := hy.ix (by omega)
    rw [j3] at h0
    have Ka := h.V i i1
    have Kb := h.V j j1
    obtain ⟨M1, f1, m1, F1⟩ := load_mg (f := 1) (v := i) h (by omega) (by omega) Ka
    obtain ⟨M2, f2, m2, F2⟩ := load_mg (f := 2) (v := j) m1 (by omega) (by omega) Kb
    have f1' : f_X7_load [.ref B, .int (1 : Int32), .int (iZ i)] M = _ := f1
    have f2' : f_X7_load [.ref B, .int (2 : Int32), .int (iZ j)] M1 = _ := f2
    rw [i2, j2, f1']
    simp only [bS, cNn]
    rw [m1.i0, f2']
    simp only [bS, cNn]
    rw [← i2, ← j2, i3, j3]
    exact Am.trans (F1.trans F2).fb (two_75 m2 (by omega) hop ((Fq.ld reg sg 1 _).ne (by omega)) (Fq.ld _ _ 2 _) Ka.1 Kb.1 Ka.2.1 Kb.2.1 h0)
theorem two_g {M : me_M} {B op : Nat} {th : Int32} {s : Sx} {x y : Int32} (h : MF M B th s) (hop : op ≤ 5) (h3 : op ≠ 3) (h4 : op ≠ 4) : Am M B (f_X7_two [.ref B, .int (iZ op), .int x, .int y] M) 0 (t2 s x y (opq op)) := by
  obtain ⟨reg, sg, S, sz, wf, h⟩ := h
  have m := h.th (th' := 0)
  have F : FB M (me_set M B (.inr (7, mfo B 0 s))) B := FB.set (by omega)
  rw [e_X7_two]
  simp only [h.o, bS, ml0, mt0]
  obtain ⟨N, hN⟩ : ∃ N, N = me_set M B (.inr (7, mfo B 0 s)) := ⟨_, rfl⟩
  have hN' : N = me_set M B (.inr (7, [.int 0, .ref (B + 1), .ref (B + 2), .ref (B + 3), .ref (B + 4), .ref (B + 5), .ref (B + 6), .ref (B + 7), .ref (B + 8), .int (iZ (sN s)), .int (iZ (sR s)), .ref (B + 9), .int (iZ (sW s)), .ref (B + 10), .int (iZ (sT s)), .ref (B + 11)])) := hN
  rw [← hN] at m F
  rw [← hN']
  simp only [m.o, bS, isValueM_s m.ob m.n, vI]
  refine Am.trans F ?_
  by_cases hx : isV (sN s) x
  · rw [if_pos hx, if_neg i10]
    by_cases hy : isV (sN s) y
    · rw [if_pos hy, if_neg i10, if_neg (by rw [show (3 : Int32) = iZ 3 from rfl, iZ_eq (by omega) (by omega)]; omega), if_neg (by rw [show (4 : Int32) = iZ 4 from rfl, iZ_eq (by omega) (by omega)]; omega)]
      exact two_49 m hop hx hy (fun z => by omega)
    · rw [if_neg hy, if_pos rfl, c00, t2_y hx hy]
      exact Am.val ⟨reg, sg, S, sz, wf, m⟩
  · rw [if_neg hx, if_pos rfl, c00, t2_x hx]
    exact Am.val ⟨reg, sg, S, sz, wf, m⟩
theorem throwing_g {M : me_M} {B : Nat} {th : Int32} {s : Sx} {reg : Nat → Nat} {sg : Nat → Int} {S : Sto} {sz wf : Nat → Int32} {k : Int32} (h : MG M B th s reg sg S sz wf) : Am M B (f_X7_throwing [.ref B, .int k] M) k (0, s) := by
  refine ⟨me_set M B (.inr (7, mfo B k s)), ?_, ⟨reg, sg, S, sz, wf, h.th⟩, FB.set (by omega)⟩
  rw [e_X7_throwing]
  simp only [h.o, bS, ml0, mt0]
  exact c00
/-- over and rest: 1 is thrown where b is 0 -/
theorem two_th {M : me_M} {B op : Nat} {th : Int32} {s : Sx} {x y : Int32} (h : MF M B th s) (hop : op = 3 ∨ op = 4) : Am M B (f_X7_two [.ref B, .int (iZ op), .int x, .int y] M) (if isV (sN s) x ∧ isV (sN s) y ∧ (sV s y.toNatClampNeg).1 = 0 then 1 else 0) (if isV (sN s) x ∧ isV (sN s) y ∧ (sV s y.toNatClampNeg).1 = 0 then (0, s) else t2 s x y (opq op)) := by
  obtain ⟨reg, sg, S, sz, wf, h⟩ := h
  have hn := h.n
  have m := h.th (th' := 0)
  have F : FB M (me_set M B (.inr (7, mfo B 0 s))) B := FB.set (by omega)
  rw [e_X7_two]
  simp only [h.o, bS, ml0, mt0]
  obtain ⟨N, hN⟩ : ∃ N, N = me_set M B (.inr (7, mfo B 0 s)) := ⟨_, rfl⟩
  have hN' : N = me_set M B (.inr (7, [.int 0, .ref (B + 1), .ref (B + 2), .ref (B + 3), .ref (B + 4), .ref (B + 5), .ref (B + 6), .ref (B + 7), .ref (B + 8), .int (iZ (sN s)), .int (iZ (sR s)), .ref (B + 9), .int (iZ (sW s)), .ref (B + 10), .int (iZ (sT s)), .ref (B + 11)])) := hN
  rw [← hN] at m F
  rw [← hN']
  simp only [m.o, bS, isValueM_s m.ob m.n, vI]
  refine Am.trans F ?_
  by_cases hx : isV (sN s) x
  · rw [show (if isV (sN s) x then (1 : Int32) else 0) = 1 from if_pos hx, if_neg i10]
    by_cases hy : isV (sN s) y
    · rw [show (if isV (sN s) y then (1 : Int32) else 0) = 1 from if_pos hy, if_neg i10]
      have e34 : ∀ X : Option sm_R, (if iZ (op : Int) = (3 : Int32) then X else if iZ (op : Int) = (4 : Int32) then X else sm T_X7_two (49, [(0, .ref B), (1, .int (iZ op)), (2, .int x), (3, .int y)], [], N, 0, 0)) = X := by
        intro X
        rcases hop with e | e
        · rw [if_pos (by rw [e]; rfl)]
        · rw [if_neg (by rw [e]; decide), if_pos (by rw [e]; rfl)]
      rw [e34, e_X7_two_34]
      obtain ⟨j, j1, j2, j3⟩ := hy.ix (by omega)
      have Kb := m.V j j1
      simp only [m.o, bS, mf4, vF, m.st.1]
      rw [if_neg (hy.no (m := 450) (by omega) (by omega)), j3]
      simp only [Kb.2.2.1]
      by_cases hz : (sV s j).1 = 0
      · rw [if_pos ((sgz Kb.1.1).mpr hz), if_pos ⟨hx, hy, hz⟩, if_pos ⟨hx, hy, hz⟩]
        exact (throwing_g m).ret
      · rw [if_neg (fun z => hz ((sgz Kb.1.1).mp z)), if_neg (fun z => hz z.2.2), if_neg (fun z => hz z.2.2)]
        exact two_49 m (by omega) hx hy (fun _ => by rw [j3]; exact hz)
    · rw [show (if isV (sN s) y then (1 : Int32) else 0) = 0 from if_neg hy, if_pos rfl, c00, if_neg (fun z => hy z.2.1), if_neg (fun z => hy z.2.1), t2_y hx hy]
      exact Am.val ⟨reg, sg, S, sz, wf, m⟩
  · rw [show (if isV (sN s) x then (1 : Int32) else 0) = 0 from if_neg hx, if_pos rfl, c00, if_neg (fun z => hx z.1), if_neg (fun z => hx z.1), t2_x hx]
    exact Am.val ⟨reg, sg, S, sz, wf, m⟩
theorem MF.i0 {M : me_M} {B : Nat} {th : Int32} {s : Sx} (h : MF M B th s) {α : Type} (X : Option α) : ((me_obj M 7 B).bind fun _ => X) = X := by
  obtain ⟨reg, sg, S, sz, wf, h⟩ := h
  exact h.i0 X
theorem addM_g {M : me_M} {B : Nat} {th : Int32} {s : Sx} {x y : Int32} (h : MF M B th s) : Am M B (f_X7_add [.ref B, .int x, .int y] M) 0 (t2 s x y (fun a b => qSum a b b.1)) := by
  rw [e_X7_add, h.i0]
  exact (two_g (op := 0) h (by omega) (by omega) (by omega)).ret
theorem lessM_g {M : me_M} {B : Nat} {th : Int32} {s : Sx} {x y : Int32} (h : MF M B th s) : Am M B (f_X7_less [.ref B, .int x, .int y] M) 0 (t2 s x y (fun a b => qSum a b (-b.1))) := by
  rw [e_X7_less, h.i0]
  exact (two_g (op := 1) h (by omega) (by omega) (by omega)).ret
theorem timesM_g {M : me_M} {B : Nat} {th : Int32} {s : Sx} {x y : Int32} (h : MF M B th s) : Am M B (f_X7_times [.ref B, .int x, .int y] M) 0 (t2 s x y qMul) := by
  rw [e_X7_times, h.i0]
  exact (two_g (op := 2) h (by omega) (by omega) (by omega)).ret
theorem measureM_g {M : me_M} {B : Nat} {th : Int32} {s : Sx} {x y : Int32} (h : MF M B th s) : Am M B (f_X7_measure [.ref B, .int x, .int y] M) 0 (t2 s x y qMeas) := by
  rw [e_X7_measure, h.i0]
  exact (two_g (op := 5) h (by omega) (by omega) (by omega)).ret
theorem overM_g {M : me_M} {B : Nat} {th : Int32} {s : Sx} {x y : Int32} (h : MF M B th s) : Am M B (f_X7_over [.ref B, .int x, .int y] M) (if isV (sN s) x ∧ isV (sN s) y ∧ (sV s y.toNatClampNeg).1 = 0 then 1 else 0) (if isV (sN s) x ∧ isV (sN s) y ∧ (sV s y.toNatClampNeg).1 = 0 then (0, s) else t2 s x y qDiv) := by
  rw [e_X7_over, h.i0]
  exact (two_th (op := 3) h (Or.inl rfl)).ret
theorem restM_g {M : me_M} {B : Nat} {th : Int32} {s : Sx} {x y : Int32} (h : MF M B th s) : Am M B (f_X7_rest [.ref B, .int x, .int y] M) (if isV (sN s) x ∧ isV (sN s) y ∧ (sV s y.toNatClampNeg).1 = 0 then 1 else 0) (if isV (sN s) x ∧ isV (sN s) y ∧ (sV s y.toNatClampNeg).1 = 0 then (0, s) else t2 s x y qRem) := by
  rw [e_X7_rest, h.i0]
  exact (two_th (op := 4) h (Or.inr rfl)).ret
