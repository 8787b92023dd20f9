/-! whole -/
theorem qWm_lt {a : Qn} {how : Nat} (h : Fits a) : qWm a how < 2 ^ 512 := by
  unfold qWm
  have h1 := h.1
  have h3 := mr_le how a.1 (a.2.1 % a.2.2) a.2.2 (a.2.1 / a.2.2)
  by_cases e : a.2.1 % a.2.2 = 0
  · rw [if_pos e, Nat.add_zero]
    exact Nat.lt_of_le_of_lt (Nat.div_le_self _ _) h1
  · rw [if_neg e]
    generalize mr how a.1 (a.2.1 % a.2.2) a.2.2 (a.2.1 / a.2.2) = r at h3
    generalize 2 ^ 512 = P at h1 ⊢
    rcases Nat.lt_or_ge a.2.2 2 with k | k
    · have : a.2.2 = 0 ∨ a.2.2 = 1 := by omega
      rcases this with z | z
      · rw [z, Nat.div_zero]
        rw [z, Nat.mod_zero] at e
        omega
      · rw [z, Nat.mod_one] at e
        exact absurd rfl e
    · have h4 : a.2.1 / a.2.2 ≤ a.2.1 / 2 := Nat.div_le_div_left k (by decide)
      have h5 : a.2.1 ≠ 0 := fun z => e (by rw [z, Nat.zero_mod])
      omega
theorem qWhole_nf {a : Qn} {how : Nat} (h : Nf a) : Nf (qWhole a how) := by
  unfold qWhole
  refine ⟨?_, ?_, Nat.one_pos, Nat.coprime_one_right _⟩
  · show (if qWm a how = 0 then 0 else a.1) = 0 ∨ (if qWm a how = 0 then 0 else a.1) = 1 ∨ (if qWm a how = 0 then 0 else a.1) = -1
    split
    · exact Or.inl rfl
    · exact h.1
  · show (if qWm a how = 0 then 0 else a.1) = 0 ↔ qWm a how = 0
    constructor
    · intro e
      by_cases k : qWm a how = 0
      · exact k
      · rw [if_neg k] at e
        have := h.2.1.mp e
        unfold qWm
        rw [this, Nat.zero_div, Nat.zero_mod, if_pos rfl]
    · intro e; rw [if_pos e]
theorem fi_p {q : Qn} (h : Fits q) : fi q = 1 := if_pos h
theorem whole_190 {M : me_M} {B how : Nat} {th : Int32} {s : Sx} {reg : Nat → Nat} {sg : Nat → Int} {S : Sto} {sz wf : Nat → Int32} {a : Qn} (h : MG M B th s reg sg S sz wf) (hN : sN s < 240) (h0 : reg 0 = qWm a how) (h1 : sg 1 = a.1) (na : Nf a) (fa : Fits a) : Am M B (sm T_X7_whole (190, [(0, .ref B)], [], M, 0, 0)) th (kp s (qWhole a how)) := by
  obtain ⟨_, sf, s1, s2⟩ := h.ms
  obtain ⟨t, tl, nf, z, k0, k2, kn, kz, kz0⟩ := h.ms.1.n (x := 0) (by omega)
  rw [h0] at kz0
  have hfit : Fits (qWhole a how) := ⟨qWm_lt fa, one_lt512⟩
  have key : ∀ v : Int, v = (if qWm a how = 0 then 0 else a.1) → Am M B (sm T_X7_whole (214, [(0, .ref B)], [.int (iZ v), .int (0 : Int32), .ref (B + 3)], M, 0, 0)) th (kp s (qWhole a how)) := by
    intro v hv
    have m3 := MS.sg (f := 0) (v := v) h.ms.1 s2
    have g3' := h.fs FS.s3 m3 h.r18
    obtain ⟨M', f1, P1, F1⟩ := put_g (x := 1) (U := 1) g3'.ms.1 (by omega) (by omega)
    have f1' : f_X7_put [.ref B, .int (1 : Int32), .long (1 : Int64)] (me_set M (B + 3) (.inl (0, 4, .inl (upd sf 0 (iZ v))))) = _ := f1
    have m4 := g3'.fs F1.fs (g3'.ms.fm F1 P1) (by rw [up_n _ _ (by omega)]; exact h.r18)
    have c := comes_g (q := qWhole a how) m4 hN ⟨(us_s _ _ _).trans hv, by rw [up_n _ _ (by omega)]; exact h0, up_s _ _ _⟩ (qWhole_nf na)
    rw [fi_p hfit] at c
    rw [e_X7_whole_214]
    simp only [vF, bS, s1]
    rw [if_neg (nob n0 (by decide)), cl0, g3'.i0, f1']
    simp only [bS, cNn]
    rw [m4.i0]
    exact Am.trans (FS.s3.fb.trans F1.fs.fb) c.ret
  rw [e_X7_whole_190]
  simp only [h.o, bS, mf2, mf3, vF, k2, s1, cl0, cl1, kn, s2 1 (by omega), h1]
  rw [if_neg (nob n0 (by decide))]
  by_cases e : qWm a how = 0
  · rw [if_pos (by rw [kz0.mpr e]; rfl)]
    exact key 0 (by rw [if_pos e])
  · have z0 : z ≠ 0 := fun q => e (kz0.mp q)
    rw [if_neg (by rw [z_0, iZ_eq (by omega) (by omega)]; omega), if_neg (nob n1 (by decide))]
    exact key a.1 (by rw [if_neg e])
theorem whole_178 {M : me_M} {B how more : Nat} {th : Int32} {s : Sx} {reg : Nat → Nat} {sg : Nat → Int} {S : Sto} {sz wf : Nat → Int32} {a : Qn} (h : MG M B th s reg sg S sz wf) (hN : sN s < 240) (hm : more ≤ 1) (h0 : reg 0 + more = qWm a how) (h1 : sg 1 = a.1) (na : Nf a) (fa : Fits a) : Am M B (sm T_X7_whole (178, [(0, .ref B), (3, .int (iZ more))], [], M, 0, 0)) th (kp s (qWhole a how)) := by
  rw [e_X7_whole_178]
  by_cases e : more = 0
  · subst e
    rw [if_pos (by rfl)]
    exact whole_190 h hN (by omega) h1 na fa
  · have e1 : more = 1 := by omega
    subst e1
    rw [if_neg (by decide), h.i0]
    have hl : reg 0 < 2 ^ (16 * 159) := by
      have h2 := qWm_lt (how := how) fa
      have : reg 0 < 2 ^ 512 := by omega
      exact pw16 (p512 this) (by omega)
    obtain ⟨M', f1, P1, F1⟩ := plus_g (z := 0) (x := 0) (y := 18) h.ms.1 (by omega) (by omega) (by omega) hl (by rw [h.r18]; exact Nat.one_lt_two_pow (by decide))
    have f1' : f_X7_plus [.ref B, .int (0 : Int32), .int (0 : Int32), .int (18 : Int32)] M = _ := f1
    rw [f1']
    simp only [bS, cNn]
    have m1 := h.fs F1.fs (h.ms.fm F1 P1) (by rw [up_n _ _ (by omega)]; exact h.r18)
    exact Am.trans F1.fs.fb (whole_190 m1 hN (by rw [up_s, h.r18]; exact h0) h1 na fa)
theorem wholeM_g {M : me_M} {B : Nat} {th : Int32} {s : Sx} {x y : Int32} (h : MF M B th s) : Am M B (f_X7_whole [.ref B, .int x, .int y] M) 0 (tWh s x y) := by
  obtain ⟨Y, e, y1, y2, t⟩ := i_rep y
  obtain ⟨reg, sg, S, sz, wf, h⟩ := h
  have hn := h.n
  have hm := h.m
  have m := h.th (th' := 0)
  have F : FB M (me_set M B (.inr (7, mfo B 0 s))) B := FB.set (by omega)
  rw [e_X7_whole]
  simp only [h.o, bS, ml0, mt0]
  obtain ⟨N, hN⟩ : ∃ N, N = me_set M B (.inr (7, mfo B 0 s)) := ⟨_, rfl⟩
  have hN' : N = me_set M B (.inr (7, [.int 0, .ref (B + 1), .ref (B + 2), .ref (B + 3), .ref (B + 4), .ref (B + 5), .ref (B + 6), .ref (B + 7), .ref (B + 8), .int (iZ (sN s)), .int (iZ (sR s)), .ref (B + 9), .int (iZ (sW s)), .ref (B + 10), .int (iZ (sT s)), .ref (B + 11)])) := hN
  rw [← hN] at m F
  rw [← hN']
  simp only [m.o, bS, isValueM_s m.ob m.n, vI, mf9]
  refine Am.trans F ?_
  by_cases hx : isV (sN s) x
  · rw [if_pos hx, if_neg i10]
    by_cases hy0 : Y < 0
    · rw [if_pos (by rw [e, z_0, iZ_lt (by omega) (by omega)]; exact hy0), c00, show tWh s x y = (-2, s) from if_neg (fun k => by have := k.2.1; omega)]
      exact Am.val ⟨reg, sg, S, sz, wf, m⟩
    · rw [if_neg (by rw [e, z_0, iZ_lt (by omega) (by omega)]; exact hy0)]
      by_cases hy3 : Y ≤ 3
      · rw [if_pos (by rw [e, show (3 : Int32) = iZ 3 from rfl, iZ_le (by omega) (by omega)]; exact hy3), show tWh s x y = if sN s = 240 then (-3, s) else kp s (qWhole (sV s x.toNatClampNeg) y.toNatClampNeg) from if_pos ⟨hx, by constructor <;> omega⟩]
        by_cases hf : sN s = 240
        · rw [if_pos (by rw [hf]; rfl), c00, if_pos hf]
          exact Am.val ⟨reg, sg, S, sz, wf, m⟩
        · rw [if_neg (by rw [show (240 : Int32) = iZ 240 from rfl, iZ_eq (by omega) (by omega)]; omega), if_neg hf]
          obtain ⟨i, i1, i2, i3⟩ := hx.ix (by omega)
          obtain ⟨j, j1, j2, j3⟩ := isV.ix (n := 4) (x := y) (by constructor <;> omega) (by omega)
          have Ka := m.V i i1
          rw [i3, j3]
          obtain ⟨a, hae⟩ : ∃ a, a = sV s i := ⟨_, rfl⟩
          rw [← hae] at Ka ⊢
          have k1 := Ka.1.1
          have hD := Ka.1.2.2.1
          obtain ⟨M1, f1, m1, F1⟩ := load_mg (f := 1) (v := i) m (by omega) (by omega) Ka
          have f1' : f_X7_load [.ref B, .int (1 : Int32), .int (iZ i)] N = _ := f1
          have m1 : MG M1 B 0 s (up (up reg 2 a.2.1) 3 a.2.2) (us sg 1 a.1) S sz wf := m1
          have r2 : up (up reg 2 a.2.1) 3 a.2.2 2 = a.2.1 := by rw [up_n _ _ (by omega), up_s]
          obtain ⟨M2, f2, P2, F2⟩ := copy_g (x := 12) (y := 2) m1.ms.1 (by omega) (by omega) (by omega)
          rw [r2] at P2
          have f2' : f_X7_copy [.ref B, .int (12 : Int32), .int (2 : Int32)] M1 = _ := f2
          have q12 : up (up (up reg 2 a.2.1) 3 a.2.2) 12 a.2.1 12 = a.2.1 := up_s _ _ _
          have q3 : up (up (up reg 2 a.2.1) 3 a.2.2) 12 a.2.1 3 = a.2.2 := by rw [up_n _ _ (by omega), up_s]
          obtain ⟨M3, f3, P3, F3⟩ := divide_g (x := 12) (b := 3) (q := 0) (qi := 0) P2 (by omega) (by omega) (by omega) (by omega) (by omega) (Or.inr ⟨by omega, rfl⟩) (by rw [q3]; exact hD)
          have ed : dvR (up (up (up reg 2 a.2.1) 3 a.2.2) 12 a.2.1) 12 0 (up (up (up reg 2 a.2.1) 3 a.2.2) 12 a.2.1 12) (up (up (up reg 2 a.2.1) 3 a.2.2) 12 a.2.1 3) = up (up (up (up reg 2 a.2.1) 3 a.2.2) 12 (a.2.1 % a.2.2)) 0 (a.2.1 / a.2.2) := by
            unfold dvR
            rw [if_pos (by omega), q12, q3, up_up]
          rw [ed] at P3
          have f3' : f_X7_divide [.ref B, .int (12 : Int32), .int (3 : Int32), .int (0 : Int32)] M2 = _ := f3
          have F23 := F2.trans F3
          have m3 := m1.fs F23.fs (m1.ms.fm F23 P3) (by rw [up_n _ _ (by omega), up_n _ _ (by omega)]; exact m1.r18)
          have r0 : up (up (up (up reg 2 a.2.1) 3 a.2.2) 12 (a.2.1 % a.2.2)) 0 (a.2.1 / a.2.2) 0 = a.2.1 / a.2.2 := up_s _ _ _
          have r12 : up (up (up (up reg 2 a.2.1) 3 a.2.2) 12 (a.2.1 % a.2.2)) 0 (a.2.1 / a.2.2) 12 = a.2.1 % a.2.2 := by rw [up_n _ _ (by omega), up_s]
          have r3 : up (up (up (up reg 2 a.2.1) 3 a.2.2) 12 (a.2.1 % a.2.2)) 0 (a.2.1 / a.2.2) 3 = a.2.2 := by rw [up_n _ _ (by omega), up_n _ _ (by omega), up_s]
          have sg1 : us sg 1 a.1 1 = a.1 := us_s _ _ _
          rw [i2, f1']
          simp only [bS, cNn]
          rw [m1.i0, f2']
          simp only [bS, cNn]
          rw [e_X7_whole_51, P2.i0, f3']
          obtain ⟨tv, tl, nf, z, k0, k2, kn, kz, kz0⟩ := P3.n (x := 12) (by omega)
          rw [r12] at kz0
          have c12 : (12 : Int32).toNatClampNeg = 12 := rfl
          simp only [bS, cNn, k0, g2, vF, k2, c12, kn]
          rw [if_neg (nob (by decide) (by omega))]
          refine Am.trans (F1.fb.trans F23.fs.fb) ?_
          by_cases er : a.2.1 % a.2.2 = 0
          · rw [if_pos (by rw [kz0.mpr er]; decide)]
            exact whole_178 (more := 0) m3 (by omega) (by omega) (by rw [r0]; unfold qWm; rw [if_pos er]) sg1 Ka.1 Ka.2.1
          · have z0 : z ≠ 0 := fun q => er (kz0.mp q)
            rw [if_neg (by rw [z_0, iZ_le (by omega) (by omega)]; omega)]
            have hml : a.2.1 % a.2.2 < a.2.2 := Nat.mod_lt _ hD
            have hl : a.2.1 % a.2.2 < 2 ^ (16 * 159) := pw16 (p512 (Nat.lt_trans hml Ka.2.1.2)) (by omega)
            obtain ⟨M4, f4, P4, F4⟩ := plus_g (z := 10) (x := 12) (y := 12) m3.ms.1 (by omega) (by omega) (by omega) (by rw [r12]; exact hl) (by rw [r12]; exact hl)
            rw [r12] at P4
            have f4' : f_X7_plus [.ref B, .int (10 : Int32), .int (12 : Int32), .int (12 : Int32)] M3 = _ := f4
            have m4 := m3.fs F4.fs (m3.ms.fm F4 P4) (by rw [up_n _ _ (by omega)]; exact m3.r18)
            have fc : f_X7_compare [.ref B, .int (10 : Int32), .int (3 : Int32)] M4 = _ := cmp_g (x := 10) (y := 3) P4 (by omega) (by omega)
            rw [up_s, up_n (i := 10) (j := 3) _ _ (by omega), r3] at fc
            have fat : f_X7_at [.ref B, .int (0 : Int32), .int (0 : Int32)] M4 = some (some (.int (iZ (dg 16 (a.2.1 / a.2.2) 0))), M4) := by
              obtain ⟨rf, nf4, hL, hR⟩ := P4
              have RX0 := hR 0 (by omega)
              rw [up_n _ _ (by omega), r0] at RX0
              exact at_g (x := 0) (i := 0) hL (by omega) RX0 (by omega)
            rw [f4']
            simp only [bS, cNn]
            rw [m4.i0, fc]
            simp only [bS, vI]
            rw [m4.i0, fat]
            simp only [bS, vI]
            have d16 := dg_16 (a.2.1 / a.2.2) 0
            have hodd : dg 16 (a.2.1 / a.2.2) 0 % 2 = a.2.1 / a.2.2 % 2 := by
              unfold dg
              rw [Nat.mul_zero, Nat.pow_zero, Nat.div_one, show (2 : Nat) ^ 16 = 65536 by decide]
              omega
            have erem : iZ ((dg 16 (a.2.1 / a.2.2) 0 : Nat) : Int) - iZ ((dg 16 (a.2.1 / a.2.2) 0 : Nat) : Int) / (2 : Int32) * (2 : Int32) = iZ ((a.2.1 / a.2.2 % 2 : Nat) : Int) := by
              rw [← hodd]
              exact iZ_rem (b := 2) (by omega) (by omega) (by omega)
            refine Am.trans F4.fs.fb ?_
            have r0' : up (up (up (up (up reg 2 a.2.1) 3 a.2.2) 12 (a.2.1 % a.2.2)) 0 (a.2.1 / a.2.2)) 10 (a.2.1 % a.2.2 + a.2.1 % a.2.2) 0 = a.2.1 / a.2.2 := by rw [up_n _ _ (by omega), r0]
            have fin : ∀ mo : Nat, mo = mr j a.1 (a.2.1 % a.2.2) a.2.2 (a.2.1 / a.2.2) → Am M4 B (sm T_X7_whole (177, [(0, .ref B)], [.int (iZ mo)], M4, 0, 0)) 0 (kp s (qWhole a j)) := by
              intro mo hmo
              rw [e_X7_whole_177]
              exact whole_178 m4 (by omega) (by rw [hmo]; exact mr_le _ _ _ _ _) (by rw [r0', hmo]; unfold qWm; rw [if_neg er]) sg1 Ka.1 Ka.2.1
            have fin0 : mr j a.1 (a.2.1 % a.2.2) a.2.2 (a.2.1 / a.2.2) = 0 → Am M4 B (sm T_X7_whole (177, [(0, .ref B)], [.int (0 : Int32)], M4, 0, 0)) 0 (kp s (qWhole a j)) := fun q => fin 0 q.symm
            have fin1 : mr j a.1 (a.2.1 % a.2.2) a.2.2 (a.2.1 / a.2.2) = 1 → Am M4 B (sm T_X7_whole (177, [(0, .ref B)], [.int (1 : Int32)], M4, 0, 0)) 0 (kp s (qWhole a j)) := fun q => fin 1 q.symm
            obtain ⟨_, sf, s1, s2⟩ := m4.ms
            have s107 : ∀ od : Int32, (od = 1 ↔ a.2.1 / a.2.2 % 2 = 1) → (od = 0 ∨ od = 1) → Am M4 B (sm T_X7_whole (107, [(0, .ref B), (2, .int y), (4, .int (cmpN (a.2.1 % a.2.2 + a.2.1 % a.2.2) a.2.2))], [.int od], M4, 0, 0)) 0 (kp s (qWhole a j)) := by
              intro od ho ho2
              rw [e_X7_whole_107]
              simp only [m4.o, bS, mf3, vF, s1, cl1, s2 1 (by omega), sg1]
              rw [j2]
              have hc : j = 0 ∨ j = 1 ∨ j = 2 ∨ j = 3 := by omega
              rcases hc with rfl | rfl | rfl | rfl
              · rw [if_pos (by rfl), if_neg (nob n1 (by decide))]
                by_cases hs : 0 ≤ a.1
                · rw [if_pos (by rw [z_0, iZ_le (by omega) (by omega)]; exact hs)]
                  exact fin0 (by unfold mr; rw [if_neg (by omega), if_neg (by omega)])
                · rw [if_neg (by rw [z_0, iZ_le (by omega) (by omega)]; exact hs)]
                  exact fin1 (by unfold mr; rw [if_neg (by omega), if_pos (by omega)])
              · rw [if_neg (by decide), if_pos (by rfl), if_neg (nob n1 (by decide))]
                by_cases hs : a.1 ≤ 0
                · rw [if_pos (by rw [z_0, iZ_le (by omega) (by omega)]; exact hs)]
                  exact fin0 (by unfold mr; rw [if_neg (by omega), if_neg (by omega)])
                · rw [if_neg (by rw [z_0, iZ_le (by omega) (by omega)]; exact hs)]
                  exact fin1 (by unfold mr; rw [if_neg (by omega), if_pos (by omega)])
              · rw [if_neg (by decide), if_neg (by decide), if_pos (by rfl), e_X7_whole_172, e_X7_whole_176]
                by_cases hgt : a.2.2 < a.2.1 % a.2.2 + a.2.1 % a.2.2
                · rw [if_pos (cmp_p.mpr hgt)]
                  exact fin1 (by unfold mr; rw [if_pos rfl, if_pos (Or.inl (by omega))])
                · rw [if_neg (fun q => hgt (cmp_p.mp q))]
                  by_cases heq : a.2.1 % a.2.2 + a.2.1 % a.2.2 = a.2.2
                  · rw [if_pos (cmp_z.mpr heq)]
                    rcases ho2 with q | q
                    · rw [if_pos q]
                      have : ¬ a.2.1 / a.2.2 % 2 = 1 := fun z => by rw [ho.mpr z] at q; exact absurd q (by decide)
                      exact fin0 (by unfold mr; rw [if_pos rfl, if_neg (by omega)])
                    · rw [if_neg (by rw [q]; exact i10)]
                      exact fin1 (by unfold mr; rw [if_pos rfl, if_pos (Or.inr ⟨by omega, ho.mp q⟩)])
                  · rw [if_neg (fun q => heq (cmp_z.mp q))]
                    exact fin0 (by unfold mr; rw [if_pos rfl, if_neg (by omega)])
              · rw [if_neg (by decide), if_neg (by decide), if_neg (by decide), e_X7_whole_176]
                exact fin0 (by unfold mr; rw [if_neg (by omega), if_neg (by omega)])
            rw [e_X7_whole_96, if_neg (by decide : ¬ (2 : Int32) = 0), erem]
            by_cases ho : a.2.1 / a.2.2 % 2 = 1
            · rw [if_pos (by rw [ho]; rfl)]
              exact s107 1 ⟨fun _ => ho, fun _ => rfl⟩ (Or.inr rfl)
            · rw [if_neg (by rw [z_1, iZ_eq (by omega) (by omega)]; omega)]
              exact s107 0 ⟨fun q => absurd q (by decide), fun q => absurd q ho⟩ (Or.inl rfl)
      · rw [if_neg (by rw [e, show (3 : Int32) = iZ 3 from rfl, iZ_le (by omega) (by omega)]; exact hy3), c00, show tWh s x y = (-2, s) from if_neg (fun k => by have := k.2.2; omega)]
        exact Am.val ⟨reg, sg, S, sz, wf, m⟩
  · rw [if_neg hx, if_pos rfl, c00, show tWh s x y = (-2, s) from if_neg (fun k => hx k.1)]
    exact Am.val ⟨reg, sg, S, sz, wf, m⟩
