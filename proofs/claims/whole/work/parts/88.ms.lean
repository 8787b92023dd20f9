/-! the reference: lead, alike, count, letter, clear -/
theorem leads_l {M : me_M} {B r : Nat} {th : Int32} {s : Sx} {reg : Nat → Nat} {sg : Nat → Int} {S : Sto} {sz wf : Nat → Int32} (h : MG M B th s reg sg S sz wf) (hr : r < sR s) : ∀ (d k : Nat), d + k = sL s r → sm T_X7_leads (2, [(0, .ref B), (1, .int (iZ r)), (2, .int (iZ k))], [], M, 0, 0) = some (some (.int (iZ (ld (sP s r) d k))), M) := by
  obtain ⟨a1, a2, a3, a4⟩ := h.R r hr
  have hm := h.m
  intro d
  induction d with
  | zero =>
    intro k hd
    rw [e_X7_leads_2]
    simp only [h.o, bS, mf11, vF, h.i9]
    rw [iZ_clampN (by omega), if_neg (nob (iZ_n0 (by omega)) (by omega))]
    simp only [a3]
    rw [if_pos (by rw [iZ_le (by omega) (by omega)]; omega), c00]
    rfl
  | succ d ih =>
    intro k hd
    obtain ⟨Ka, la, _⟩ := Kq.at h hr (show k < sL s r by omega)
    rw [e_X7_leads_2]
    simp only [h.o, bS, mf4, mf11, vF, h.i9, place_g, vI, h.st.1]
    rw [iZ_clampN (by omega : r < 2147483648), if_neg (nob (iZ_n0 (by omega)) (by omega))]
    simp only [a3]
    rw [if_neg (by rw [iZ_le (by omega) (by omega)]; omega), iZ_clampN (by omega : 240 + 10 * r + k < 2147483648), if_neg (nob (iZ_n0 (by omega)) (by omega))]
    simp only [Ka.2.2.1]
    show _ = some (some (Value.int (iZ (if (sP s r k).1 = 0 then ld (sP s r) d (k + 1) else (k : Int)))), M)
    by_cases hz : (sP s r k).1 = 0
    · rw [if_pos ((sgz Ka.1.1).mpr hz), if_pos hz, z_p1]
      exact ih (k + 1) (by omega)
    · rw [if_neg (fun z => hz ((sgz Ka.1.1).mp z)), if_neg hz, c00]
theorem leads_g {M : me_M} {B r : Nat} {th : Int32} {s : Sx} {reg : Nat → Nat} {sg : Nat → Int} {S : Sto} {sz wf : Nat → Int32} (h : MG M B th s reg sg S sz wf) (hr : r < sR s) : f_X7_leads [.ref B, .int (iZ r)] M = some (some (.int (iZ (ld (sP s r) (sL s r) 0))), M) := by
  rw [e_X7_leads]
  exact leads_l h hr (sL s r) 0 (by omega)
theorem leadM_g {M : me_M} {B : Nat} {th : Int32} {s : Sx} {x : Int32} (h : MF M B th s) : Am M B (f_X7_lead [.ref B, .int x] M) 0 (tLe s x) := by
  obtain ⟨reg, sg, S, sz, wf, h⟩ := h
  have hn := h.n
  have hm := h.m
  have m := h.th (th' := 0)
  have F : FB M (me_set M B (.inr (7, mfo B 0 s))) B := FB.set (by omega)
  rw [e_X7_lead]
  simp only [h.o, bS, ml0, mt0]
  obtain ⟨N, hN⟩ : ∃ N, N = me_set M B (.inr (7, mfo B 0 s)) := ⟨_, rfl⟩
  have hN' : N = me_set M B (.inr (7, [.int 0, .ref (B + 1), .ref (B + 2), .ref (B + 3), .ref (B + 4), .ref (B + 5), .ref (B + 6), .ref (B + 7), .ref (B + 8), .int (iZ (sN s)), .int (iZ (sR s)), .ref (B + 9), .int (iZ (sW s)), .ref (B + 10), .int (iZ (sT s)), .ref (B + 11)])) := hN
  rw [← hN] at m F
  rw [← hN']
  simp only [m.o, bS, isRowM_s m.ob m.m, vI]
  refine Am.trans F ?_
  by_cases hx : isV (sR s) x
  · rw [if_pos hx, if_neg i10, show tLe s x = _ from if_pos hx]
    obtain ⟨r, r1, r2, r3⟩ := hx.ix (by omega)
    rw [r3, r2, leads_g m r1]
    simp only [bS, vI]
    rw [c00]
    exact Am.val ⟨reg, sg, S, sz, wf, m⟩
  · rw [if_neg hx, if_pos rfl, c00, show tLe s x = (-2, s) from if_neg hx]
    exact Am.val ⟨reg, sg, S, sz, wf, m⟩
theorem across3_g {M : me_M} {B r r' k p : Nat} {th : Int32} {s : Sx} {reg : Nat → Nat} {sg : Nat → Int} {S : Sto} {sz wf : Nat → Int32} (h : MG M B th s reg sg S sz wf) (hr : r < sR s) (hr' : r' < sR s) (he : sL s r = sL s r') (hk : k < sL s r) (hp : p < sL s r) :
    ∃ (M' : me_M) (reg' : Nat → Nat) (sg' : Nat → Int), f_X7_areAcross [.ref B, .int (iZ r), .int (iZ r'), .int (iZ k), .int (iZ p)] M = some (some (.int (if qRx (sP s r k) (sP s r p) (sP s r' k) (sP s r' p) then 1 else 0)), M') ∧ MG M' B th s reg' sg' S sz wf ∧ FS M M' B := by
  obtain ⟨Ka, la, _⟩ := Kq.at h hr hk
  obtain ⟨Kb, lb, _⟩ := Kq.at h hr hp
  obtain ⟨Kc, lc, _⟩ := Kq.at h hr' (show k < sL s r' by omega)
  obtain ⟨Kd, ld', _⟩ := Kq.at h hr' (show p < sL s r' by omega)
  obtain ⟨a, ha⟩ : ∃ a, a = sP s r k := ⟨_, rfl⟩
  obtain ⟨b, hb⟩ : ∃ b, b = sP s r p := ⟨_, rfl⟩
  obtain ⟨c, hc⟩ : ∃ c, c = sP s r' k := ⟨_, rfl⟩
  obtain ⟨d, hd⟩ : ∃ d, d = sP s r' p := ⟨_, rfl⟩
  rw [← ha] at Ka ⊢
  rw [← hb] at Kb ⊢
  rw [← hc] at Kc ⊢
  rw [← hd] at Kd ⊢
  rw [e_X7_areAcross]
  simp only [h.o, bS, mf4, vF, place_g, vI, h.st.1]
  rw [iZ_clampN (by omega : 240 + 10 * r + k < 2147483648), iZ_clampN (by omega : 240 + 10 * r' + p < 2147483648), iZ_clampN (by omega : 240 + 10 * r' + k < 2147483648), if_neg (nob (iZ_n0 (by omega)) (by omega)), if_neg (nob (iZ_n0 (by omega)) (by omega)), if_neg (nob (iZ_n0 (by omega)) (by omega)), Ka.2.2.1, Kd.2.2.1, Kc.2.2.1, e_X7_areAcross_46]
  simp only [vF, bS, h.st.1]
  rw [iZ_clampN (by omega : 240 + 10 * r + p < 2147483648), if_neg (nob (iZ_n0 (by omega)) (by omega))]
  simp only [Kb.2.2.1]
  by_cases hs : a.1 * d.1 = c.1 * b.1
  · rw [if_pos ((sgm Ka.1.1 Kd.1.1 Kc.1.1 Kb.1.1).mpr hs), place_g]
    obtain ⟨M1, l1, m1, F1⟩ := load_mg (f := 1) (v := 240 + 10 * r + k) h (by omega) (by omega) Ka
    obtain ⟨M2, l2, m2, F2⟩ := load_mg (f := 2) (v := 240 + 10 * r' + p) m1 (by omega) (by omega) Kd
    have l1' : f_X7_load [.ref B, .int (1 : Int32), .int (iZ ((240 + 10 * r + k : Nat) : Int))] M = _ := l1
    have l2' : f_X7_load [.ref B, .int (2 : Int32), .int (iZ ((240 + 10 * r' + p : Nat) : Int))] M1 = _ := l2
    have v2 : up (up (up (up reg (2 * 1) a.2.1) (2 * 1 + 1) a.2.2) (2 * 2) d.2.1) (2 * 2 + 1) d.2.2 2 = a.2.1 := by rw [up_n _ _ (by omega), up_n _ _ (by omega), up_n _ _ (by omega), up_s]
    have v3 : up (up (up (up reg (2 * 1) a.2.1) (2 * 1 + 1) a.2.2) (2 * 2) d.2.1) (2 * 2 + 1) d.2.2 3 = a.2.2 := by rw [up_n _ _ (by omega), up_n _ _ (by omega), up_s]
    have v4 : up (up (up (up reg (2 * 1) a.2.1) (2 * 1 + 1) a.2.2) (2 * 2) d.2.1) (2 * 2 + 1) d.2.2 4 = d.2.1 := by rw [up_n _ _ (by omega), up_s]
    have v5 : up (up (up (up reg (2 * 1) a.2.1) (2 * 1 + 1) a.2.2) (2 * 2) d.2.1) (2 * 2 + 1) d.2.2 5 = d.2.2 := up_s _ _ _
    obtain ⟨R, hR⟩ : ∃ R, R = up (up (up (up reg (2 * 1) a.2.1) (2 * 1 + 1) a.2.2) (2 * 2) d.2.1) (2 * 2 + 1) d.2.2 := ⟨_, rfl⟩
    rw [← hR] at v2 v3 v4 v5 m2
    obtain ⟨M3, f3, P3, F3⟩ := mul_g (z := 16) (x := 2) (y := 4) 32 32 m2.ms.1 (by omega) (by omega) (by omega) (by omega) (by omega) (by rw [v2]; exact p512 Ka.2.1.1) (by rw [v4]; exact p512 Kd.2.1.1) (by omega)
    rw [v2, v4] at P3
    obtain ⟨M4, f4, P4, F4⟩ := mul_g (z := 17) (x := 3) (y := 5) 32 32 P3 (by omega) (by omega) (by omega) (by omega) (by omega) (by rw [up_n _ _ (by omega), v3]; exact p512 Ka.2.1.2) (by rw [up_n _ _ (by omega), v5]; exact p512 Kd.2.1.2) (by omega)
    rw [up_n (i := 16) (j := 3) _ _ (by omega), up_n (i := 16) (j := 5) _ _ (by omega), v3, v5] at P4
    have f3' : f_X7_multiply [.ref B, .int (16 : Int32), .int (2 : Int32), .int (4 : Int32)] M2 = _ := f3
    have f4' : f_X7_multiply [.ref B, .int (17 : Int32), .int (3 : Int32), .int (5 : Int32)] M3 = _ := f4
    have F34 := F3.trans F4
    have m4 := m2.fs F34.fs (m2.ms.fm F34 P4) (by rw [up_n _ _ (by omega), up_n _ _ (by omega)]; exact m2.r18)
    obtain ⟨M5, l5, m5, F5⟩ := load_mg (f := 1) (v := 240 + 10 * r' + k) m4 (by omega) (by omega) Kc
    obtain ⟨M6, l6, m6, F6⟩ := load_mg (f := 2) (v := 240 + 10 * r + p) m5 (by omega) (by omega) Kb
    have l5' : f_X7_load [.ref B, .int (1 : Int32), .int (iZ ((240 + 10 * r' + k : Nat) : Int))] M4 = _ := l5
    have l6' : f_X7_load [.ref B, .int (2 : Int32), .int (iZ ((240 + 10 * r + p : Nat) : Int))] M5 = _ := l6
    obtain ⟨R2, hR2⟩ : ∃ R2, R2 = up (up (up (up (up (up R 16 (a.2.1 * d.2.1)) 17 (a.2.2 * d.2.2)) (2 * 1) c.2.1) (2 * 1 + 1) c.2.2) (2 * 2) b.2.1) (2 * 2 + 1) b.2.2 := ⟨_, rfl⟩
    have w2 : R2 2 = c.2.1 := by rw [hR2, up_n _ _ (by omega), up_n _ _ (by omega), up_n _ _ (by omega), up_s]
    have w3 : R2 3 = c.2.2 := by rw [hR2, up_n _ _ (by omega), up_n _ _ (by omega), up_s]
    have w4 : R2 4 = b.2.1 := by rw [hR2, up_n _ _ (by omega), up_s]
    have w5 : R2 5 = b.2.2 := by rw [hR2, up_s]
    have w16 : R2 16 = a.2.1 * d.2.1 := by rw [hR2, up_n _ _ (by omega), up_n _ _ (by omega), up_n _ _ (by omega), up_n _ _ (by omega), up_n _ _ (by omega), up_s]
    have w17 : R2 17 = a.2.2 * d.2.2 := by rw [hR2, up_n _ _ (by omega), up_n _ _ (by omega), up_n _ _ (by omega), up_n _ _ (by omega), up_s]
    rw [← hR2] at m6
    obtain ⟨M7, f7, P7, F7⟩ := mul_g (z := 10) (x := 2) (y := 4) 32 32 m6.ms.1 (by omega) (by omega) (by omega) (by omega) (by omega) (by rw [w2]; exact p512 Kc.2.1.1) (by rw [w4]; exact p512 Kb.2.1.1) (by omega)
    rw [w2, w4] at P7
    obtain ⟨M8, f8, P8, F8⟩ := mul_g (z := 11) (x := 3) (y := 5) 32 32 P7 (by omega) (by omega) (by omega) (by omega) (by omega) (by rw [up_n _ _ (by omega), w3]; exact p512 Kc.2.1.2) (by rw [up_n _ _ (by omega), w5]; exact p512 Kb.2.1.2) (by omega)
    rw [up_n (i := 10) (j := 3) _ _ (by omega), up_n (i := 10) (j := 5) _ _ (by omega), w3, w5] at P8
    have f7' : f_X7_multiply [.ref B, .int (10 : Int32), .int (2 : Int32), .int (4 : Int32)] M6 = _ := f7
    have f8' : f_X7_multiply [.ref B, .int (11 : Int32), .int (3 : Int32), .int (5 : Int32)] M7 = _ := f8
    have y16 : up (up R2 10 (c.2.1 * b.2.1)) 11 (c.2.2 * b.2.2) 16 = a.2.1 * d.2.1 := by rw [up_n _ _ (by omega), up_n _ _ (by omega), w16]
    have y11 : up (up R2 10 (c.2.1 * b.2.1)) 11 (c.2.2 * b.2.2) 11 = c.2.2 * b.2.2 := up_s _ _ _
    obtain ⟨M9, f9, P9, F9⟩ := mul_g (z := 12) (x := 16) (y := 11) 64 64 P8 (by omega) (by omega) (by omega) (by omega) (by omega) (by rw [y16]; exact pm16 32 32 (p512 Ka.2.1.1) (p512 Kd.2.1.1)) (by rw [y11]; exact pm16 32 32 (p512 Kc.2.1.2) (p512 Kb.2.1.2)) (by omega)
    rw [y16, y11] at P9
    have y10 : up (up (up R2 10 (c.2.1 * b.2.1)) 11 (c.2.2 * b.2.2)) 12 (a.2.1 * d.2.1 * (c.2.2 * b.2.2)) 10 = c.2.1 * b.2.1 := by rw [up_n _ _ (by omega), up_n _ _ (by omega), up_s]
    have y17 : up (up (up R2 10 (c.2.1 * b.2.1)) 11 (c.2.2 * b.2.2)) 12 (a.2.1 * d.2.1 * (c.2.2 * b.2.2)) 17 = a.2.2 * d.2.2 := by rw [up_n _ _ (by omega), up_n _ _ (by omega), up_n _ _ (by omega), w17]
    obtain ⟨M10, f10, P10, F10⟩ := mul_g (z := 13) (x := 10) (y := 17) 64 64 P9 (by omega) (by omega) (by omega) (by omega) (by omega) (by rw [y10]; exact pm16 32 32 (p512 Kc.2.1.1) (p512 Kb.2.1.1)) (by rw [y17]; exact pm16 32 32 (p512 Ka.2.1.2) (p512 Kd.2.1.2)) (by omega)
    rw [y10, y17] at P10
    have f9' : f_X7_multiply [.ref B, .int (12 : Int32), .int (16 : Int32), .int (11 : Int32)] M8 = _ := f9
    have f10' : f_X7_multiply [.ref B, .int (13 : Int32), .int (10 : Int32), .int (17 : Int32)] M9 = _ := f10
    have fc : f_X7_compare [.ref B, .int (12 : Int32), .int (13 : Int32)] M10 = _ := cmp_g (x := 12) (y := 13) P10 (by omega) (by omega)
    rw [up_s, up_n (i := 13) (j := 12) _ _ (by omega), up_s] at fc
    have F70 := ((F7.trans F8).trans F9).trans F10
    have m10 := m6.fs F70.fs (m6.ms.fm F70 P10) (by rw [up_n _ _ (by omega), up_n _ _ (by omega), up_n _ _ (by omega), up_n _ _ (by omega)]; exact m6.r18)
    simp only [bS, vI]
    rw [h.i0, l1']
    simp only [bS, cNn, place_g, vI]
    rw [m1.i0, l2']
    simp only [bS, cNn]
    rw [e_X7_areAcross_74, m2.i0, f3']
    simp only [bS, cNn]
    rw [P3.i0, f4']
    simp only [bS, cNn, place_g, vI]
    rw [m4.i0, l5']
    simp only [bS, cNn]
    rw [e_X7_areAcross_100, place_g]
    simp only [bS, vI]
    rw [m5.i0, l6']
    simp only [bS, cNn]
    rw [m6.i0, f7']
    simp only [bS, cNn]
    rw [P7.i0, f8']
    simp only [bS, cNn]
    rw [e_X7_areAcross_127, P8.i0, f9']
    simp only [bS, cNn]
    rw [P9.i0, f10']
    simp only [bS, cNn]
    rw [P10.i0, fc]
    simp only [bS, vI]
    refine ⟨M10, _, _, ?_, m10, ((((F1.trans F2).trans F34.fs).trans F5).trans F6).trans F70.fs⟩
    by_cases hx : a.2.1 * d.2.1 * (c.2.2 * b.2.2) = c.2.1 * b.2.1 * (a.2.2 * d.2.2)
    · rw [if_pos (cmp_z.mpr hx), cT1, c00, if_pos ⟨hs, hx⟩]
    · rw [if_neg (fun z => hx (cmp_z.mp z)), cT0, c00, if_neg (fun z => hx z.2)]
  · rw [if_neg (fun z => hs ((sgm Ka.1.1 Kd.1.1 Kc.1.1 Kb.1.1).mp z)), cT0, c00, if_neg (fun z => hs z.1)]
    exact ⟨M, reg, sg, rfl, h, FS.refl _ _⟩
theorem qCmp_0 {a b : Qn} (na : Nf a) (nb : Nf b) : qCmp a b = 0 ↔ a = b := by
  constructor
  · intro e
    unfold qCmp at e
    by_cases h : a.1 = b.1
    · rw [if_pos h] at e
      have key : a.2.1 * b.2.2 = b.2.1 * a.2.2 → a = b := by
        intro hx
        have ea : rd (b.1 * (b.2.1 : Int)) b.2.2 = (a.1, a.2.1, a.2.2) := rd_uniq na nb.2.2.1 (by
          rw [h, Int.mul_assoc, Int.mul_assoc]
          congr 1
          exact_mod_cast hx)
        have eb : rd (b.1 * (b.2.1 : Int)) b.2.2 = (b.1, b.2.1, b.2.2) := rd_uniq nb nb.2.2.1 rfl
        exact ea.symm.trans eb
      rcases na.1 with k | k | k
      · have z1 : a.2.1 = 0 := na.2.1.mp k
        have z2 : b.2.1 = 0 := nb.2.1.mp (by omega)
        exact key (by rw [z1, z2, Nat.zero_mul, Nat.zero_mul])
      · rw [k] at e
        refine key (cmp_z.mp ?_)
        unfold cmpN at e ⊢
        split at e
        · exact absurd e (by decide)
        · split at e
          · rename_i p q; rw [if_neg p, if_pos q]
          · exact absurd e (by decide)
      · rw [k] at e
        refine key (cmp_z.mp ?_)
        unfold cmpN at e ⊢
        split at e
        · exact absurd e (by decide)
        · split at e
          · rename_i p q; rw [if_neg p, if_pos q]
          · exact absurd e (by decide)
    · rw [if_neg h] at e
      split at e
      · exact absurd e (by decide)
      · exact absurd e (by decide)
  · intro e
    subst e
    unfold qCmp
    rw [if_pos rfl, show cmpN (a.2.1 * a.2.2) (a.2.1 * a.2.2) = 0 from cmp_z.mpr rfl]
    exact Int32.mul_zero
theorem ld_c {a b : Nat → Qn} : ∀ (d i : Nat), (∀ j, i ≤ j → j < i + d → a j = b j) → ld a d i = ld b d i := by
  intro d
  induction d with
  | zero => intro i _; rfl
  | succ d ih =>
    intro i h
    show (if (a i).1 = 0 then ld a d (i + 1) else (i : Int)) = (if (b i).1 = 0 then ld b d (i + 1) else (i : Int))
    rw [h i (by omega) (by omega), ih (i + 1) (fun j h1 h2 => h j (by omega) (by omega))]
/-- the loop of alike: w tells which -/
theorem alike_56 {B r r' p : Nat} {th : Int32} {s : Sx} {S : Sto} {sz wf : Nat → Int32} {w : Int32} (hr : r < sR s) (hr' : r' < sR s) (he : sL s r = sL s r') (hp : p < sL s r) (hw : w = 0 ∨ w = 1) : ∀ (d k : Nat) (M : me_M) (reg : Nat → Nat) (sg : Nat → Int), d + k = sL s r → MG M B th s reg sg S sz wf → (∀ j, j < k → (w = 0 → sP s r j = sP s r' j) ∧ (w = 1 → qRx (sP s r j) (sP s r p) (sP s r' j) (sP s r' p))) →
    Am M B (sm T_X7_alike (56, [(0, .ref B), (1, .int (iZ r)), (2, .int (iZ r')), (3, .int w), (4, .int (1 : Int32)), (5, .int (iZ p)), (6, .int (iZ k))], [], M, 0, 0)) th ((if w = 0 then (if ∀ j, j < sL s r → sP s r j = sP s r' j then 1 else 0) else if ∀ j, j < sL s r → qRx (sP s r j) (sP s r p) (sP s r' j) (sP s r' p) then 1 else 0), s) := by
  have z56 : ∀ (M : me_M) (reg : Nat → Nat) (sg : Nat → Int) (k : Nat) (x5 : Int32), MG M B th s reg sg S sz wf → Am M B (sm T_X7_alike (56, [(0, .ref B), (1, .int (iZ r)), (2, .int (iZ r')), (3, .int w), (4, .int (0 : Int32)), (5, .int x5), (6, .int (iZ k))], [], M, 0, 0)) th (0, s) := by
    intro M reg sg k x5 h
    have hm := h.m
    rw [e_X7_alike_56]
    simp only [h.o, bS, mf11, vF, h.i9]
    rw [iZ_clampN (by omega), if_neg (nob (iZ_n0 (by omega)) (by omega)), if_pos trivial, ite_self, e_X7_alike_142, if_pos rfl, c00]
    exact Am.val ⟨_, _, _, _, _, h⟩
  intro d
  induction d with
  | zero =>
    intro k M reg sg hd h hk
    obtain ⟨a1, a2, a3, a4⟩ := h.R r hr
    have hm := h.m
    rw [e_X7_alike_56]
    simp only [h.o, bS, mf11, vF, h.i9]
    rw [iZ_clampN (by omega), if_neg (nob (iZ_n0 (by omega)) (by omega))]
    simp only [a3]
    rw [if_pos (by rw [iZ_le (by omega) (by omega)]; omega), e_X7_alike_142, if_neg i10, c00]
    have e1 : (if w = 0 then (if ∀ j, j < sL s r → sP s r j = sP s r' j then (1 : Int32) else 0) else if ∀ j, j < sL s r → qRx (sP s r j) (sP s r p) (sP s r' j) (sP s r' p) then 1 else 0) = 1 := by
      rcases hw with q | q
      · rw [if_pos q, if_pos (fun j hj => (hk j (by omega)).1 q)]
      · rw [if_neg (by rw [q]; exact i10), if_pos (fun j hj => (hk j (by omega)).2 q)]
    rw [e1]
    exact Am.val ⟨_, _, _, _, _, h⟩
  | succ d ih =>
    intro k M reg sg hd h hk
    obtain ⟨a1, a2, a3, a4⟩ := h.R r hr
    have hm := h.m
    rw [e_X7_alike_56]
    simp only [h.o, bS, mf11, vF, h.i9]
    rw [iZ_clampN (by omega), if_neg (nob (iZ_n0 (by omega)) (by omega))]
    simp only [a3]
    rw [if_neg (by rw [iZ_le (by omega) (by omega)]; omega), if_neg i10, if_neg (by rw [show (-1 : Int32) = iZ (-1) from rfl, iZ_eq (by omega) (by omega)]; omega)]
    rcases hw with q | q
    · rw [if_neg (by rw [q]; decide), place_g]
      obtain ⟨Ka, la, _⟩ := Kq.at h hr (show k < sL s r by omega)
      obtain ⟨Kb, lb, _⟩ := Kq.at h hr' (show k < sL s r' by omega)
      obtain ⟨M1, l1, m1, F1⟩ := load_mg (f := 1) (v := 240 + 10 * r + k) h (by omega) (by omega) Ka
      obtain ⟨M2, l2, m2, F2⟩ := load_mg (f := 2) (v := 240 + 10 * r' + k) m1 (by omega) (by omega) Kb
      have l1' : f_X7_load [.ref B, .int (1 : Int32), .int (iZ ((240 + 10 * r + k : Nat) : Int))] M = _ := l1
      have l2' : f_X7_load [.ref B, .int (2 : Int32), .int (iZ ((240 + 10 * r' + k : Nat) : Int))] M1 = _ := l2
      obtain ⟨M3, reg3, f3, m3, F3, hr3⟩ := cmpF_g (x := 1) (y := 2) m2.ms (by omega) (by omega) ((Fq.ld reg sg 1 _).ne (by omega)) (Fq.ld _ _ 2 _) Ka.1 Kb.1 Ka.2.1 Kb.2.1
      have f3' : f_X7_compareFractions [.ref B, .int (1 : Int32), .int (2 : Int32)] M2 = _ := f3
      have g3' := m2.fs F3 m3 ((hr3 18 (by omega)).trans m2.r18)
      simp only [bS, vI]
      rw [h.i0, l1']
      simp only [bS, cNn, place_g, vI]
      rw [e_X7_alike_117, m1.i0, l2']
      simp only [bS, cNn]
      rw [m2.i0, f3']
      simp only [bS, vI]
      refine Am.trans ((F1.trans F2).trans F3).fb ?_
      by_cases hz : sP s r k = sP s r' k
      · rw [if_pos ((qCmp_0 Ka.1 Kb.1).mpr hz), z_p1]
        refine ih (k + 1) M3 _ _ (by omega) g3' (fun j hj => ?_)
        by_cases e : j = k
        · subst e
          exact ⟨fun _ => hz, fun z => absurd z (by rw [q]; decide)⟩
        · exact hk j (by omega)
      · rw [if_neg (fun z => hz ((qCmp_0 Ka.1 Kb.1).mp z)), z_p1, if_pos q, if_neg (fun z => hz (z k (by omega)))]
        exact z56 M3 _ _ _ _ g3'
    · rw [if_pos q]
      obtain ⟨M1, reg1, sg1, f1, m1, F1⟩ := across3_g h hr hr' he (show k < sL s r by omega) hp
      rw [f1]
      simp only [bS, vI]
      refine Am.trans F1.fb ?_
      by_cases hz : qRx (sP s r k) (sP s r p) (sP s r' k) (sP s r' p)
      · rw [if_pos hz, z_p1]
        refine ih (k + 1) M1 _ _ (by omega) m1 (fun j hj => ?_)
        by_cases e : j = k
        · subst e
          exact ⟨fun z => absurd z (by rw [q]; decide), fun _ => hz⟩
        · exact hk j (by omega)
      · rw [if_neg hz, z_p1, if_neg (by rw [q]; exact i10), if_neg (fun z => hz (z k (by omega)))]
        exact z56 M1 _ _ _ _ m1
theorem Nf.zz {q : Qn} (h : Nf q) (h0 : q.1 = 0) : q = (0, 0, 1) := by
  obtain ⟨u, v, z⟩ := q
  have h1 : u = 0 := h0
  subst h1
  obtain ⟨k1, k2⟩ := Nf.z h
  rw [k1, k2]
theorem alikeM_g {M : me_M} {B : Nat} {th : Int32} {s : Sx} {x y w : Int32} (h : MF M B th s) : Am M B (f_X7_alike [.ref B, .int x, .int y, .int w] M) 0 (tAl s x y w) := by
  obtain ⟨W, e, w1, w2, t⟩ := i_rep w
  obtain ⟨reg, sg, S, sz, wf, h⟩ := h
  have hn := h.n
  have hm := h.m
  have m := h.th (th' := 0)
  have F : FB M (me_set M B (.inr (7, mfo B 0 s))) B := FB.set (by omega)
  rw [e_X7_alike]
  simp only [h.o, bS, ml0, mt0]
  obtain ⟨N, hN⟩ : ∃ N, N = me_set M B (.inr (7, mfo B 0 s)) := ⟨_, rfl⟩
  have hN' : N = me_set M B (.inr (7, [.int 0, .ref (B + 1), .ref (B + 2), .ref (B + 3), .ref (B + 4), .ref (B + 5), .ref (B + 6), .ref (B + 7), .ref (B + 8), .int (iZ (sN s)), .int (iZ (sR s)), .ref (B + 9), .int (iZ (sW s)), .ref (B + 10), .int (iZ (sT s)), .ref (B + 11)])) := hN
  rw [← hN] at m F
  rw [← hN']
  simp only [m.o, bS, areAlongM_s m, vI]
  refine Am.trans F ?_
  by_cases ha : isA s x y
  · rw [if_pos ha, if_neg i10]
    by_cases hw0 : W < 0
    · rw [if_pos (by rw [e, z_0, iZ_lt (by omega) (by omega)]; exact hw0), c00, show tAl s x y w = (-2, s) from if_neg (fun z => by have := z.2.1; omega)]
      exact Am.val ⟨reg, sg, S, sz, wf, m⟩
    · rw [if_neg (by rw [e, z_0, iZ_lt (by omega) (by omega)]; exact hw0)]
      by_cases hw1 : W ≤ 1
      · rw [if_pos (by rw [e, z_1, iZ_le (by omega) (by omega)]; exact hw1), show tAl s x y w = _ from if_pos ⟨ha, by constructor <;> omega⟩]
        have hw : w = 0 ∨ w = 1 := by
          rcases Int.lt_or_le W 1 with q | q
          · exact Or.inl (by rw [e, show W = 0 by omega]; rfl)
          · exact Or.inr (by rw [e, show W = 1 by omega]; rfl)
        obtain ⟨r, r1, r2, r3⟩ := ha.1.ix (by omega)
        obtain ⟨r', r1', r2', r3'⟩ := ha.2.1.ix (by omega)
        have he := ha.2.2
        rw [r3, r3'] at he
        obtain ⟨a1, a2, a3, a4⟩ := m.R r r1
        obtain ⟨b1, b2, b3, b4⟩ := m.R r' r1'
        rw [r3, r3', r2, r2', leads_g m r1]
        simp only [bS, vI]
        rw [m.i0, leads_g m r1']
        simp only [bS, vI]
        have hb : -1 ≤ ld (sP s r) (sL s r) 0 ∧ ld (sP s r) (sL s r) 0 < 100 := by rcases ld_b (sP s r) (sL s r) 0 with e | ⟨t, e, t1, t2, t3⟩ <;> omega
        have hb' : -1 ≤ ld (sP s r') (sL s r') 0 ∧ ld (sP s r') (sL s r') 0 < 100 := by rcases ld_b (sP s r') (sL s r') 0 with e | ⟨t, e, t1, t2, t3⟩ <;> omega
        rw [e_X7_alike_36]
        by_cases hl : ld (sP s r) (sL s r) 0 = ld (sP s r') (sL s r') 0
        · rw [if_pos (by rw [hl]), e_X7_alike_44, m.i0, leads_g m r1]
          simp only [bS, vI]
          rw [if_pos hl]
          by_cases hm1 : ld (sP s r) (sL s r) 0 = -1
          · have az : ∀ j, j < sL s r → sP s r j = sP s r' j := by
              intro j hj
              have za := ld_z (sP s r) (sL s r) 0 j (by omega) (by omega) (Or.inl hm1)
              have zb := ld_z (sP s r') (sL s r') 0 j (by omega) (by omega) (Or.inl (hl ▸ hm1))
              have na := (a4 j hj).1
              have nb := (b4 j (by omega)).1
              rw [Nf.zz na za, Nf.zz nb zb]
            have e56 : sm T_X7_alike (56, [(0, .ref B), (1, .int (iZ r)), (2, .int (iZ r')), (3, .int w), (4, .int (1 : Int32)), (5, .int (iZ (ld (sP s r) (sL s r) 0))), (6, .int (0 : Int32))], [], N, 0, 0) = some (some (.int 1), N) := by
              rw [e_X7_alike_56]
              simp only [m.o, bS, mf11, vF, m.i9]
              rw [iZ_clampN (by omega), if_neg (nob (iZ_n0 (by omega)) (by omega)), if_neg i10, if_pos (show iZ (ld (sP s r) (sL s r) 0) = -1 by rw [hm1]; rfl), ite_self, e_X7_alike_142, if_neg i10, c00]
            rw [e56, if_pos hm1, if_pos az, ite_self]
            exact Am.val ⟨reg, sg, S, sz, wf, m⟩
          · rcases ld_b (sP s r) (sL s r) 0 with e9 | ⟨p, e9, p1, p2, p3⟩
            · exact absurd e9 hm1
            · rw [if_neg hm1, e9, Int.toNat_natCast]
              exact alike_56 r1 r1' he (by omega) hw (sL s r) 0 N reg sg (by omega) m (fun j hj => absurd hj (by omega))
        · rw [if_neg (by rw [iZ_eq (by omega) (by omega)]; exact hl), e_X7_alike_44, m.i0, leads_g m r1]
          simp only [bS, vI]
          have e56 : sm T_X7_alike (56, [(0, .ref B), (1, .int (iZ r)), (2, .int (iZ r')), (3, .int w), (4, .int (0 : Int32)), (5, .int (iZ (ld (sP s r) (sL s r) 0))), (6, .int (0 : Int32))], [], N, 0, 0) = some (some (.int 0), N) := by
            rw [e_X7_alike_56]
            simp only [m.o, bS, mf11, vF, m.i9]
            rw [iZ_clampN (by omega), if_neg (nob (iZ_n0 (by omega)) (by omega)), if_pos trivial, ite_self, e_X7_alike_142, if_pos rfl, c00]
          have hne : ¬ ∀ j, j < sL s r → sP s r j = sP s r' j := fun z => hl (by rw [← he]; exact ld_c (sL s r) 0 (fun j _ h2 => z j (by omega)))
          rw [e56, if_neg hl, if_neg hne, ite_self]
          exact Am.val ⟨reg, sg, S, sz, wf, m⟩
      · rw [if_neg (by rw [e, z_1, iZ_le (by omega) (by omega)]; exact hw1), c00, show tAl s x y w = (-2, s) from if_neg (fun z => by have := z.2.2; omega)]
        exact Am.val ⟨reg, sg, S, sz, wf, m⟩
  · rw [if_neg ha, if_pos rfl, c00, show tAl s x y w = (-2, s) from if_neg (fun z => ha z.1)]
    exact Am.val ⟨reg, sg, S, sz, wf, m⟩
theorem letterM_g {M : me_M} {B : Nat} {th : Int32} {s : Sx} {x : Int32} (h : MF M B th s) : Am M B (f_X7_letter [.ref B, .int x] M) 0 (tLt s x) := by
  obtain ⟨X, e, b1, b2, t⟩ := i_rep x
  obtain ⟨reg, sg, S, sz, wf, h⟩ := h
  have hn := h.n
  have hm := h.m
  have m := h.th (th' := 0)
  have F : FB M (me_set M B (.inr (7, mfo B 0 s))) B := FB.set (by omega)
  rw [e_X7_letter]
  simp only [h.o, bS, ml0, mt0]
  obtain ⟨N, hN⟩ : ∃ N, N = me_set M B (.inr (7, mfo B 0 s)) := ⟨_, rfl⟩
  have hN' : N = me_set M B (.inr (7, [.int 0, .ref (B + 1), .ref (B + 2), .ref (B + 3), .ref (B + 4), .ref (B + 5), .ref (B + 6), .ref (B + 7), .ref (B + 8), .int (iZ (sN s)), .int (iZ (sR s)), .ref (B + 9), .int (iZ (sW s)), .ref (B + 10), .int (iZ (sT s)), .ref (B + 11)])) := hN
  rw [← hN] at m F
  rw [← hN']
  refine Am.trans F ?_
  have hT := m.T
  unfold tLt
  by_cases h1 : X < 0
  · rw [if_pos (by rw [e, z_0, iZ_lt (by omega) (by omega)]; exact h1), c00, if_neg (fun h => by have := h.1; omega)]
    exact Am.val ⟨reg, sg, S, sz, wf, m⟩
  · rw [if_neg (by rw [e, z_0, iZ_lt (by omega) (by omega)]; exact h1)]
    simp only [m.o, bS, mf13, mf14, vF, vI, m.i10]
    by_cases h2' : X < sT s
    · have hv : isV (sT s) x := by constructor <;> omega
      rw [if_neg (by rw [e, iZ_le (by omega) (by omega)]; omega), if_neg (hv.no hT (by omega)), c00, if_pos hv, m.C _ (hv.lt (by omega))]
      exact Am.val ⟨reg, sg, S, sz, wf, m⟩
    · rw [if_pos (by rw [e, iZ_le (by omega) (by omega)]; omega), c00, if_neg (fun h => by have := h.2; omega)]
      exact Am.val ⟨reg, sg, S, sz, wf, m⟩
theorem clearM_g {M : me_M} {B : Nat} {th : Int32} {s : Sx} (h : MF M B th s) : Am M B (f_X7_clear [.ref B] M) 0 (tCl s) := by
  obtain ⟨reg, sg, S, sz, wf, h⟩ := h
  have m := h.so (th' := 0) (s' := (tCl s).2) (by show 0 ≤ 240; omega) (by show 0 ≤ 20; omega) (fun i hi => absurd hi (Nat.not_lt_zero i)) (fun i hi => absurd hi (Nat.not_lt_zero i)) (by show 0 ≤ 400; omega) (fun i hi => absurd hi (Nat.not_lt_zero i))
  refine ⟨_, ?_, ⟨reg, sg, S, sz, wf, m⟩, FB.set (by omega)⟩
  rw [e_X7_clear]
  simp only [h.o, bS, ml0, mt0, mo_set, mf9, vI, ml9, mt9, ml10, mt10, ml12, mt12, ml14, mt14, set_set]
  exact (if_pos (show 9 < 16 by omega)).trans ((if_pos (show 10 < 16 by omega)).trans ((if_pos (show 12 < 16 by omega)).trans ((if_pos (show 14 < 16 by omega)).trans c00)))
theorem count_l {B : Nat} {th : Int32} {s : Sx} {S : Sto} {sz wf : Nat → Int32} {x : Int32} (hx : x = 2 ∨ x = 4) : ∀ (d v : Nat) (M : me_M) (reg : Nat → Nat) (sg : Nat → Int), d + v = sN s → MG M B th s reg sg S sz wf →
    Am M B (sm T_X7_count (12, [(0, .ref B), (1, .int x), (2, .int (iZ (cs (sV s) v))), (3, .int (iZ (gl (sV s) v))), (4, .int (iZ v))], [], M, 0, 0)) th ((if x = 2 then iZ (cs (sV s) (sN s)) else iZ (gl (sV s) (sN s))), s) := by
  intro d
  induction d with
  | zero =>
    intro v M reg sg hd h
    have hn := h.n
    have e : v = sN s := by omega
    subst e
    rw [e_X7_count_12]
    simp only [h.o, bS, mf9, vI]
    rw [if_pos (Int32.le_refl _), e_X7_count_95]
    rcases hx with q | q
    · rw [if_neg (by rw [q]; decide), if_neg (by rw [q]; decide), if_pos q, c00, if_pos q]
      exact Am.val ⟨_, _, _, _, _, h⟩
    · rw [if_neg (by rw [q]; decide), if_neg (by rw [q]; decide), if_neg (by rw [q]; decide), if_neg (by rw [q]; decide), if_pos q, c00, if_neg (by rw [q]; decide)]
      exact Am.val ⟨_, _, _, _, _, h⟩
  | succ d ih =>
    intro v M reg sg hd h
    have hn := h.n
    have Ka := h.V v (by omega)
    obtain ⟨M1, f1, m1, F1⟩ := small_g (v := v) h (by omega) Ka
    have g1' : gl (sV s) v ≤ 512 := gl_le (fun i hi => (h.V i (by omega)).2.1)
    have l1 : bl (sV s v).2.1 ≤ 512 := bl_le_iff.mpr Ka.2.1.1
    have l2 : bl (sV s v).2.2 ≤ 512 := bl_le_iff.mpr Ka.2.1.2
    have fb2 : f_X7_bits [.ref B, .int (2 : Int32)] M1 = _ := bits_g (x := 2) m1.ms.1 (by omega)
    have fb3 : f_X7_bits [.ref B, .int (3 : Int32)] M1 = _ := bits_g (x := 3) m1.ms.1 (by omega)
    rw [up_n (i := 3) (j := 2) _ _ (by omega), up_s] at fb2
    rw [up_s] at fb3
    have ec : cs (sV s) (v + 1) = cs (sV s) v + qS1 (sV s v) := rfl
    have eg : gl (sV s) (v + 1) = max (gl (sV s) v) (max (bl (sV s v).2.1) (bl (sV s v).2.2)) := rfl
    have s74 : ∀ q : Nat, q = max (bl (sV s v).2.1) (bl (sV s v).2.2) → Am M1 B (sm T_X7_count (74, [(0, .ref B), (1, .int x), (2, .int (iZ ((cs (sV s) (v + 1) : Nat) : Int))), (3, .int (iZ (gl (sV s) v))), (4, .int (iZ v))], [.int (iZ q)], M1, 0, 0)) th ((if x = 2 then iZ (cs (sV s) (sN s)) else iZ (gl (sV s) (sN s))), s) := by
      intro q hq
      have hq2 : q ≤ 512 := by rw [hq]; exact Nat.max_le.mpr ⟨l1, l2⟩
      rw [e_X7_count_74, z_p1]
      rw [← hq] at eg
      by_cases k : q ≤ gl (sV s) v
      · rw [if_pos (by rw [iZ_le (by omega) (by omega)]; omega)]
        have := ih (v + 1) M1 _ _ (by omega) m1
        rw [eg, Nat.max_eq_left k] at this
        exact this
      · rw [if_neg (by rw [iZ_le (by omega) (by omega)]; omega)]
        have := ih (v + 1) M1 _ _ (by omega) m1
        rw [eg, Nat.max_eq_right (by omega)] at this
        exact this
    have s46 : ∀ so : Int32, iZ ((cs (sV s) v : Nat) : Int) + so = iZ ((cs (sV s) (v + 1) : Nat) : Int) → Am M1 B (sm T_X7_count (46, [(0, .ref B), (1, .int x), (3, .int (iZ (gl (sV s) v))), (4, .int (iZ v))], [.int so, .int (iZ (cs (sV s) v))], M1, 0, 0)) th ((if x = 2 then iZ (cs (sV s) (sN s)) else iZ (gl (sV s) (sN s))), s) := by
      intro so hso
      rw [e_X7_count_46, m1.i0, fb2]
      simp only [bS, vI]
      rw [m1.i0, fb3]
      simp only [bS, vI, hso, fb2, m1.o]
      by_cases k : bl (sV s v).2.1 ≤ bl (sV s v).2.2
      · rw [if_pos (by rw [iZ_le (by omega) (by omega)]; omega), fb3]
        simp only [bS, vI]
        exact s74 _ (Nat.max_eq_right k).symm
      · rw [if_neg (by rw [iZ_le (by omega) (by omega)]; omega)]
        exact s74 _ (Nat.max_eq_left (by omega)).symm
    have s31 : Am M B (sm T_X7_count (31, [(0, .ref B), (1, .int x), (2, .int (iZ (cs (sV s) v))), (3, .int (iZ (gl (sV s) v))), (4, .int (iZ v))], [], M, 0, 0)) th ((if x = 2 then iZ (cs (sV s) (sN s)) else iZ (gl (sV s) (sN s))), s) := by
      rw [e_X7_count_31, h.i0, f1]
      simp only [bS, vI]
      refine Am.trans F1.fb ?_
      have hS1 : qS1 (sV s v) = 0 ∨ qS1 (sV s v) = 1 := by unfold qS1; split; exact Or.inr rfl; exact Or.inl rfl
      rcases hS1 with k | k
      · rw [k, if_pos (by rfl)]
        exact s46 0 (by rw [ec, k, Nat.add_zero, z_0, iZ_add, Int.add_zero])
      · rw [k, if_neg (by decide)]
        exact s46 1 (by rw [ec, k, z_p1])
    rw [e_X7_count_12]
    simp only [h.o, bS, mf9, vI]
    rw [if_neg (by rw [iZ_le (by omega) (by omega)]; omega)]
    rcases hx with q | q
    · rw [if_pos q]
      exact s31
    · rw [if_neg (by rw [q]; decide), if_pos q]
      exact s31
theorem countM_g {M : me_M} {B : Nat} {th : Int32} {s : Sx} {x : Int32} (h : MF M B th s) : Am M B (f_X7_count [.ref B, .int x] M) 0 (tCo s x) := by
  obtain ⟨reg, sg, S, sz, wf, h⟩ := h
  have hn := h.n
  have hm := h.m
  have m := h.th (th' := 0)
  have F : FB M (me_set M B (.inr (7, mfo B 0 s))) B := FB.set (by omega)
  rw [e_X7_count]
  simp only [h.o, bS, ml0, mt0]
  obtain ⟨N, hN⟩ : ∃ N, N = me_set M B (.inr (7, mfo B 0 s)) := ⟨_, rfl⟩
  have hN' : N = me_set M B (.inr (7, [.int 0, .ref (B + 1), .ref (B + 2), .ref (B + 3), .ref (B + 4), .ref (B + 5), .ref (B + 6), .ref (B + 7), .ref (B + 8), .int (iZ (sN s)), .int (iZ (sR s)), .ref (B + 9), .int (iZ (sW s)), .ref (B + 10), .int (iZ (sT s)), .ref (B + 11)])) := hN
  rw [← hN] at m F
  rw [← hN']
  refine Am.trans F ?_
  have tx : ∀ k : Int, -2147483648 ≤ k → k < 2147483648 → (x = iZ k ↔ x.toInt = k) := by
    intro k h1 h2'
    constructor
    · intro e; rw [e, iZ_toInt h1 h2']
    · intro e; rw [← iZ_self x, e]
  have t0 := tx 0 (by omega) (by omega)
  have t1 := tx 1 (by omega) (by omega)
  have t2' := tx 2 (by omega) (by omega)
  have t3 := tx 3 (by omega) (by omega)
  have t4 := tx 4 (by omega) (by omega)
  unfold tCo
  by_cases h2 : x = 2
  · have e2 : x.toInt = 2 := t2'.mp h2
    have := count_l (x := x) (Or.inl h2) (sN s) 0 N reg sg (by omega) m
    rw [if_pos h2] at this
    rw [e2, if_neg (by decide), if_neg (by decide), if_pos rfl]
    exact this
  · by_cases h4' : x = 4
    · have e4 : x.toInt = 4 := t4.mp h4'
      have := count_l (x := x) (Or.inr h4') (sN s) 0 N reg sg (by omega) m
      rw [if_neg h2] at this
      rw [e4, if_neg (by decide), if_neg (by decide), if_neg (by decide), if_neg (by decide), if_pos rfl]
      exact this
    · have n2' : ¬ x.toInt = 2 := fun q => h2 (t2'.mpr q)
      have n4' : ¬ x.toInt = 4 := fun q => h4' (t4.mpr q)
      rw [e_X7_count_12]
      simp only [m.o, bS, mf9, vI]
      rw [if_neg h2, if_neg h4', ite_self, e_X7_count_95, if_neg h2, if_neg h4', if_neg n2', if_neg n4']
      simp only [m.o, bS, mf9, mf10, mf12, vI]
      by_cases h0 : x = 0
      · have e0 : x.toInt = 0 := t0.mp h0
        rw [if_pos h0, c00, if_pos e0]
        exact Am.val ⟨reg, sg, S, sz, wf, m⟩
      · have m0 : ¬ x.toInt = 0 := fun q => h0 (t0.mpr q)
        rw [if_neg h0, if_neg m0]
        by_cases h1 : x = 1
        · have e1 : x.toInt = 1 := t1.mp h1
          rw [if_pos h1, c00, if_pos e1]
          exact Am.val ⟨reg, sg, S, sz, wf, m⟩
        · have m1 : ¬ x.toInt = 1 := fun q => h1 (t1.mpr q)
          rw [if_neg h1, if_neg m1]
          by_cases h3' : x = 3
          · have e3 : x.toInt = 3 := t3.mp h3'
            rw [if_pos h3', c00, if_pos e3]
            exact Am.val ⟨reg, sg, S, sz, wf, m⟩
          · have m3 : ¬ x.toInt = 3 := fun q => h3' (t3.mpr q)
            rw [if_neg h3', c00, if_neg m3]
            exact Am.val ⟨reg, sg, S, sz, wf, m⟩
