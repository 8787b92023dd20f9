/-! acts on ROWS that work beside them -/
theorem oknn (M : me_M) (ci : Nat) : i_okx M ci none = true := rfl
theorem rfN : va_rf none = .null := rfl
theorem Rq.fr {M : me_M} {A r p q : Nat} {x : me_E} {rf : Nat → Option Nat} (h : Rq M A rf r p q) : Rq (me_set M (A + 37) x) A rf r p q := h.set (by omega)
theorem scale_l {A : Nat} {s : Sx} {r p q p3 : Nat} {t : Qn} {rf : Nat → Option Nat} {g : Nat → Option Qn} (hr : r < sR s) (hg : ∀ i, i < sL s r → g i = fq (qMul (sP s r i) t)) : ∀ (d i : Nat) (M : me_M) (c n : Nat) (vs : Nat → Nat) (vf ff : Nat → Option Nat) (lf df : Nat → Int32), d + i = sL s r → PG M A s vs vf rf ff lf df → Rq M A rf r p q → Fx M (A + 1) p3 t → VF M (A + 1) ff i (fun j => (g j).getD (0, 0, 1)) → (∀ j, j < i → (g j).isSome = true) → c ≤ 5 * i → n ≤ 151 * i →
    Ac M A (sm T_X6_scale (50, [(0, .ref A), (3, .ref p3), (4, .ref q), (5, .int (iZ i))], [], M, c, n)) (rAct s r g) := by
  intro d
  induction d with
  | zero =>
    intro i M c n vs vf ff lf df hd h k hF hV hs hc hn
    obtain ⟨a1, a2, a3, pf, a4, a5⟩ := h.at hr k
    have e : i = sL s r := by omega
    subst e
    rw [e_X6_scale_50, rAct_p hs]
    obtain ⟨L, f, P, G⟩ := renew_s h hr k hV
    simp only [len_r a4 (by omega), bS, iZ_nat, h.o, f, vI]
    rw [if_pos (by rw [iZ_le (by omega) (by omega)]; omega), ble2 (by omega) (by omega), cond_true, e_X6_scale_105]
    exact ⟨L, if_pos (by omega), P, G⟩
  | succ d ih =>
    intro i M c n vs vf ff lf df hd h k hF hV hs hc hn
    have hD := h.rk.dm
    obtain ⟨a1, a2, a3, pf, a4, a5⟩ := h.at hr k
    obtain ⟨pa, ea, Fa⟩ := a5 i (by omega)
    obtain ⟨N, v, f, S⟩ := product_s h.rk Fa hF
    obtain ⟨o1, v1, v2, O1⟩ := S.ov
    obtain ⟨⟨ws, hw⟩, kN, _⟩ := S
    have hNg := h.fk hw kN
    rw [← hg i (by omega)] at O1
    rw [e_X6_scale_50]
    simp only [len_r a4 (by omega), bS, iZ_nat, h.o, pf0, pf4, a4, vF, h.rk.o]
    rw [if_neg (by rw [iZ_le (by omega) (by omega)]; omega), iZ_clampN (by omega), if_neg (nob (iZ_n0 (by omega)) (by omega))]
    simp only [ea, rfS, f, bS, v2, hNg.rf]
    rw [ble2 (by omega) (by omega), cond_true, if_neg (nob (iZ_n0 (by omega)) (by omega))]
    rcases O1 with ⟨p1, q1, rfl, e1, F1⟩ | ⟨rfl, e1⟩
    · obtain ⟨_, _, _, _, oa, _⟩ := F1.ob
      obtain ⟨P1, S1, G1⟩ := hNg.fr (ff' := va_up ff i (some p1))
      have V1 := fresh_s hNg (hV.fk hD kN) F1 (show (g i).getD (0, 0, 1) = q1 by rw [e1]; rfl)
      rw [okx oa, cond_true]
      simp only [P1.o, bS, pf4, vF, P1.rf, va_up_self, rfS, vN, isS, cond_true]
      rw [if_neg (nob (iZ_n0 (by omega)) (by omega)), z_p1]
      refine Ac.trans (kN.gf.trans G1) (ih (i + 1) _ _ _ ws vf _ lf df (by omega) P1 (k.fk hD kN).fr ((hF.fk hD kN).sf S1) V1 ?_ (by omega) (by omega))
      intro j hj
      by_cases e : j = i
      · subst e; rw [e1]; rfl
      · exact hs j (by omega)
    · obtain ⟨P1, S1, G1⟩ := hNg.fr (ff' := va_up ff i none)
      rw [oknn, cond_true, rAct_n (by omega) e1]
      obtain ⟨L, f', P', G'⟩ := tooWide_s ⟨ws, vf, rf, _, lf, df, P1⟩
      simp only [P1.o, bS, pf4, vF, P1.rf, va_up_self, rfN, vN0, isNn, cond_false, f', vI]
      rw [if_neg (nob (iZ_n0 (by omega)) (by omega)), cond_true]
      exact ⟨L, if_pos (by omega), P', (kN.gf.trans G1).trans G'⟩
def tSc (s : Sx) (x v : Int32) : Int32 × Sx := if isV (sR s) x ∧ isV (sN s) v then (if (sV s v.toNatClampNeg).1 = 0 then (-5, s) else rAct s x.toNatClampNeg (fun i => fq (qMul (sP s x.toNatClampNeg i) (sV s v.toNatClampNeg)))) else (-2, s)
theorem scaleV_s {M : me_M} {A : Nat} {s : Sx} {x v : Int32} (h : PF M A s) : Ac M A (f_X6_scale [.ref A, .int x, .int v] M) (tSc s x v) := by
  have hP := h
  obtain ⟨vs, vf, rf, ff, lf, df, h⟩ := h
  have hm := h.m
  have hn := h.n
  rw [e_X6_scale]
  simp only [h.o, bS, isRow_s h.o h.m, isValue_s h.o h.n, vI, h.rr, h.rv, pf2, pf3, vF]
  by_cases hx : isV (sR s) x
  · rw [if_pos hx, if_neg i10]
    by_cases hv : isV (sN s) v
    · rw [if_pos hv, if_neg i10, if_neg (hv.no hn (by omega)), show tSc s x v = if (sV s v.toNatClampNeg).1 = 0 then (-5, s) else rAct s x.toNatClampNeg (fun i => fq (qMul (sP s x.toNatClampNeg i) (sV s v.toNatClampNeg))) from if_pos ⟨hx, hv⟩]
      obtain ⟨pv, e1, F1⟩ := h.val hv
      obtain ⟨_, _, _, _, oa, _⟩ := F1.ob
      simp only [e1, rfS, vF, bS, oa, g0, vI]
      by_cases hz : (sV s v.toNatClampNeg).1 = 0
      · rw [if_pos ((sgz F1.2.1.1).mpr hz), if_pos hz]
        exact ⟨M, if_pos (by decide), hP, GF.refl _ _⟩
      · rw [if_neg (fun z => hz ((sgz F1.2.1.1).mp z)), if_neg hz, if_neg (hx.no hm (by omega))]
        have hx' := hx.lt (by omega)
        obtain ⟨p, q, K⟩ := h.row hx'
        simp only [K.1, rfS, vF, bS, K.2.2, g0]
        exact scale_l hx' (fun _ _ => rfl) (sL s x.toNatClampNeg) 0 M 0 0 vs vf ff lf df (by omega) h K F1 (fun i hi => absurd hi (by omega)) (fun i hi => absurd hi (by omega)) (by omega) (by omega)
    · rw [if_neg hv, if_pos rfl, show tSc s x v = (-2, s) from if_neg (fun z => hv z.2)]
      exact ⟨M, if_pos (by decide), hP, GF.refl _ _⟩
  · rw [if_neg hx, if_pos rfl, show tSc s x v = (-2, s) from if_neg (fun z => hx z.1)]
    exact ⟨M, if_pos (by decide), hP, GF.refl _ _⟩
/-! eliminate -/
theorem elim_161 {A : Nat} {s : Sx} {r q q5 i c n : Nat} {x6 o : Option Nat} {rf ff vf : Nat → Option Nat} {g : Nat → Option Qn} {M : me_M} {vs : Nat → Nat} {lf df : Nat → Int32} (h : PG M A s vs vf rf ff lf df) (hr : r < sR s) (hi : i < sL s r) (hi2 : i < 10) (hc : c ≤ 130) (hn : n ≤ 3400) (hO : Ov M (A + 1) o (g i)) (hV : VF M (A + 1) ff i (fun j => (g j).getD (0, 0, 1)))
    (hnext : ∀ (N : me_M) (ff' : Nat → Option Nat), PG N A s vs vf rf ff' lf df → Sf M N → (∀ x, x ≠ A + 37 → N.2 x = M.2 x) → N.1 = M.1 → VF N (A + 1) ff' (i + 1) (fun j => (g j).getD (0, 0, 1)) → (g i).isSome = true → Ac N A (sm T_X6_eliminate (93, [(0, .ref A), (4, .ref q), (5, .ref q5), (6, va_rf x6), (7, .int (iZ ((i + 1 : Nat) : Int)))], [], N, c, n)) (rAct s r g)) :
    Ac M A (sm T_X6_eliminate (161, [(0, .ref A), (4, .ref q), (5, .ref q5), (6, va_rf x6), (7, .int (iZ i))], [va_rf o, .int (iZ i), .ref (A + 37)], M, c, n)) (rAct s r g) := by
  rw [e_X6_eliminate_161]
  simp only [vF, bS, h.rf]
  rw [iZ_clampN (by omega), if_neg (nob (iZ_n0 (by omega)) (by omega))]
  rcases hO with ⟨p1, q1, rfl, e1, F1⟩ | ⟨rfl, e1⟩
  · obtain ⟨_, _, _, _, oa, _⟩ := F1.ob
    obtain ⟨P1, S1, G1⟩ := h.fr (ff' := va_up ff i (some p1))
    have V1 := fresh_s h hV F1 (show (g i).getD (0, 0, 1) = q1 by rw [e1]; rfl)
    simp only [rfS, vN, bS, okx oa, cond_true, P1.o, pf4, vF, P1.rf, va_up_self, isS]
    rw [if_neg (nob (iZ_n0 (by omega)) (by omega)), z_p1]
    exact Ac.trans G1 (hnext _ _ P1 S1 (fun x hx => set_ne hx) rfl V1 (by rw [e1]; rfl))
  · obtain ⟨P1, S1, G1⟩ := h.fr (ff' := va_up ff i none)
    rw [rAct_n hi e1]
    obtain ⟨L, f', P', G'⟩ := tooWide_s ⟨vs, vf, rf, _, lf, df, P1⟩
    simp only [rfN, vN0, bS, oknn, cond_true, P1.o, pf4, vF, P1.rf, va_up_self, isNn, cond_false, f', vI]
    rw [if_neg (nob (iZ_n0 (by omega)) (by omega)), ble2 (by omega) (by omega), cond_true]
    exact ⟨L, if_pos (by omega), P', G1.trans G'⟩
theorem elim_l {A : Nat} {s : Sx} {r r' p q p' q' : Nat} {t : Option Qn} {rf : Nat → Option Nat} {g : Nat → Option Qn} (hr : r < sR s) (hr' : r' < sR s) (he : sL s r = sL s r') (hg : ∀ i, i < sL s r → g i = t.bind fun f => (fq (qMul f (sP s r' i))).bind fun p => fq (qSum (sP s r i) p (-p.1))) : ∀ (d i : Nat) (M : me_M) (c n : Nat) (vs : Nat → Nat) (vf ff : Nat → Option Nat) (lf df : Nat → Int32) (o : Option Nat), d + i = sL s r → PG M A s vs vf rf ff lf df → Rq M A rf r p q → Rq M A rf r' p' q' → Ov M (A + 1) o t → VF M (A + 1) ff i (fun j => (g j).getD (0, 0, 1)) → (∀ j, j < i → (g j).isSome = true) → c ≤ 11 * i + 5 → n ≤ 305 * i + 151 →
    Ac M A (sm T_X6_eliminate (93, [(0, .ref A), (4, .ref q), (5, .ref q'), (6, va_rf o), (7, .int (iZ i))], [], M, c, n)) (rAct s r g) := by
  intro d
  induction d with
  | zero =>
    intro i M c n vs vf ff lf df o hd h k k' hF hV hs hc hn
    obtain ⟨a1, a2, a3, pf, a4, a5⟩ := h.at hr k
    have e : i = sL s r := by omega
    subst e
    rw [e_X6_eliminate_93, rAct_p hs]
    obtain ⟨L, f, P, G⟩ := renew_s h hr k hV
    simp only [len_r a4 (by omega), bS, iZ_nat, h.o, f, vI]
    rw [if_pos (by rw [iZ_le (by omega) (by omega)]; omega), ble2 (by omega) (by omega), cond_true]
    exact ⟨L, if_pos (by omega), P, G⟩
  | succ d ih =>
    intro i M c n vs vf ff lf df o hd h k k' hF hV hs hc hn
    have hD := h.rk.dm
    obtain ⟨a1, a2, a3, pf, a4, a5⟩ := h.at hr k
    obtain ⟨b1, b2, b3, pf', b4, b5⟩ := h.at hr' k'
    obtain ⟨pb, eb, Fb⟩ := b5 i (by omega)
    have gi := hg i (by omega)
    have hsx : (g i).isSome = true → ∀ j, j < i + 1 → (g j).isSome = true := by
      intro z j hj
      by_cases e : j = i
      · subst e; exact z
      · exact hs j (by omega)
    rw [e_X6_eliminate_93]
    simp only [len_r a4 (by omega), bS, iZ_nat, h.o, pf0, b4, vF, h.rk.o]
    rw [if_neg (by rw [iZ_le (by omega) (by omega)]; omega)]
    rcases hF with ⟨po, qo, rfl, rfl, Fo⟩ | ⟨rfl, rfl⟩
    · obtain ⟨N, v, f, S⟩ := product_s h.rk Fo Fb
      have Svn := fun X : Option sm_R => S.vn X
      obtain ⟨o1, v1, v2, O1⟩ := S.ov
      obtain ⟨⟨ws, hw⟩, kN, _⟩ := S
      have hNg := h.fk hw kN
      rw [isS, cond_true, iZ_clampN (by omega), if_neg (nob (iZ_n0 (by omega)) (by omega))]
      have f0 : f_X3_product [.ref (A + 1), va_rf (some po), va_rf (some pb)] M = some (some v, N) := f
      simp only [eb, f0, bS]
      rw [ble2 (by omega) (by omega), cond_true, Svn, v1, e_X6_eliminate_124]
      obtain ⟨a1', a2', a3', pf2, a4', a5'⟩ := hNg.at hr (k.fk hD kN)
      obtain ⟨pa, ea, Fa⟩ := a5' i (by omega)
      rcases O1 with ⟨p1, q1, rfl, e1, F1⟩ | ⟨rfl, e1⟩
      · obtain ⟨_, _, _, _, ob, _⟩ := F1.ob
        obtain ⟨L, v', f', S'⟩ := sum_s hw Fa F1 (Or.inr rfl)
        have Svn' := fun X : Option sm_R => S'.vn X
        obtain ⟨o2, w1, w2, O2⟩ := S'.ov
        obtain ⟨⟨ws', hw'⟩, kL, _⟩ := S'
        have hLg := hNg.fk hw' kL
        simp only [rfS, vN, bS, hNg.o, pf0, pf4, isS, cond_true, a4', vF, ob, g0, vI, hw.o, iZ_neg]
        rw [iZ_clampN (by omega), if_neg (nob (iZ_n0 (by omega)) (by omega))]
        simp only [ea, rfS, f', bS]
        rw [ble2 (by omega) (by omega), cond_true, Svn', w1]
        have kk := kN.trans kL
        refine Ac.trans kk.gf (elim_161 (x6 := some po) (o := o2) (c := c + 5 + 6) (n := n + 151 + 154) hLg hr (by omega) (by omega) (by omega) (by omega) ?_ (hV.fk hD kk) ?_)
        · rw [gi, bS, e1, bS]
          exact O2
        · intro N' ff' P' S' hx _ V' gs
          have kD := hLg.rk.dm
          refine ih (i + 1) N' _ _ ws' vf ff' lf df (some po) (by omega) P' ?_ ?_ (Or.inl ⟨po, qo, rfl, rfl, (Fo.fk hD kk).sf S'⟩) V' (hsx gs) (by omega) (by omega)
          · have z := k.fk hD kk
            exact ⟨z.1, z.2.1, by rw [mo_of (hx p (by have := z.2.1; omega))]; exact z.2.2⟩
          · have z := k'.fk hD kk
            exact ⟨z.1, z.2.1, by rw [mo_of (hx p' (by have := z.2.1; omega))]; exact z.2.2⟩
      · simp only [rfN, vN0, bS, hNg.o, pf4, isNn, cond_false]
        refine Ac.trans kN.gf (elim_161 (o := none) hNg hr (by omega) (by omega) (by omega) (by omega) (Or.inr ⟨rfl, ?_⟩) (hV.fk hD kN) ?_)
        · rw [gi, bS, e1]
          rfl
        · intro N' ff' P' S' hx _ V' gs
          rw [gi, bS, e1] at gs
          exact absurd gs Bool.false_ne_true
    · rw [isNn, cond_false, e_X6_eliminate_124]
      simp only [rfN, vN0, bS, h.o, pf4, isNn, cond_false]
      refine elim_161 (x6 := none) (o := none) (c := c) (n := n) h hr (by omega) (by omega) (by omega) (by omega) (Or.inr ⟨rfl, by rw [gi]; rfl⟩) hV ?_
      intro N' ff' P' S' hx _ V' gs
      rw [gi] at gs
      exact absurd gs Bool.false_ne_true
def tEl (s : Sx) (x y k : Int32) : Int32 × Sx := if isA s x y ∧ x ≠ y ∧ isP s x k then (if (sP s y.toNatClampNeg k.toNatClampNeg).1 = 0 then (-5, s) else if (sP s x.toNatClampNeg k.toNatClampNeg).1 = 0 then (0, s) else rAct s x.toNatClampNeg (fun i => (fq (qDiv (sP s x.toNatClampNeg k.toNatClampNeg) (sP s y.toNatClampNeg k.toNatClampNeg))).bind fun f => (fq (qMul f (sP s y.toNatClampNeg i))).bind fun p => fq (qSum (sP s x.toNatClampNeg i) p (-p.1)))) else (-2, s)
theorem elimV_s {M : me_M} {A : Nat} {s : Sx} {x y k : Int32} (h : PF M A s) : Ac M A (f_X6_eliminate [.ref A, .int x, .int y, .int k] M) (tEl s x y k) := by
  have hP := h
  obtain ⟨vs, vf, rf, ff, lf, df, h⟩ := h
  have hm := h.m
  have hn := h.n
  have hD := h.rk.dm
  rw [e_X6_eliminate]
  simp only [h.o, bS, areAsLong_s h, isPlace_s h, vI, h.rr, pf0, pf3, vF]
  by_cases ha : isA s x y
  · rw [if_pos ha, if_neg i10]
    by_cases hxy : x = y
    · rw [if_pos hxy, show tEl s x y k = (-2, s) from if_neg (fun z => z.2.1 hxy)]
      exact ⟨M, if_pos (by decide), hP, GF.refl _ _⟩
    · rw [if_neg hxy]
      by_cases hk : isP s x k
      · rw [if_pos hk, if_neg i10, if_neg (ha.1.no hm (by omega)), show tEl s x y k = if (sP s y.toNatClampNeg k.toNatClampNeg).1 = 0 then (-5, s) else if (sP s x.toNatClampNeg k.toNatClampNeg).1 = 0 then (0, s) else rAct s x.toNatClampNeg (fun i => (fq (qDiv (sP s x.toNatClampNeg k.toNatClampNeg) (sP s y.toNatClampNeg k.toNatClampNeg))).bind fun f => (fq (qMul f (sP s y.toNatClampNeg i))).bind fun p => fq (qSum (sP s x.toNatClampNeg i) p (-p.1))) from if_pos ⟨ha, hxy, hk⟩]
        have hx := ha.1.lt (by omega)
        have hy := ha.2.1.lt (by omega)
        obtain ⟨p, q, K⟩ := h.row hx
        obtain ⟨p', q', K'⟩ := h.row hy
        obtain ⟨a1, a2, a3, pf, a4, a5⟩ := h.at hx K
        obtain ⟨b1, b2, b3, pf', b4, b5⟩ := h.at hy K'
        have kl := hk.2.lt (by omega)
        obtain ⟨pa, ea, Fa⟩ := a5 _ kl
        obtain ⟨pb, eb, Fb⟩ := b5 k.toNatClampNeg (by have := ha.2.2; omega)
        obtain ⟨_, _, _, _, oa, _⟩ := Fa.ob
        obtain ⟨_, _, _, _, ob, _⟩ := Fb.ob
        simp only [K.1, rfS, vF, bS, K.2.2, g0]
        rw [if_neg (ha.2.1.no hm (by omega))]
        simp only [K'.1, rfS, vF, bS, K'.2.2, g0, a4, b4, h.rk.o]
        rw [if_neg (hk.2.no (Nat.le_of_eq ha.2.2) (by omega))]
        simp only [eb, rfS, vF, bS, ob, g0, vI]
        by_cases hz : (sP s y.toNatClampNeg k.toNatClampNeg).1 = 0
        · rw [if_pos ((sgz Fb.2.1.1).mpr hz), if_pos hz]
          exact ⟨M, if_pos (by decide), hP, GF.refl _ _⟩
        · rw [if_neg (fun z => hz ((sgz Fb.2.1.1).mp z)), if_neg hz, if_neg (hk.2.no (Nat.le_refl _) (by omega))]
          simp only [ea, rfS, vF, bS, oa, g0, vI]
          by_cases hz2 : (sP s x.toNatClampNeg k.toNatClampNeg).1 = 0
          · rw [if_pos ((sgz Fa.2.1.1).mpr hz2), if_pos hz2]
            exact ⟨M, if_pos (by decide), hP, GF.refl _ _⟩
          · rw [if_neg (fun z => hz2 ((sgz Fa.2.1.1).mp z)), if_neg hz2, if_neg (hk.2.no (Nat.le_refl _) (by omega)), if_neg (hk.2.no (Nat.le_of_eq ha.2.2) (by omega))]
            obtain ⟨N, v, f, S⟩ := quotient_s h.rk Fa Fb hz
            obtain ⟨o1, v1, v2, O1⟩ := S.ov
            obtain ⟨⟨ws, hw⟩, kN, _⟩ := S
            simp only [f, bS, v2]
            exact Ac.trans kN.gf (elim_l hx hy ha.2.2 (fun _ _ => rfl) (sL s x.toNatClampNeg) 0 N 5 151 ws vf ff lf df o1 (by omega) (h.fk hw kN) (K.fk hD kN) (K'.fk hD kN) O1 (fun i hi => absurd hi (by omega)) (fun i hi => absurd hi (by omega)) (by omega) (by omega))
      · rw [if_neg hk, if_pos rfl, show tEl s x y k = (-2, s) from if_neg (fun z => hk z.2.2)]
        exact ⟨M, if_pos (by decide), hP, GF.refl _ _⟩
  · rw [if_neg ha, if_pos rfl, show tEl s x y k = (-2, s) from if_neg (fun z => ha z.1)]
    exact ⟨M, if_pos (by decide), hP, GF.refl _ _⟩
/-! primitive -/
theorem prim_l {A : Nat} {s : Sx} {r p q p3 : Nat} {t : Qn} {rf : Nat → Option Nat} {g : Nat → Option Qn} (hr : r < sR s) (ht : t.1 ≠ 0) (hg : ∀ i, i < sL s r → g i = fq (qDiv (sP s r i) t)) : ∀ (d i : Nat) (M : me_M) (c n : Nat) (vs : Nat → Nat) (vf ff : Nat → Option Nat) (lf df : Nat → Int32), d + i = sL s r → PG M A s vs vf rf ff lf df → Rq M A rf r p q → Fx M (A + 1) p3 t → VF M (A + 1) ff i (fun j => (g j).getD (0, 0, 1)) → (∀ j, j < i → (g j).isSome = true) → c ≤ 60 + 5 * i → n ≤ 1600 + 151 * i →
    Ac M A (sm T_X6_primitive (48, [(0, .ref A), (2, .ref q), (3, va_rf (some p3)), (4, .int (iZ i))], [], M, c, n)) (rAct s r g) := by
  intro d
  induction d with
  | zero =>
    intro i M c n vs vf ff lf df hd h k hF hV hs hc hn
    obtain ⟨a1, a2, a3, pf, a4, a5⟩ := h.at hr k
    have e : i = sL s r := by omega
    subst e
    rw [e_X6_primitive_48, rAct_p hs]
    obtain ⟨L, f, P, G⟩ := renew_s h hr k hV
    simp only [len_r a4 (by omega), bS, iZ_nat, h.o, f, vI]
    rw [if_pos (by rw [iZ_le (by omega) (by omega)]; omega), ble2 (by omega) (by omega), cond_true, e_X6_primitive_100]
    exact ⟨L, if_pos (by omega), P, G⟩
  | succ d ih =>
    intro i M c n vs vf ff lf df hd h k hF hV hs hc hn
    have hD := h.rk.dm
    obtain ⟨a1, a2, a3, pf, a4, a5⟩ := h.at hr k
    obtain ⟨pa, ea, Fa⟩ := a5 i (by omega)
    obtain ⟨N, v, f, S⟩ := quotient_s h.rk Fa hF ht
    obtain ⟨o1, v1, v2, O1⟩ := S.ov
    obtain ⟨⟨ws, hw⟩, kN, _⟩ := S
    have hNg := h.fk hw kN
    rw [← hg i (by omega)] at O1
    rw [e_X6_primitive_48]
    simp only [len_r a4 (by omega), bS, iZ_nat, h.o, pf0, pf4, a4, vF, h.rk.o]
    rw [if_neg (by rw [iZ_le (by omega) (by omega)]; omega), iZ_clampN (by omega), if_neg (nob (iZ_n0 (by omega)) (by omega))]
    simp only [ea, rfS, f, bS, v2, hNg.rf]
    rw [ble2 (by omega) (by omega), cond_true, if_neg (nob (iZ_n0 (by omega)) (by omega))]
    rcases O1 with ⟨p1, q1, rfl, e1, F1⟩ | ⟨rfl, e1⟩
    · obtain ⟨_, _, _, _, oa, _⟩ := F1.ob
      obtain ⟨P1, S1, G1⟩ := hNg.fr (ff' := va_up ff i (some p1))
      have V1 := fresh_s hNg (hV.fk hD kN) F1 (show (g i).getD (0, 0, 1) = q1 by rw [e1]; rfl)
      rw [okx oa, cond_true]
      simp only [P1.o, bS, pf4, vF, P1.rf, va_up_self, rfS, vN, isS, cond_true]
      rw [if_neg (nob (iZ_n0 (by omega)) (by omega)), z_p1]
      refine Ac.trans (kN.gf.trans G1) (ih (i + 1) _ _ _ ws vf _ lf df (by omega) P1 (k.fk hD kN).fr ((hF.fk hD kN).sf S1) V1 ?_ (by omega) (by omega))
      intro j hj
      by_cases e : j = i
      · subst e; rw [e1]; rfl
      · exact hs j (by omega)
    · obtain ⟨P1, S1, G1⟩ := hNg.fr (ff' := va_up ff i none)
      rw [oknn, cond_true, rAct_n (by omega) e1]
      obtain ⟨L, f', P', G'⟩ := tooWide_s ⟨ws, vf, rf, _, lf, df, P1⟩
      simp only [P1.o, bS, pf4, vF, P1.rf, va_up_self, rfN, vN0, isNn, cond_false, f', vI]
      rw [if_neg (nob (iZ_n0 (by omega)) (by omega)), cond_true]
      exact ⟨L, if_pos (by omega), P', (kN.gf.trans G1).trans G'⟩
def prA (s : Sx) (r : Nat) (c : Option Qn) : Int32 × Sx := match c with
  | none => (-4, wd s)
  | some c => if c.1 = 0 then (0, s) else rAct s r (fun i => fq (qDiv (sP s r i) c))
def tPr (s : Sx) (x : Int32) : Int32 × Sx := if isV (sR s) x then prA s x.toNatClampNeg (cmA (sP s x.toNatClampNeg) (sL s x.toNatClampNeg)) else (-2, s)
theorem primV_s {M : me_M} {A : Nat} {s : Sx} {x : Int32} (h : PF M A s) : Ac M A (f_X6_primitive [.ref A, .int x] M) (tPr s x) := by
  have hP := h
  obtain ⟨vs, vf, rf, ff, lf, df, h⟩ := h
  have hm := h.m
  have hD := h.rk.dm
  rw [e_X6_primitive]
  simp only [h.o, bS, isRow_s h.o h.m, vI, h.rr, pf3, vF]
  by_cases hx : isV (sR s) x
  · rw [if_pos hx, if_neg i10, if_neg (hx.no hm (by omega)), show tPr s x = prA s x.toNatClampNeg (cmA (sP s x.toNatClampNeg) (sL s x.toNatClampNeg)) from if_pos hx]
    have hx' := hx.lt (by omega)
    obtain ⟨p, q, K⟩ := h.row hx'
    obtain ⟨N, ws, o, f, hw, kN, O1⟩ := meas_l hx' (sL s x.toNatClampNeg) 0 M 0 0 vs vf ff lf df (some (A + 1 + 28)) (by omega) h K (Or.inl ⟨_, _, rfl, rfl, h.rk.zf⟩) (by omega) (by omega)
    have hNg := h.fk hw kN
    have fc : f_X6_commonMeasureOfAll [.ref A, .ref q] M = some (some (va_rf o), N) := by
      rw [e_X6_commonMeasureOfAll]
      simp only [h.o, bS, pf0, vF, h.rk.o, rk0, vN]
      exact f
    simp only [K.1, rfS, vF, bS, K.2.2, g0, fc]
    rcases O1 with ⟨p1, q1, rfl, e1, F1⟩ | ⟨rfl, e1⟩
    · obtain ⟨_, _, _, _, oa, _⟩ := F1.ob
      rw [e1, show prA s x.toNatClampNeg (some q1) = if q1.1 = 0 then (0, s) else rAct s x.toNatClampNeg (fun i => fq (qDiv (sP s x.toNatClampNeg i) q1)) from rfl]
      simp only [rfS, vN, bS, isS, cond_true, vF, oa, g0, vI]
      by_cases hz : q1.1 = 0
      · rw [if_pos ((sgz F1.2.1.1).mpr hz), if_pos hz]
        exact ⟨N, if_pos (by decide), ⟨ws, vf, rf, ff, lf, df, hNg⟩, kN.gf⟩
      · rw [if_neg (fun z => hz ((sgz F1.2.1.1).mp z)), if_neg hz]
        exact Ac.trans kN.gf (prim_l hx' hz (fun _ _ => rfl) (sL s x.toNatClampNeg) 0 N 60 1600 ws vf ff lf df (by omega) hNg (K.fk hD kN) F1 (fun i hi => absurd hi (by omega)) (fun i hi => absurd hi (by omega)) (by omega) (by omega))
    · rw [e1]
      obtain ⟨L, f', P', G'⟩ := tooWide_s ⟨ws, vf, rf, _, lf, df, hNg⟩
      simp only [rfN, vN0, bS, isNn, cond_false, hNg.o, f', vI]
      exact ⟨L, if_pos (by decide), P', kN.gf.trans G'⟩
  · rw [if_neg hx, if_pos rfl, show tPr s x = (-2, s) from if_neg hx]
    exact ⟨M, if_pos (by decide), hP, GF.refl _ _⟩
