/-! NUMBERS that may be WIDE -/
def fq (q : Qn) : Option Qn := if q.2.1 < 2 ^ 512 ∧ q.2.2 < 2 ^ 512 then some q else none
theorem fq_p {q : Qn} (h : Fits q) : fq q = some q := if_pos h
theorem fq_n {q : Qn} (h : ¬ Fits q) : fq q = none := if_neg h
def Ov (M : me_M) (K : Nat) (o : Option Nat) (t : Option Qn) : Prop := (∃ (p : Nat) (q : Qn), o = some p ∧ t = some q ∧ Fx M K p q) ∨ (o = none ∧ t = none)
theorem Rs.ov {M N : me_M} {K : Nat} {v : Value} {q : Qn} (h : Rs M N K v q) : ∃ o : Option Nat, v = va_rf o ∧ v_rn v = some o ∧ Ov N K o (fq q) := by
  rcases h.2.2 with ⟨f, p, rfl, k⟩ | ⟨f, rfl⟩
  · exact ⟨some p, rfl, rfl, Or.inl ⟨p, q, rfl, fq_p f, k⟩⟩
  · exact ⟨none, rfl, rfl, Or.inr ⟨rfl, fq_n f⟩⟩
theorem Ov.fk {M M' : me_M} {K : Nat} {o : Option Nat} {t : Option Qn} (h : Ov M K o t) (hD : Dm M) (k : FK M M' K) : Ov M' K o t := by
  rcases h with ⟨p, q, e1, e2, h⟩ | ⟨e1, e2⟩
  · exact Or.inl ⟨p, q, e1, e2, h.fk hD k⟩
  · exact Or.inr ⟨e1, e2⟩
def kpo (s : Sx) (o : Option Qn) : Int32 × Sx := match o with
  | some q => kp s q
  | none => (-4, wd s)
theorem Ov.kp {M : me_M} {A : Nat} {s : Sx} {o : Option Nat} {t : Option Qn} (h : Ov M (A + 1) o t) (P : PF M A s) (hN : sN s < 240) : Ac M A (f_X6_keep [.ref A, va_rf o] M) (kpo s t) := by
  rcases h with ⟨p, q, rfl, rfl, h⟩ | ⟨rfl, rfl⟩
  · exact keep_s P hN (Or.inl ⟨h.2.2.1, p, rfl, h⟩)
  · have e : Ac M A (f_X6_keep [.ref A, .null] M) (-4, wd s) := by
      obtain ⟨L, f, P', G⟩ := tooWide_s P
      obtain ⟨vs, vf, rf, ff, lf, df, P⟩ := P
      refine ⟨L, ?_, P', G⟩
      rw [e_X6_keep_n]
      simp only [P.o, bS, f, vI]
      exact c00
    exact e
def dotN (a b : Nat → Qn) : Nat → Option Qn
  | 0 => some (0, 0, 1)
  | n + 1 => (dotN a b n).bind fun t => (fq (qMul (a n) (b n))).bind fun p => fq (qSum t p p.1)
def cmA (a : Nat → Qn) : Nat → Option Qn
  | 0 => some (0, 0, 1)
  | n + 1 => (cmA a n).bind fun t => fq (qMeas t (a n))
theorem dotN_none {a b : Nat → Qn} {n m : Nat} (h : dotN a b n = none) (hm : n ≤ m) : dotN a b m = none := by
  induction m with
  | zero => have : n = 0 := by omega
            subst this; exact h
  | succ m ih =>
    by_cases e : n = m + 1
    · subst e; exact h
    · show (dotN a b m).bind _ = none
      rw [ih (by omega)]; rfl
theorem cmA_none {a : Nat → Qn} {n m : Nat} (h : cmA a n = none) (hm : n ≤ m) : cmA a m = none := by
  induction m with
  | zero => have : n = 0 := by omega
            subst this; exact h
  | succ m ih =>
    by_cases e : n = m + 1
    · subst e; exact h
    · show (cmA a m).bind _ = none
      rw [ih (by omega)]; rfl
theorem isS (p : Nat) : (some p).isSome = true := rfl
theorem isNn : (none : Option Nat).isSome = false := rfl
theorem dot_118 {M : me_M} {A : Nat} {s : Sx} {o : Option Nat} {t : Option Qn} {c n : Nat} (P : PF M A s) (hN : sN s < 240) (h : Ov M (A + 1) o t) (hc : c ≤ 120) (hn : n ≤ 3200) : Ac M A (sm T_X6_dot (118, [(0, .ref A), (5, va_rf o)], [], M, c, n)) (kpo s t) := by
  obtain ⟨L, f, Q, G⟩ := h.kp P hN
  obtain ⟨vs, vf, rf, ff, lf, df, P⟩ := P
  refine ⟨L, ?_, Q, G⟩
  rw [e_X6_dot_118]
  simp only [P.o, bS, f, vI]
  rw [ble2 (by omega) (by omega), cond_true]
  exact if_pos (by omega)
theorem dot_l {A : Nat} {s : Sx} {r r' p q p' q' : Nat} {rf : Nat → Option Nat} (hr : r < sR s) (hr' : r' < sR s) (he : sL s r = sL s r') (hN : sN s < 240) : ∀ (d i : Nat) (M : me_M) (c n : Nat) (vs : Nat → Nat) (vf ff : Nat → Option Nat) (lf df : Nat → Int32) (o : Option Nat), d + i = sL s r → PG M A s vs vf rf ff lf df → Rq M A rf r p q → Rq M A rf r' p' q' → Ov M (A + 1) o (dotN (sP s r) (sP s r') i) → c ≤ 11 * i → n ≤ 305 * i →
    Ac M A (sm T_X6_dot (55, [(0, .ref A), (3, .ref q), (4, .ref q'), (5, va_rf o), (6, .int (iZ i))], [], M, c, n)) (kpo s (dotN (sP s r) (sP s r') (sL s r))) := by
  intro d
  induction d with
  | zero =>
    intro i M c n vs vf ff lf df o hd h k k' hO hc hn
    obtain ⟨a1, a2, a3, pf, a4, a5⟩ := h.at hr k
    have e : i = sL s r := by omega
    rw [e_X6_dot_55]
    simp only [len_r a4 (by omega), bS, iZ_nat]
    rw [if_pos (by rw [iZ_le (by omega) (by omega)]; omega), ← e]
    exact dot_118 ⟨vs, vf, rf, ff, lf, df, h⟩ hN hO (by omega) (by omega)
  | succ d ih =>
    intro i M c n vs vf ff lf df o hd h k k' hO hc hn
    have hD := h.rk.dm
    obtain ⟨a1, a2, a3, pf, a4, a5⟩ := h.at hr k
    obtain ⟨b1, b2, b3, pf', b4, b5⟩ := h.at hr' k'
    rw [e_X6_dot_55]
    simp only [len_r a4 (by omega), bS, iZ_nat, h.o, pf0, a4, b4, vF, h.rk.o]
    rw [if_neg (by rw [iZ_le (by omega) (by omega)]; omega)]
    rcases hO with ⟨po, qo, rfl, et, Fo⟩ | ⟨rfl, et⟩
    · rw [isS, cond_true, iZ_clampN (by omega), if_neg (nob (iZ_n0 (by omega)) (by omega)), if_neg (nob (iZ_n0 (by omega)) (by omega))]
      obtain ⟨pa, ea, Fa⟩ := a5 i (by omega)
      obtain ⟨pb, eb, Fb⟩ := b5 i (by omega)
      obtain ⟨N, v, f, S⟩ := product_s h.rk Fa Fb
      obtain ⟨o1, v1, v2, O1⟩ := S.ov
      obtain ⟨⟨ws, hw⟩, kN, _⟩ := S
      have hNg := h.fk hw kN
      simp only [ea, eb, rfS, f, bS, v2]
      rw [ble2 (by omega) (by omega), cond_true]
      have es : dotN (sP s r) (sP s r') (i + 1) = (fq (qMul (sP s r i) (sP s r' i))).bind fun p => fq (qSum qo p p.1) := by
        show (dotN _ _ i).bind _ = _
        rw [et, bS]
      rcases O1 with ⟨p1, q1, rfl, e1, F1⟩ | ⟨rfl, e1⟩
      · obtain ⟨a', b', ca, cb, ob, _⟩ := F1.ob
        obtain ⟨L, v', f', S'⟩ := sum_s hw (Fo.fk hD kN) F1 (Or.inl rfl)
        obtain ⟨o2, w1, w2, O2⟩ := S'.ov
        obtain ⟨⟨ws', hw'⟩, kL, _⟩ := S'
        simp only [isS, cond_true, hNg.o, bS, pf0, vF, rfS, ob, g0, hw.o, f', w2]
        rw [ble2 (by omega) (by omega), cond_true, z_p1]
        have kk := kN.trans kL
        refine Ac.trans kk.gf (ih (i + 1) L _ _ ws' vf ff lf df o2 (by omega) (hNg.fk hw' kL) (k.fk hD kk) (k'.fk hD kk) ?_ (by omega) (by omega))
        rw [es, e1, bS]
        exact O2
      · simp only [isNn, cond_false]
        rw [z_p1]
        refine Ac.trans kN.gf (ih (i + 1) N _ _ ws vf ff lf df none (by omega) hNg (k.fk hD kN) (k'.fk hD kN) ?_ (by omega) (by omega))
        rw [es, e1]
        exact Or.inr ⟨rfl, rfl⟩
    · rw [isNn, cond_false, dotN_none et (by omega)]
      exact dot_118 ⟨vs, vf, rf, ff, lf, df, h⟩ hN (Or.inr ⟨rfl, rfl⟩) (by omega) (by omega)
def tDo (s : Sx) (x y : Int32) : Int32 × Sx := if isA s x y then (if sN s = 240 then (-3, s) else kpo s (dotN (sP s x.toNatClampNeg) (sP s y.toNatClampNeg) (sL s x.toNatClampNeg))) else (-2, s)
theorem dotV_s {M : me_M} {A : Nat} {s : Sx} {x y : Int32} (h : PF M A s) : Ac M A (f_X6_dot [.ref A, .int x, .int y] M) (tDo s x y) := by
  have hP := h
  obtain ⟨vs, vf, rf, ff, lf, df, h⟩ := h
  have hm := h.m
  have hn := h.n
  rw [e_X6_dot]
  simp only [h.o, bS, areAsLong_s h, isFull_s h.o h.n, vI, h.rr, pf0, pf3, vF, h.rk.o, rk0, vN]
  by_cases hk : isA s x y
  · rw [if_pos hk, if_neg i10, show tDo s x y = if sN s = 240 then (-3, s) else kpo s (dotN (sP s x.toNatClampNeg) (sP s y.toNatClampNeg) (sL s x.toNatClampNeg)) from if_pos hk]
    by_cases hf : sN s = 240
    · rw [show (if sN s = 240 then (1 : Int32) else 0) = 1 from if_pos hf, if_neg i10, if_pos hf]
      exact ⟨M, if_pos (by decide), hP, GF.refl _ _⟩
    · rw [show (if sN s = 240 then (1 : Int32) else 0) = 0 from if_neg hf, if_pos rfl, if_neg hf, if_neg (hk.1.no hm (by omega))]
      have hx := hk.1.lt (by omega)
      have hy := hk.2.1.lt (by omega)
      obtain ⟨p, q, K⟩ := h.row hx
      obtain ⟨p', q', K'⟩ := h.row hy
      simp only [K.1, rfS, vF, bS, K.2.2, g0]
      rw [if_neg (hk.2.1.no hm (by omega))]
      simp only [K'.1, rfS, vF, bS, K'.2.2, g0]
      exact dot_l hx hy hk.2.2 (by omega) (sL s x.toNatClampNeg) 0 M 0 0 vs vf ff lf df (some (A + 1 + 28)) (by omega) h K K' (Or.inl ⟨_, _, rfl, rfl, h.rk.zf⟩) (by omega) (by omega)
  · rw [if_neg hk, if_pos rfl, show tDo s x y = (-2, s) from if_neg hk]
    exact ⟨M, if_pos (by decide), hP, GF.refl _ _⟩
theorem meas_l {A : Nat} {s : Sx} {r p q : Nat} {rf : Nat → Option Nat} (hr : r < sR s) : ∀ (d i : Nat) (M : me_M) (c n : Nat) (vs : Nat → Nat) (vf ff : Nat → Option Nat) (lf df : Nat → Int32) (o : Option Nat), d + i = sL s r → PG M A s vs vf rf ff lf df → Rq M A rf r p q → Ov M (A + 1) o (cmA (sP s r) i) → c ≤ 5 * i → n ≤ 151 * i →
    ∃ (N : me_M) (ws : Nat → Nat) (o' : Option Nat), sm T_X6_commonMeasureOfAll (10, [(0, .ref A), (1, .ref q), (2, va_rf o), (3, .int (iZ i))], [], M, c, n) = some (some (va_rf o'), N) ∧ RK N (A + 1) ws ∧ FK M N (A + 1) ∧ Ov N (A + 1) o' (cmA (sP s r) (sL s r)) := by
  intro d
  induction d with
  | zero =>
    intro i M c n vs vf ff lf df o hd h k hO hc hn
    obtain ⟨a1, a2, a3, pf, a4, a5⟩ := h.at hr k
    have e : i = sL s r := by omega
    refine ⟨M, vs, o, ?_, h.rk, FK.refl _ _, by rw [← e]; exact hO⟩
    rw [e_X6_commonMeasureOfAll_10]
    simp only [len_r a4 (by omega), bS, iZ_nat]
    rw [if_pos (by rw [iZ_le (by omega) (by omega)]; omega), if_pos (by omega)]
  | succ d ih =>
    intro i M c n vs vf ff lf df o hd h k hO hc hn
    have hD := h.rk.dm
    obtain ⟨a1, a2, a3, pf, a4, a5⟩ := h.at hr k
    rcases hO with ⟨po, qo, rfl, et, Fo⟩ | ⟨rfl, et⟩
    · obtain ⟨pa, ea, Fa⟩ := a5 i (by omega)
      obtain ⟨N, v, f, S⟩ := measure_s h.rk Fo Fa
      obtain ⟨o1, v1, v2, O1⟩ := S.ov
      obtain ⟨⟨ws, hw⟩, kN, _⟩ := S
      have es : cmA (sP s r) (i + 1) = fq (qMeas qo (sP s r i)) := by
        show (cmA _ i).bind _ = _
        rw [et, bS]
      rw [← es] at O1
      obtain ⟨L, ws', o', f', R', F', O'⟩ := ih (i + 1) N (c + 5) (n + 151) ws vf ff lf df o1 (by omega) (h.fk hw kN) (k.fk hD kN) O1 (by omega) (by omega)
      refine ⟨L, ws', o', ?_, R', kN.trans F', O'⟩
      rw [e_X6_commonMeasureOfAll_10]
      simp only [len_r a4 (by omega), bS, iZ_nat, h.o, pf0, a4, vF, h.rk.o]
      rw [if_neg (by rw [iZ_le (by omega) (by omega)]; omega), isS, cond_true, iZ_clampN (by omega), if_neg (nob (iZ_n0 (by omega)) (by omega))]
      simp only [ea, rfS, f, bS, v2]
      rw [ble2 (by omega) (by omega), cond_true, z_p1]
      exact f'
    · refine ⟨M, vs, none, ?_, h.rk, FK.refl _ _, Or.inr ⟨rfl, cmA_none et (by omega)⟩⟩
      rw [e_X6_commonMeasureOfAll_10]
      simp only [len_r a4 (by omega), bS, iZ_nat]
      rw [if_neg (by rw [iZ_le (by omega) (by omega)]; omega), isNn, cond_false, if_pos (by omega)]
theorem up_lt (ff pf : Nat → Option Nat) (i : Nat) : va_up (fun j => if j < i then ff j else pf j) i (ff i) = fun j => if j < i + 1 then ff j else pf j := by
  funext j
  by_cases e : j = i
  · subst e
    rw [va_up_self, if_pos (by omega)]
  · rw [va_up_ne _ _ e]
    by_cases k : j < i
    · rw [if_pos k, if_pos (by omega)]
    · rw [if_neg k, if_neg (by omega)]
theorem renew_l {M : me_M} {A q n : Nat} {pf ff : Nat → Option Nat} {fs : List Value} {f0 f1 f2 f3 : Value} {g : Nat → Qn} (ho : me_obj M 6 A = some (f0 :: f1 :: f2 :: f3 :: .ref (A + 37) :: fs)) (hf : me_ref M 3 (A + 37) = some (10, ff)) (hq : me_ref M 3 q = some (n, pf)) (hqA : A + 38 ≤ q) (hn : n ≤ 10) (hV : VF M (A + 1) ff n g) : ∀ (d i : Nat), d + i = n →
    sm T_X6_renew (2, [(0, .ref A), (1, .ref q), (2, .int (iZ i))], [], me_set M q (.inl (3, n, .inr (.inr (.inr (.inr (fun j => if j < i then ff j else pf j)))))), 0, 0) = some (some (.int 1), me_set M q (.inl (3, n, .inr (.inr (.inr (.inr (fun j => if j < n then ff j else pf j))))))) := by
  intro d
  induction d with
  | zero =>
    intro i hd
    have e : i = n := by omega
    subst e
    rw [e_X6_renew_2]
    simp only [len_r (rr_set _ _ _ _ _) (by omega : 3 < 5), bS, iZ_nat]
    rw [if_pos (by rw [iZ_le (by omega) (by omega)]; omega), c00]
  | succ d ih =>
    intro i hd
    obtain ⟨p, e1, F1⟩ := hV i (by omega)
    obtain ⟨_, _, _, _, oa, _⟩ := (F1.sf (Sf.sr (x := .inl (3, n, .inr (.inr (.inr (.inr (fun j => if j < i then ff j else pf j)))))) hq)).ob
    rw [e_X6_renew_2]
    simp only [len_r (rr_set _ _ _ _ _) (by omega : 3 < 5), bS, iZ_nat, mo_ne _ _ _ _ _ (show A ≠ q by omega), ho, h4, vF, rr_ne _ _ _ _ _ (show A + 37 ≠ q by omega), hf, rr_set]
    rw [if_neg (by rw [iZ_le (by omega) (by omega)]; omega), iZ_clampN (by omega), if_neg (nob (iZ_n0 (by omega)) (by omega)), if_neg (nob (iZ_n0 (by omega)) (by omega))]
    simp only [e1, rfS, vN, bS]
    rw [okx oa, cond_true, set_set, z_p1]
    have e2 := up_lt ff pf i
    rw [e1] at e2
    rw [e2]
    exact ih (i + 1) (by omega)
theorem renew_s {M : me_M} {A : Nat} {s : Sx} {vs : Nat → Nat} {vf rf ff : Nat → Option Nat} {lf df : Nat → Int32} {r p q : Nat} {g : Nat → Qn} (h : PG M A s vs vf rf ff lf df) (hr : r < sR s) (k : Rq M A rf r p q) (hV : VF M (A + 1) ff (sL s r) g) : Ac M A (f_X6_renew [.ref A, .ref q] M) (1, uR s r g) := by
  obtain ⟨a1, a2, a3, pf, a4, a5⟩ := h.at hr k
  obtain ⟨P, G⟩ := h.put (pf' := fun j => if j < sL s r then ff j else pf j) (g := g) hr k (fun i hi => by
    obtain ⟨p, e1, e2⟩ := hV i hi
    exact ⟨p, (if_pos hi).trans e1, e2⟩)
  refine ⟨_, ?_, ⟨vs, vf, rf, ff, lf, df, P⟩, G⟩
  have e := renew_l h.o h.rf a4 a1 a3 hV (sL s r) 0 (by omega)
  rw [e_X6_renew, ← e]
  have e3 : (fun j => if j < 0 then ff j else pf j) = pf := by
    funext j
    rw [if_neg (by omega)]
  rw [e3, set_self (me_ref_eq a4)]
  rfl
def rAct (s : Sx) (r : Nat) (g : Nat → Option Qn) : Int32 × Sx := if ∀ i, i < sL s r → (g i).isSome = true then (1, uR s r (fun i => (g i).getD (0, 0, 1))) else (-4, wd s)
theorem rAct_n {s : Sx} {r i : Nat} {g : Nat → Option Qn} (hi : i < sL s r) (h : g i = none) : rAct s r g = (-4, wd s) := if_neg (fun k => by have := k i hi; rw [h] at this; exact absurd this (by decide))
theorem rAct_p {s : Sx} {r : Nat} {g : Nat → Option Qn} (h : ∀ i, i < sL s r → (g i).isSome = true) : rAct s r g = (1, uR s r (fun i => (g i).getD (0, 0, 1))) := if_pos h
/-- one fresh place -/
theorem fresh_s {M : me_M} {A : Nat} {s : Sx} {vs : Nat → Nat} {vf rf ff : Nat → Option Nat} {lf df : Nat → Int32} {i p : Nat} {q : Qn} {g : Nat → Qn} (h : PG M A s vs vf rf ff lf df) (hV : VF M (A + 1) ff i g) (hF : Fx M (A + 1) p q) (hg : g i = q) : VF (me_set M (A + 37) (.inl (3, 10, .inr (.inr (.inr (.inr (va_up ff i (some p)))))))) (A + 1) (va_up ff i (some p)) (i + 1) g := by
  obtain ⟨_, k, _⟩ := h.fr (ff' := va_up ff i (some p))
  intro j hj
  by_cases e : j = i
  · subst e
    exact ⟨p, va_up_self _ _ _, by rw [hg]; exact hF.sf k⟩
  · obtain ⟨p', e1, e2⟩ := hV j (by omega)
    exact ⟨p', by rw [va_up_ne _ _ e]; exact e1, e2.sf k⟩
