/-! the class's acts on VALUES -/
def GF (M M' : me_M) (A : Nat) : Prop := M.1 ≤ M'.1 ∧ ∀ p, p < M.1 → (p < A ∨ A + 38 ≤ p) → me_ref M 3 p = none → M'.2 p = M.2 p
theorem GF.refl (M : me_M) (A : Nat) : GF M M A := ⟨Nat.le_refl _, fun _ _ _ _ => rfl⟩
theorem GF.trans {M N L : me_M} {A : Nat} (h : GF M N A) (k : GF N L A) : GF M L A := ⟨Nat.le_trans h.1 k.1, fun p h1 h2 h3 => by
  have e := h.2 p h1 h2 h3
  rw [k.2 p (Nat.lt_of_lt_of_le h1 h.1) h2 (by rw [mr_of e]; exact h3), e]⟩
theorem FK.gf {M M' : me_M} {A : Nat} (h : FK M M' (A + 1)) : GF M M' A := ⟨h.1, fun p h1 h2 _ => h.2 p h1 (by omega)⟩
theorem GF.set {M : me_M} {A a : Nat} {x : me_E} (h : A ≤ a ∧ a < A + 38) : GF M (me_set M a x) A := ⟨Nat.le_refl _, fun p _ h2 _ => set_ne (by omega)⟩
theorem GF.sr {M : me_M} {A a : Nat} {x : me_E} {g : Nat × (Nat → Option Nat)} (h : me_ref M 3 a = some g) : GF M (me_set M a x) A := ⟨Nat.le_refl _, fun p _ _ h3 => set_ne (by intro e; subst e; rw [h] at h3; exact absurd h3 (by simp))⟩
def Ac (M : me_M) (A : Nat) (r : Option sm_R) (t : Int32 × Sx) : Prop := ∃ M' : me_M, r = some (some (.int t.1), M') ∧ PF M' A t.2 ∧ GF M M' A
theorem Ac.trans {M N : me_M} {A : Nat} {r : Option sm_R} {t : Int32 × Sx} (h : GF M N A) (k : Ac N A r t) : Ac M A r t := by
  obtain ⟨L, e, p, g⟩ := k
  exact ⟨L, e, p, h.trans g⟩
theorem i_rep (x : Int32) : ∃ X : Int, x = iZ X ∧ -2147483648 ≤ X ∧ X < 2147483648 ∧ x.toInt = X := ⟨x.toInt, (iZ_self x).symm, Int32.le_toInt x, Int32.toInt_lt x, rfl⟩
abbrev isV (n : Nat) (x : Int32) : Prop := 0 ≤ x.toInt ∧ x.toInt < (n : Int)
theorem isV.ix {n : Nat} {x : Int32} (h : isV n x) (hn : n ≤ 1000) : ∃ i : Nat, i < n ∧ x = iZ (i : Int) ∧ x.toNatClampNeg = i := by
  obtain ⟨X, e, b1, b2, t⟩ := i_rep x
  obtain ⟨h1, h2⟩ := h
  rw [t] at h1 h2
  obtain ⟨i, rfl⟩ := Int.eq_ofNat_of_zero_le h1
  exact ⟨i, by omega, e, by rw [e]; exact iZ_clampN (by omega)⟩
theorem isV.no {n m : Nat} {x : Int32} (h : isV n x) (hn : n ≤ m) (hm : m ≤ 1000) : ¬ (x < 0 ∨ m ≤ x.toNatClampNeg) := by
  obtain ⟨i, h1, h2, h3⟩ := h.ix (by omega)
  rw [h3, h2]
  exact nob (iZ_n0 (by omega)) (by omega)
theorem isV.lt {n : Nat} {x : Int32} (h : isV n x) (hn : n ≤ 1000) : x.toNatClampNeg < n := by
  obtain ⟨i, h1, h2, h3⟩ := h.ix hn
  omega
theorem rfS (p : Nat) : va_rf (some p) = .ref p := rfl
theorem vF (x : Nat) : v_ref (.ref x) = some x := rfl
theorem cT1 {α : Type} {a b : α} : (if (1 : Int32) = 0 ∨ True then a else b) = a := if_pos (Or.inr trivial)
theorem cT0 {α : Type} {a b : α} : (if True ∨ (0 : Int32) = 1 then a else b) = a := if_pos (Or.inl trivial)
theorem isValue_s {M : me_M} {A : Nat} {s : Sx} {x : Int32} (ho : me_obj M 6 A = some (pfo A s)) (hn : sN s ≤ 240) : f_X6_isValue [.ref A, .int x] M = some (some (.int (if isV (sN s) x then 1 else 0)), M) := by
  obtain ⟨X, e, b1, b2, t⟩ := i_rep x
  rw [e_X6_isValue]
  by_cases h1 : X < 0
  · rw [if_pos (by rw [e, z_0, iZ_lt (by omega) (by omega)]; exact h1), cz0, c00, if_neg (fun h => by have := h.1; omega)]
  · rw [if_neg (by rw [e, z_0, iZ_lt (by omega) (by omega)]; exact h1)]
    simp only [ho, pfo, bS, pf5, vI]
    by_cases h2 : X < sN s
    · rw [if_neg (by rw [e, iZ_le (by omega) (by omega)]; omega), cT1, c00, if_pos (by constructor <;> omega)]
    · rw [if_pos (by rw [e, iZ_le (by omega) (by omega)]; omega), cT0, c00, if_neg (fun h => by have := h.2; omega)]
theorem isRow_s {M : me_M} {A : Nat} {s : Sx} {x : Int32} (ho : me_obj M 6 A = some (pfo A s)) (hn : sR s ≤ 20) : f_X6_isRow [.ref A, .int x] M = some (some (.int (if isV (sR s) x then 1 else 0)), M) := by
  obtain ⟨X, e, b1, b2, t⟩ := i_rep x
  rw [e_X6_isRow]
  by_cases h1 : X < 0
  · rw [if_pos (by rw [e, z_0, iZ_lt (by omega) (by omega)]; exact h1), cz0, c00, if_neg (fun h => by have := h.1; omega)]
  · rw [if_neg (by rw [e, z_0, iZ_lt (by omega) (by omega)]; exact h1)]
    simp only [ho, pfo, bS, pf6, vI]
    by_cases h2 : X < sR s
    · rw [if_neg (by rw [e, iZ_le (by omega) (by omega)]; omega), cT1, c00, if_pos (by constructor <;> omega)]
    · rw [if_pos (by rw [e, iZ_le (by omega) (by omega)]; omega), cT0, c00, if_neg (fun h => by have := h.2; omega)]
theorem isFull_s {M : me_M} {A : Nat} {s : Sx} (ho : me_obj M 6 A = some (pfo A s)) (hn : sN s ≤ 240) : f_X6_isFull [.ref A] M = some (some (.int (if sN s = 240 then 1 else 0)), M) := by
  rw [e_X6_isFull]
  simp only [ho, pfo, bS, pf5, vI]
  by_cases h2 : sN s = 240
  · rw [if_neg (by rw [show (240 : Int32) = iZ 240 from rfl, iZ_lt (by omega) (by omega)]; omega), cT1, c00, if_pos h2]
  · rw [if_pos (by rw [show (240 : Int32) = iZ 240 from rfl, iZ_lt (by omega) (by omega)]; omega), cT0, c00, if_neg h2]
theorem i10 : ¬ ((1 : Int32) = 0) := by decide
/-! the accessors of the state -/
theorem PG.rk {M : me_M} {A : Nat} {s : Sx} {vs : Nat → Nat} {vf rf ff : Nat → Option Nat} {lf df : Nat → Int32} (h : PG M A s vs vf rf ff lf df) : RK M (A + 1) vs := h.1
theorem PG.o {M : me_M} {A : Nat} {s : Sx} {vs : Nat → Nat} {vf rf ff : Nat → Option Nat} {lf df : Nat → Int32} (h : PG M A s vs vf rf ff lf df) : me_obj M 6 A = some [.ref (A + 1), .ref (A + 32), .ref (A + 35), .ref (A + 36), .ref (A + 37), .int (iZ (sN s)), .int (iZ (sR s)), .int (iZ (cs (sV s) (sN s))), .int (iZ (sW s)), .int (iZ (gl (sV s) (sN s)))] := h.2.1
theorem PG.od {M : me_M} {A : Nat} {s : Sx} {vs : Nat → Nat} {vf rf ff : Nat → Option Nat} {lf df : Nat → Int32} (h : PG M A s vs vf rf ff lf df) : me_obj M 0 (A + 32) = some [.ref (A + 33), .int (iZ (sT s)), .ref (A + 34)] := h.2.2.1
theorem PG.il {M : me_M} {A : Nat} {s : Sx} {vs : Nat → Nat} {vf rf ff : Nat → Option Nat} {lf df : Nat → Int32} (h : PG M A s vs vf rf ff lf df) : me_int M 2 (A + 33) = some (216, lf) := h.2.2.2.1
theorem PG.ig {M : me_M} {A : Nat} {s : Sx} {vs : Nat → Nat} {vf rf ff : Nat → Option Nat} {lf df : Nat → Int32} (h : PG M A s vs vf rf ff lf df) : me_int M 2 (A + 34) = some (216, df) := h.2.2.2.2.1
theorem PG.rv {M : me_M} {A : Nat} {s : Sx} {vs : Nat → Nat} {vf rf ff : Nat → Option Nat} {lf df : Nat → Int32} (h : PG M A s vs vf rf ff lf df) : me_ref M 3 (A + 35) = some (240, vf) := h.2.2.2.2.2.1
theorem PG.rr {M : me_M} {A : Nat} {s : Sx} {vs : Nat → Nat} {vf rf ff : Nat → Option Nat} {lf df : Nat → Int32} (h : PG M A s vs vf rf ff lf df) : me_ref M 4 (A + 36) = some (20, rf) := h.2.2.2.2.2.2.1
theorem PG.rf {M : me_M} {A : Nat} {s : Sx} {vs : Nat → Nat} {vf rf ff : Nat → Option Nat} {lf df : Nat → Int32} (h : PG M A s vs vf rf ff lf df) : me_ref M 3 (A + 37) = some (10, ff) := h.2.2.2.2.2.2.2.1
theorem PG.n {M : me_M} {A : Nat} {s : Sx} {vs : Nat → Nat} {vf rf ff : Nat → Option Nat} {lf df : Nat → Int32} (h : PG M A s vs vf rf ff lf df) : sN s ≤ 240 := h.2.2.2.2.2.2.2.2.1
theorem PG.m {M : me_M} {A : Nat} {s : Sx} {vs : Nat → Nat} {vf rf ff : Nat → Option Nat} {lf df : Nat → Int32} (h : PG M A s vs vf rf ff lf df) : sR s ≤ 20 := h.2.2.2.2.2.2.2.2.2.1
theorem PG.V {M : me_M} {A : Nat} {s : Sx} {vs : Nat → Nat} {vf rf ff : Nat → Option Nat} {lf df : Nat → Int32} (h : PG M A s vs vf rf ff lf df) : VF M (A + 1) vf (sN s) (sV s) := h.2.2.2.2.2.2.2.2.2.2.1
theorem PG.R {M : me_M} {A : Nat} {s : Sx} {vs : Nat → Nat} {vf rf ff : Nat → Option Nat} {lf df : Nat → Int32} (h : PG M A s vs vf rf ff lf df) : RF M A rf (sR s) (sL s) (sP s) := h.2.2.2.2.2.2.2.2.2.2.2.1
theorem PG.T {M : me_M} {A : Nat} {s : Sx} {vs : Nat → Nat} {vf rf ff : Nat → Option Nat} {lf df : Nat → Int32} (h : PG M A s vs vf rf ff lf df) : sT s ≤ 216 := h.2.2.2.2.2.2.2.2.2.2.2.2.1
theorem PG.C {M : me_M} {A : Nat} {s : Sx} {vs : Nat → Nat} {vf rf ff : Nat → Option Nat} {lf df : Nat → Int32} (h : PG M A s vs vf rf ff lf df) : ∀ j, j < sT s → lf j = iZ (sC s j) := h.2.2.2.2.2.2.2.2.2.2.2.2.2
theorem PG.val {M : me_M} {A : Nat} {s : Sx} {vs : Nat → Nat} {vf rf ff : Nat → Option Nat} {lf df : Nat → Int32} (h : PG M A s vs vf rf ff lf df) {x : Int32} (hx : isV (sN s) x) : ∃ p : Nat, vf x.toNatClampNeg = some p ∧ Fx M (A + 1) p (sV s x.toNatClampNeg) := h.V _ (hx.lt (Nat.le_trans h.n (by omega)))
/-- the object and the VALUES told anew -/
theorem PG.so {M : me_M} {A : Nat} {s : Sx} {vs : Nat → Nat} {vf rf ff : Nat → Option Nat} {lf df : Nat → Int32} (h : PG M A s vs vf rf ff lf df) {s' : Sx} {vf' : Nat → Option Nat} (hn : sN s' ≤ 240) (hr : sR s' ≤ 20) (hV : VF M (A + 1) vf' (sN s') (sV s')) (hR : RF M A rf (sR s') (sL s') (sP s')) (hT : s'.2.2.2 = s.2.2.2) :
    PG (me_set (me_set M (A + 35) (.inl (3, 240, .inr (.inr (.inr (.inr vf')))))) A (.inr (6, pfo A s'))) A s' vs vf' rf ff lf df := by
  have hD := h.rk.dm
  have k1 : Sf M (me_set M (A + 35) (.inl (3, 240, .inr (.inr (.inr (.inr vf')))))) := Sf.sr h.rv
  have o1 : me_obj (me_set M (A + 35) (.inl (3, 240, .inr (.inr (.inr (.inr vf')))))) 6 A = some (pfo A s) := (mo_ne _ _ _ _ _ (by omega)).trans h.o
  have k2 : Sf M (me_set (me_set M (A + 35) (.inl (3, 240, .inr (.inr (.inr (.inr vf')))))) A (.inr (6, pfo A s'))) := k1.trans (Sf.so o1 (by omega))
  have d1 : Dm (me_set M (A + 35) (.inl (3, 240, .inr (.inr (.inr (.inr vf')))))) := hD.set (rr_lt hD h.rv)
  have d2 : Dm (me_set (me_set M (A + 35) (.inl (3, 240, .inr (.inr (.inr (.inr vf')))))) A (.inr (6, pfo A s'))) := d1.set (mo_lt d1 o1)
  have eT : sT s' = sT s := by unfold sT; rw [hT]
  have eC : sC s' = sC s := by unfold sC; rw [hT]
  refine ⟨h.rk.sf k2 d2, mo_set _ _ _ _, ?_, ?_, ?_, ?_, ?_, ?_, hn, hr, hV.sf k2, hR.sf hD k2 ?_, ?_, ?_⟩
  · rw [mo_ne _ _ _ _ _ (by omega), mo_ne _ _ _ _ _ (by omega), eT]; exact h.od
  · rw [mi_ne _ _ _ _ _ (by omega), mi_ne _ _ _ _ _ (by omega)]; exact h.il
  · rw [mi_ne _ _ _ _ _ (by omega), mi_ne _ _ _ _ _ (by omega)]; exact h.ig
  · rw [rr_ne _ _ _ _ _ (by omega), rr_set]
  · rw [rr_ne _ _ _ _ _ (by omega), rr_ne _ _ _ _ _ (by omega)]; exact h.rr
  · rw [rr_ne _ _ _ _ _ (by omega), rr_ne _ _ _ _ _ (by omega)]; exact h.rf
  · intro x hx _
    rw [set_ne (by omega), set_ne (by omega)]
  · rw [eT]; exact h.T
  · rw [eT, eC]; exact h.C
theorem so_gf {M : me_M} {A : Nat} {x y : me_E} : GF M (me_set (me_set M (A + 35) x) A y) A := (GF.set (by omega)).trans (GF.set (by omega))
/-- with the VALUES as they were -/
theorem PG.so' {M : me_M} {A : Nat} {s : Sx} {vs : Nat → Nat} {vf rf ff : Nat → Option Nat} {lf df : Nat → Int32} (h : PG M A s vs vf rf ff lf df) {s' : Sx} (hn : sN s' ≤ 240) (hr : sR s' ≤ 20) (hV : VF M (A + 1) vf (sN s') (sV s')) (hR : RF M A rf (sR s') (sL s') (sP s')) (hT : s'.2.2.2 = s.2.2.2) :
    PG (me_set M A (.inr (6, pfo A s'))) A s' vs vf rf ff lf df := by
  have k := h.so hn hr hV hR hT
  rw [set_self (me_ref_eq h.rv)] at k
  exact k
def wd (s : Sx) : Sx := (s.1, s.2.1, sW s + 1, s.2.2.2)
theorem tooWide_s {M : me_M} {A : Nat} {s : Sx} (h : PF M A s) : Ac M A (f_X6_tooWide [.ref A] M) (-4, wd s) := by
  obtain ⟨vs, vf, rf, ff, lf, df, h⟩ := h
  refine ⟨me_set M A (.inr (6, pfo A (wd s))), ?_, ⟨vs, vf, rf, ff, lf, df, h.so' h.n h.m h.V h.R rfl⟩, GF.set (by omega)⟩
  rw [e_X6_tooWide]
  simp only [h.o, bS, pf8, vI, pl8, ps8, z_p1]
  exact c00
def kp (s : Sx) (q : Qn) : Int32 × Sx := if q.2.1 < 2 ^ 512 ∧ q.2.2 < 2 ^ 512 then (iZ (sN s), ((sN s + 1, fun i => if i = sN s then q else sV s i), s.2)) else (-4, wd s)
theorem qS1_e (q : Qn) [Decidable (qSmall q)] : qS1 q = if qSmall q then 1 else 0 := by
  by_cases h : qSmall q
  · rw [if_pos h]; exact if_pos h
  · rw [if_neg h]; exact if_neg h
theorem qLen_le {q : Qn} (h : Fits q) : qLen q ≤ 512 := Nat.max_le.mpr ⟨bl_le_iff.mpr h.1, bl_le_iff.mpr h.2⟩
theorem gl_le {f : Nat → Qn} {n : Nat} (h : ∀ i, i < n → Fits (f i)) : gl f n ≤ 512 := by
  induction n with
  | zero => exact Nat.zero_le _
  | succ n ih => exact Nat.max_le.mpr ⟨ih (fun i hi => h i (by omega)), qLen_le (h n (by omega))⟩
theorem okx {M : me_M} {ci p : Nat} {fs : List Value} (h : me_obj M ci p = some fs) : i_okx M ci (some p) = true := by
  unfold i_okx
  simp only [h]
  rfl
theorem iZ_max {a b : Nat} (ha : a < 100000) (hb : b < 100000) : (if iZ (a : Int) < iZ (b : Int) then iZ (b : Int) else iZ (a : Int)) = iZ ((max a b : Nat) : Int) := by
  by_cases h : a < b
  · rw [if_pos (by rw [iZ_lt (by omega) (by omega)]; omega), Nat.max_eq_right (by omega)]
  · rw [if_neg (by rw [iZ_lt (by omega) (by omega)]; omega), Nat.max_eq_left (by omega)]
theorem keep_46 {N : me_M} {A p : Nat} {q : Qn} {r r' : Value} {f0 f1 f2 f3 f4 : Value} {a b g : Nat} (hp : Fx N (A + 1) p q) (hg : g ≤ 512) (ho : me_obj N 6 A = some [f0, f1, f2, f3, f4, .int (iZ ((a + 1 : Nat) : Int)), r, .int (iZ (b : Int)), r', .int (iZ (g : Int))]) :
    sm T_X6_keep (46, [(0, .ref A), (1, .ref p)], [], N, 0, 0) = some (some (.int (iZ a)), me_set N A (.inr (6, [f0, f1, f2, f3, f4, .int (iZ ((a + 1 : Nat) : Int)), r, .int (iZ (b : Int)), r', .int (iZ ((max g (qLen q) : Nat) : Int))]))) := by
  obtain ⟨a', b', ca, cb, oa, _⟩ := hp.ob
  rw [e_X6_keep_46]
  simp only [ho, oa, bS, pf9, vI, glen_s hp, pl9, ps9, mo_set, pf5]
  rw [iZ_max (by omega) (by have := qLen_le hp.2.2.1; omega), c00, z_1, iZ_sub, show ((a + 1 : Nat) : Int) - 1 = (a : Int) by omega]
theorem keep_33 {N : me_M} {A p : Nat} {q : Qn} {r r' : Value} {f0 f1 f2 f3 f4 : Value} {a b g : Nat} (hp : Fx N (A + 1) p q) (hg : g ≤ 512) (ho : me_obj N 6 A = some [f0, f1, f2, f3, f4, .int (iZ ((a + 1 : Nat) : Int)), r, .int (iZ (b : Int)), r', .int (iZ (g : Int))]) :
    ((f_X2_isSmall [.ref p] N).bind fun r12 => r12.1.bind fun v13 => (v_int v13).bind fun y14 => sm T_X6_keep (33, [(0, .ref A), (1, .ref p)], [.int y14], r12.2, 0, 0)) = some (some (.int (iZ a)), me_set N A (.inr (6, [f0, f1, f2, f3, f4, .int (iZ ((a + 1 : Nat) : Int)), r, .int (iZ ((b + qS1 q : Nat) : Int)), r', .int (iZ ((max g (qLen q) : Nat) : Int))]))) := by
  haveI : Decidable (qSmall q) := by unfold qSmall; infer_instance
  rw [small_s hp]
  simp only [bS, vI]
  rw [e_X6_keep_33, qS1_e]
  by_cases hs : qSmall q
  · rw [if_pos hs, if_neg i10, if_pos hs]
    simp only [ho, bS, pf7, vI, pl7, ps7, z_p1]
    rw [keep_46 (hp.sf (Sf.so ho (by omega))) hg (mo_set _ _ _ _), set_set]
  · rw [if_neg hs, if_pos rfl, if_neg hs]
    exact keep_46 hp hg ho
theorem keep_s {M : me_M} {A : Nat} {s : Sx} {v : Value} {q : Qn} (h : PF M A s) (hN : sN s < 240) (hq : (Fits q ∧ ∃ p : Nat, v = .ref p ∧ Fx M (A + 1) p q) ∨ (¬ Fits q ∧ v = .null)) : Ac M A (f_X6_keep [.ref A, v] M) (kp s q) := by
  rcases hq with ⟨hF, p, rfl, hp⟩ | ⟨hF, rfl⟩
  · obtain ⟨vs, vf, rf, ff, lf, df, h⟩ := h
    have ek : kp s q = (iZ (sN s), ((sN s + 1, fun i => if i = sN s then q else sV s i), s.2)) := if_pos hF
    rw [ek]
    have hV : VF M (A + 1) (va_up vf (sN s) (some p)) (sN s + 1) (fun i => if i = sN s then q else sV s i) := by
      intro i hi
      by_cases e : i = sN s
      · subst e
        exact ⟨p, va_up_self _ _ _, by show Fx M (A + 1) p (if sN s = sN s then q else sV s (sN s)); rw [if_pos rfl]; exact hp⟩
      · obtain ⟨p', e1, e2⟩ := h.V i (by omega)
        exact ⟨p', by rw [va_up_ne _ _ e]; exact e1, by show Fx M (A + 1) p' (if i = sN s then q else sV s i); rw [if_neg e]; exact e2⟩
    have P := h.so (s' := ((sN s + 1, fun i => if i = sN s then q else sV s i), s.2)) (vf' := va_up vf (sN s) (some p)) (by show sN s + 1 ≤ 240; omega) h.m hV h.R rfl
    refine ⟨_, ?_, ⟨vs, _, rf, ff, lf, df, P⟩, so_gf⟩
    obtain ⟨a', b', ca, cb, oa, _⟩ := hp.ob
    obtain ⟨N, hN'⟩ : ∃ N : me_M, N = me_set M (A + 35) (.inl (3, 240, .inr (.inr (.inr (.inr (va_up vf (sN s) (some p))))))) := ⟨_, rfl⟩
    have kN : Sf M N := by rw [hN']; exact Sf.sr h.rv
    have oN : me_obj N 6 A = some [.ref (A + 1), .ref (A + 32), .ref (A + 35), .ref (A + 36), .ref (A + 37), .int (iZ (sN s)), .int (iZ (sR s)), .int (iZ (cs (sV s) (sN s))), .int (iZ (sW s)), .int (iZ (gl (sV s) (sN s)))] := by rw [hN', mo_ne _ _ _ _ _ (by omega)]; exact h.o
    rw [e_X6_keep_s]
    simp only [h.o, bS, pf2, pf5, vI, vF, h.rv]
    rw [if_neg (nob (iZ_n0 (by omega)) (by rw [iZ_clampN (by omega)]; omega)), iZ_clampN (by omega), okx oa, cond_true, ← hN']
    simp only [oN, bS, pf5, vI, pl5, ps5, z_p1]
    have k2 : Sf N (me_set N A (.inr (6, [.ref (A + 1), .ref (A + 32), .ref (A + 35), .ref (A + 36), .ref (A + 37), .int (iZ ((sN s + 1 : Nat) : Int)), .int (iZ (sR s)), .int (iZ (cs (sV s) (sN s))), .int (iZ (sW s)), .int (iZ (gl (sV s) (sN s)))]))) := Sf.so oN (by omega)
    have p2 := (hp.sf kN).sf k2
    obtain ⟨a2, b2, ca2, cb2, oa2, _⟩ := p2.ob
    simp only [oa2, bS]
    rw [keep_33 p2 (gl_le (fun i hi => (h.V i hi).elim fun _ h => h.2.2.2.1)) (mo_set _ _ _ _), set_set]
    have e1 : cs (fun i => if i = sN s then q else sV s i) (sN s + 1) = cs (sV s) (sN s) + qS1 q := by
      show cs (fun i => if i = sN s then q else sV s i) (sN s) + qS1 (if sN s = sN s then q else sV s (sN s)) = _
      rw [if_pos rfl, cs_c (g := sV s) (fun i hi => if_neg (by omega))]
    have e2 : gl (fun i => if i = sN s then q else sV s i) (sN s + 1) = max (gl (sV s) (sN s)) (qLen q) := by
      show max (gl (fun i => if i = sN s then q else sV s i) (sN s)) (qLen (if sN s = sN s then q else sV s (sN s))) = _
      rw [if_pos rfl, gl_c (g := sV s) (fun i hi => if_neg (by omega))]
    rw [← e1, ← e2]
    rfl
  · have ek : kp s q = (-4, wd s) := if_neg hF
    rw [ek]
    obtain ⟨L, f, P, G⟩ := tooWide_s h
    obtain ⟨vs, vf, rf, ff, lf, df, h⟩ := h
    refine ⟨L, ?_, P, G⟩
    rw [e_X6_keep_n]
    simp only [h.o, bS, f, vI]
    exact c00
theorem Rs.pf {M M' : me_M} {A : Nat} {s : Sx} {v : Value} {q : Qn} (h : PF M A s) (r : Rs M M' (A + 1) v q) : PF M' A s ∧ GF M M' A := by
  obtain ⟨vs, vf, rf, ff, lf, df, h⟩ := h
  obtain ⟨⟨ws, hw⟩, k, _⟩ := r
  exact ⟨⟨ws, vf, rf, ff, lf, df, h.fk hw k⟩, k.gf⟩
theorem Rs.vn {M N : me_M} {K : Nat} {v : Value} {q : Qn} (h : Rs M N K v q) {α : Type} (X : Option α) : ((v_rn v).bind fun _ => X) = X := by
  rcases h.2.2 with ⟨_, p, rfl, _⟩ | ⟨_, rfl⟩ <;> rfl
/-- an answer of the Reckoner is kept -/
theorem kept_f {M N : me_M} {A : Nat} {s : Sx} {v : Value} {q : Qn} (h : PF M A s) (hN : sN s < 240) (r : Rs M N (A + 1) v q) : ∃ L : me_M, f_X6_keep [.ref A, v] N = some (some (.int (kp s q).1), L) ∧ PF L A (kp s q).2 ∧ GF M L A ∧ ∃ fs, me_obj N 6 A = some fs := by
  obtain ⟨P, G⟩ := Rs.pf h r
  obtain ⟨L, e, p, g⟩ := keep_s P hN r.2.2
  obtain ⟨vs, vf, rf, ff, lf, df, P⟩ := P
  exact ⟨L, e, p, G.trans g, _, P.o⟩
theorem ble2 {a b c d : Nat} (h : a ≤ b) (k : c ≤ d) : (Nat.ble a b && Nat.ble c d) = true := by
  rw [Nat.ble_eq_true_of_le h, Nat.ble_eq_true_of_le k]; rfl
def t2 (s : Sx) (x y : Int32) (q : Qn → Qn → Qn) : Int32 × Sx := if isV (sN s) x then (if isV (sN s) y then (if sN s = 240 then (-3, s) else kp s (q (sV s x.toNatClampNeg) (sV s y.toNatClampNeg))) else (-2, s)) else (-2, s)
theorem t2_ok {s : Sx} {x y : Int32} {q : Qn → Qn → Qn} (hx : isV (sN s) x) (hy : isV (sN s) y) (hf : ¬ sN s = 240) : t2 s x y q = kp s (q (sV s x.toNatClampNeg) (sV s y.toNatClampNeg)) := by
  unfold t2
  rw [if_pos hx, if_pos hy, if_neg hf]
theorem t2_f {s : Sx} {x y : Int32} {q : Qn → Qn → Qn} (hx : isV (sN s) x) (hy : isV (sN s) y) (hf : sN s = 240) : t2 s x y q = (-3, s) := by
  unfold t2
  rw [if_pos hx, if_pos hy, if_pos hf]
theorem t2_y {s : Sx} {x y : Int32} {q : Qn → Qn → Qn} (hx : isV (sN s) x) (hy : ¬ isV (sN s) y) : t2 s x y q = (-2, s) := by
  unfold t2
  rw [if_pos hx, if_neg hy]
theorem t2_x {s : Sx} {x y : Int32} {q : Qn → Qn → Qn} (hx : ¬ isV (sN s) x) : t2 s x y q = (-2, s) := by
  unfold t2
  rw [if_neg hx]
theorem c56 {α : Type} {a b : α} : (if 0 ≤ 5 ∧ 0 ≤ 151 then a else b) = a := if_pos (by decide)
theorem c66 {α : Type} {a b : α} : (if 0 ≤ 6 ∧ 0 ≤ 154 then a else b) = a := if_pos (by decide)
theorem times_s {M : me_M} {A : Nat} {s : Sx} {x y : Int32} (h : PF M A s) : Ac M A (f_X6_times [.ref A, .int x, .int y] M) (t2 s x y qMul) := by
  have hP := h
  obtain ⟨vs, vf, rf, ff, lf, df, h⟩ := h
  have b := h.n
  rw [e_X6_times]
  simp only [h.o, bS, isValue_s h.o h.n, isFull_s h.o h.n, vI, h.rv, pf0, pf2, vF]
  by_cases hx : isV (sN s) x
  · rw [if_pos hx, if_neg i10]
    by_cases hy : isV (sN s) y
    · rw [if_pos hy, if_neg i10]
      by_cases hf : sN s = 240
      · rw [if_pos hf, if_neg i10, t2_f hx hy hf]
        exact ⟨M, if_pos (by decide), hP, GF.refl _ _⟩
      · rw [if_neg hf, if_pos rfl, t2_ok hx hy hf]
        obtain ⟨p, e1, F1⟩ := h.val hx
        obtain ⟨p', e2, F2⟩ := h.val hy
        obtain ⟨a', b', ca, cb, ob, _⟩ := F2.ob
        obtain ⟨N, v, f, S⟩ := product_s h.rk F1 F2
        obtain ⟨L, f2, P, G, fs, oN⟩ := kept_f hP (by omega) S
        rw [if_neg (hx.no b (by omega)), if_neg (hy.no b (by omega))]
        simp only [e1, e2, rfS, vF, vI, ob, g0, h.rk.o, bS, iZ_neg, f]
        rw [S.vn]
        simp only [oN, bS, f2, vI]
        exact ⟨L, if_pos (by decide), P, G⟩
    · rw [if_neg hy, if_pos rfl, t2_y hx hy]
      exact ⟨M, if_pos (by decide), hP, GF.refl _ _⟩
  · rw [if_neg hx, if_pos rfl, t2_x hx]
    exact ⟨M, if_pos (by decide), hP, GF.refl _ _⟩
theorem measureV_s {M : me_M} {A : Nat} {s : Sx} {x y : Int32} (h : PF M A s) : Ac M A (f_X6_measure [.ref A, .int x, .int y] M) (t2 s x y qMeas) := by
  have hP := h
  obtain ⟨vs, vf, rf, ff, lf, df, h⟩ := h
  have b := h.n
  rw [e_X6_measure]
  simp only [h.o, bS, isValue_s h.o h.n, isFull_s h.o h.n, vI, h.rv, pf0, pf2, vF]
  by_cases hx : isV (sN s) x
  · rw [if_pos hx, if_neg i10]
    by_cases hy : isV (sN s) y
    · rw [if_pos hy, if_neg i10]
      by_cases hf : sN s = 240
      · rw [if_pos hf, if_neg i10, t2_f hx hy hf]
        exact ⟨M, if_pos (by decide), hP, GF.refl _ _⟩
      · rw [if_neg hf, if_pos rfl, t2_ok hx hy hf]
        obtain ⟨p, e1, F1⟩ := h.val hx
        obtain ⟨p', e2, F2⟩ := h.val hy
        obtain ⟨a', b', ca, cb, ob, _⟩ := F2.ob
        obtain ⟨N, v, f, S⟩ := measure_s h.rk F1 F2
        obtain ⟨L, f2, P, G, fs, oN⟩ := kept_f hP (by omega) S
        rw [if_neg (hx.no b (by omega)), if_neg (hy.no b (by omega))]
        simp only [e1, e2, rfS, vF, vI, ob, g0, h.rk.o, bS, iZ_neg, f]
        rw [S.vn]
        simp only [oN, bS, f2, vI]
        exact ⟨L, if_pos (by decide), P, G⟩
    · rw [if_neg hy, if_pos rfl, t2_y hx hy]
      exact ⟨M, if_pos (by decide), hP, GF.refl _ _⟩
  · rw [if_neg hx, if_pos rfl, t2_x hx]
    exact ⟨M, if_pos (by decide), hP, GF.refl _ _⟩
theorem add_s {M : me_M} {A : Nat} {s : Sx} {x y : Int32} (h : PF M A s) : Ac M A (f_X6_add [.ref A, .int x, .int y] M) (t2 s x y (fun a b => qSum a b b.1)) := by
  have hP := h
  obtain ⟨vs, vf, rf, ff, lf, df, h⟩ := h
  have b := h.n
  rw [e_X6_add]
  simp only [h.o, bS, isValue_s h.o h.n, isFull_s h.o h.n, vI, h.rv, pf0, pf2, vF]
  by_cases hx : isV (sN s) x
  · rw [if_pos hx, if_neg i10]
    by_cases hy : isV (sN s) y
    · rw [if_pos hy, if_neg i10]
      by_cases hf : sN s = 240
      · rw [if_pos hf, if_neg i10, t2_f hx hy hf]
        exact ⟨M, if_pos (by decide), hP, GF.refl _ _⟩
      · rw [if_neg hf, if_pos rfl, t2_ok hx hy hf]
        obtain ⟨p, e1, F1⟩ := h.val hx
        obtain ⟨p', e2, F2⟩ := h.val hy
        obtain ⟨a', b', ca, cb, ob, _⟩ := F2.ob
        obtain ⟨N, v, f, S⟩ := sum_s h.rk F1 F2 (Or.inl rfl)
        obtain ⟨L, f2, P, G, fs, oN⟩ := kept_f hP (by omega) S
        rw [if_neg (hx.no b (by omega)), if_neg (hy.no b (by omega))]
        simp only [e1, e2, rfS, vF, vI, ob, g0, h.rk.o, bS, iZ_neg, f]
        rw [S.vn, e_X6_add_58]
        simp only [oN, bS, f2, vI]
        rw [ble2 (by omega) (by omega), cond_true]
        exact ⟨L, (if_neg (hy.no b (by omega))).trans (if_pos (by omega)), P, G⟩
    · rw [if_neg hy, if_pos rfl, t2_y hx hy]
      exact ⟨M, if_pos (by decide), hP, GF.refl _ _⟩
  · rw [if_neg hx, if_pos rfl, t2_x hx]
    exact ⟨M, if_pos (by decide), hP, GF.refl _ _⟩
theorem less_s {M : me_M} {A : Nat} {s : Sx} {x y : Int32} (h : PF M A s) : Ac M A (f_X6_less [.ref A, .int x, .int y] M) (t2 s x y (fun a b => qSum a b (-b.1))) := by
  have hP := h
  obtain ⟨vs, vf, rf, ff, lf, df, h⟩ := h
  have b := h.n
  rw [e_X6_less]
  simp only [h.o, bS, isValue_s h.o h.n, isFull_s h.o h.n, vI, h.rv, pf0, pf2, vF]
  by_cases hx : isV (sN s) x
  · rw [if_pos hx, if_neg i10]
    by_cases hy : isV (sN s) y
    · rw [if_pos hy, if_neg i10]
      by_cases hf : sN s = 240
      · rw [if_pos hf, if_neg i10, t2_f hx hy hf]
        exact ⟨M, if_pos (by decide), hP, GF.refl _ _⟩
      · rw [if_neg hf, if_pos rfl, t2_ok hx hy hf]
        obtain ⟨p, e1, F1⟩ := h.val hx
        obtain ⟨p', e2, F2⟩ := h.val hy
        obtain ⟨a', b', ca, cb, ob, _⟩ := F2.ob
        obtain ⟨N, v, f, S⟩ := sum_s h.rk F1 F2 (Or.inr rfl)
        obtain ⟨L, f2, P, G, fs, oN⟩ := kept_f hP (by omega) S
        rw [if_neg (hx.no b (by omega)), if_neg (hy.no b (by omega))]
        simp only [e1, e2, rfS, vF, vI, ob, g0, h.rk.o, bS, iZ_neg, f]
        rw [S.vn, e_X6_less_59]
        simp only [oN, bS, f2, vI]
        rw [ble2 (by omega) (by omega), cond_true]
        exact ⟨L, (if_neg (hy.no b (by omega))).trans (if_pos (by omega)), P, G⟩
    · rw [if_neg hy, if_pos rfl, t2_y hx hy]
      exact ⟨M, if_pos (by decide), hP, GF.refl _ _⟩
  · rw [if_neg hx, if_pos rfl, t2_x hx]
    exact ⟨M, if_pos (by decide), hP, GF.refl _ _⟩
def tWh (s : Sx) (x y : Int32) : Int32 × Sx := if isV (sN s) x ∧ isV 4 y then (if sN s = 240 then (-3, s) else kp s (qWhole (sV s x.toNatClampNeg) y.toNatClampNeg)) else (-2, s)
theorem wholeV_s {M : me_M} {A : Nat} {s : Sx} {x y : Int32} (h : PF M A s) : Ac M A (f_X6_whole [.ref A, .int x, .int y] M) (tWh s x y) := by
  have hP := h
  obtain ⟨vs, vf, rf, ff, lf, df, h⟩ := h
  have b := h.n
  obtain ⟨Y, e, y1, y2, t⟩ := i_rep y
  rw [e_X6_whole]
  simp only [h.o, bS, isValue_s h.o h.n, isFull_s h.o h.n, vI, h.rv, pf0, pf2, vF]
  by_cases hx : isV (sN s) x
  · rw [if_pos hx, if_neg i10]
    by_cases hy0 : Y < 0
    · rw [if_pos (by rw [e, z_0, iZ_lt (by omega) (by omega)]; exact hy0), show tWh s x y = (-2, s) from if_neg (fun k => by have := k.2.1; omega)]
      exact ⟨M, if_pos (by decide), hP, GF.refl _ _⟩
    · rw [if_neg (by rw [e, z_0, iZ_lt (by omega) (by omega)]; exact hy0)]
      by_cases hy3 : Y ≤ 3
      · rw [if_pos (by rw [e, show (3 : Int32) = iZ 3 from rfl, iZ_le (by omega) (by omega)]; exact hy3), show tWh s x y = if sN s = 240 then (-3, s) else kp s (qWhole (sV s x.toNatClampNeg) y.toNatClampNeg) from if_pos ⟨hx, by constructor <;> omega⟩]
        by_cases hf : sN s = 240
        · rw [show (if sN s = 240 then (1 : Int32) else 0) = 1 from if_pos hf, if_neg i10, if_pos hf]
          exact ⟨M, if_pos (by decide), hP, GF.refl _ _⟩
        · rw [show (if sN s = 240 then (1 : Int32) else 0) = 0 from if_neg hf, if_pos rfl, if_neg hf]
          obtain ⟨p, e1, F1⟩ := h.val hx
          obtain ⟨i, i1, i2, i3⟩ := isV.ix (n := 4) (x := y) (by constructor <;> omega) (by omega)
          obtain ⟨N, v, f, S⟩ := rounded_s h.rk F1 (how := i) (by omega)
          rw [i3]
          obtain ⟨L, f2, P, G, fs, oN⟩ := kept_f hP (by omega) S
          rw [if_neg (hx.no b (by omega))]
          simp only [e1, i2, rfS, vF, h.rk.o, bS, f]
          rw [S.vn]
          simp only [oN, bS, f2, vI]
          exact ⟨L, if_pos (by decide), P, G⟩
      · rw [if_neg (by rw [e, show (3 : Int32) = iZ 3 from rfl, iZ_le (by omega) (by omega)]; exact hy3), show tWh s x y = (-2, s) from if_neg (fun k => by have := k.2.2; omega)]
        exact ⟨M, if_pos (by decide), hP, GF.refl _ _⟩
  · rw [if_neg hx, if_pos rfl, show tWh s x y = (-2, s) from if_neg (fun k => hx k.1)]
    exact ⟨M, if_pos (by decide), hP, GF.refl _ _⟩
theorem Ro.pf {M M' : me_M} {A : Nat} {s : Sx} (h : PF M A s) (r : Ro M M' (A + 1)) : PF M' A s ∧ GF M M' A := by
  obtain ⟨vs, vf, rf, ff, lf, df, h⟩ := h
  obtain ⟨⟨ws, hw⟩, k, _⟩ := r
  exact ⟨⟨ws, vf, rf, ff, lf, df, h.fk hw k⟩, k.gf⟩
def tOr (s : Sx) (x y : Int32) : Int32 × Sx := if isV (sN s) x ∧ isV (sN s) y then (qCmp (sV s x.toNatClampNeg) (sV s y.toNatClampNeg), s) else (-2, s)
theorem order_s {M : me_M} {A : Nat} {s : Sx} {x y : Int32} (h : PF M A s) : Ac M A (f_X6_order [.ref A, .int x, .int y] M) (tOr s x y) := by
  have hP := h
  obtain ⟨vs, vf, rf, ff, lf, df, h⟩ := h
  have b := h.n
  rw [e_X6_order]
  simp only [h.o, bS, isValue_s h.o h.n, vI, h.rv, pf0, pf2, vF]
  by_cases hx : isV (sN s) x
  · rw [if_pos hx, if_neg i10]
    by_cases hy : isV (sN s) y
    · rw [if_pos hy, if_neg i10, show tOr s x y = _ from if_pos ⟨hx, hy⟩]
      obtain ⟨p, e1, F1⟩ := h.val hx
      obtain ⟨p', e2, F2⟩ := h.val hy
      obtain ⟨N, f, S⟩ := compare_q h.rk F1 F2
      obtain ⟨P, G⟩ := S.pf hP
      rw [if_neg (hx.no b (by omega)), if_neg (hy.no b (by omega))]
      simp only [e1, e2, rfS, h.rk.o, bS, f, vI]
      exact ⟨N, if_pos (by decide), P, G⟩
    · rw [if_neg hy, if_pos rfl, show tOr s x y = (-2, s) from if_neg (fun k => hy k.2)]
      exact ⟨M, if_pos (by decide), hP, GF.refl _ _⟩
  · rw [if_neg hx, if_pos rfl, show tOr s x y = (-2, s) from if_neg (fun k => hx k.1)]
    exact ⟨M, if_pos (by decide), hP, GF.refl _ _⟩
/-- of: SMALL, sign, the LENGTHS, whether it is whole -/
def tOf (s : Sx) (x y : Int32) : Int32 × Sx := if isV (sN s) x ∧ isV 5 y then ((if y.toInt = 0 then iZ (qS1 (sV s x.toNatClampNeg)) else if y.toInt = 1 then iZ (sV s x.toNatClampNeg).1 else if y.toInt = 2 then iZ (bl (sV s x.toNatClampNeg).2.1) else if y.toInt = 3 then iZ (bl (sV s x.toNatClampNeg).2.2) else if (sV s x.toNatClampNeg).2.2 = 1 then 1 else 0), s) else (-2, s)
theorem of_c {M : me_M} {A p : Nat} {q : Qn} {y : Int32} (hq : Fx M (A + 1) p q) (Y : Int) (t : y.toInt = Y) (h0 : 0 ≤ Y) (h4 : Y < 5) : sm T_X6_of (19, [(3, .ref p)], [.int y], M, 0, 0) = some (some (.int (if Y = 0 then iZ (qS1 q) else if Y = 1 then iZ q.1 else if Y = 2 then iZ (bl q.2.1) else if Y = 3 then iZ (bl q.2.2) else if q.2.2 = 1 then 1 else 0)), M) := by
  obtain ⟨a, b, ca, cb, ob, Wa, Wb, _⟩ := hq.ob
  rw [e_X6_of_19, t, if_neg (by omega)]
  have hc : Y = 0 ∨ Y = 1 ∨ Y = 2 ∨ Y = 3 ∨ Y = 4 := by omega
  rcases hc with rfl | rfl | rfl | rfl | rfl
  · show sm T_X6_of (52, _, _, M, 0, 0) = _
    rw [e_X6_of_52, if_pos rfl]
    haveI : Decidable (qSmall q) := by unfold qSmall; infer_instance
    simp only [ob, bS, small_s hq, vI]
    rw [qS1_e]
    by_cases hs : qSmall q
    · rw [if_pos hs, if_neg i10, c00, if_pos hs]; rfl
    · rw [if_neg hs, if_pos rfl, c00, if_neg hs]; rfl
  · show sm T_X6_of (65, _, _, M, 0, 0) = _
    rw [e_X6_of_65, if_neg (by decide), if_pos rfl]
    simp only [ob, bS, g0, vI]
    exact c00
  · show sm T_X6_of (70, _, _, M, 0, 0) = _
    rw [e_X6_of_70, if_neg (by decide), if_neg (by decide), if_pos rfl]
    obtain ⟨t1, f1, W⟩ := Wa
    simp only [ob, bS, g1, vF, W.1, length_s W, vI]
    exact c00
  · show sm T_X6_of (78, _, _, M, 0, 0) = _
    rw [e_X6_of_78, if_neg (by decide), if_neg (by decide), if_neg (by decide), if_pos rfl]
    obtain ⟨t1, f1, W⟩ := Wb
    simp only [ob, bS, h2, vF, W.1, length_s W, vI]
    exact c00
  · show sm T_X6_of (86, _, _, M, 0, 0) = _
    rw [e_X6_of_86, if_neg (by decide), if_neg (by decide), if_neg (by decide), if_neg (by decide)]
    obtain ⟨t1, f1, W⟩ := Wb
    simp only [ob, bS, h2, vF, W.1, isOne_s W, vI]
    by_cases hs : q.2.2 = 1
    · rw [if_pos hs, if_neg i10, c00]
    · rw [if_neg hs, if_pos rfl, c00]
theorem ofV_s {M : me_M} {A : Nat} {s : Sx} {x y : Int32} (h : PF M A s) : Ac M A (f_X6_of [.ref A, .int x, .int y] M) (tOf s x y) := by
  have hP := h
  obtain ⟨vs, vf, rf, ff, lf, df, h⟩ := h
  have b := h.n
  rw [e_X6_of]
  simp only [h.o, bS, isValue_s h.o h.n, vI, h.rv, pf0, pf2, vF]
  by_cases hx : isV (sN s) x
  · rw [if_pos hx, if_neg i10, if_neg (hx.no b (by omega))]
    obtain ⟨p, e1, F1⟩ := h.val hx
    simp only [e1, rfS, vF, bS]
    by_cases hy : isV 5 y
    · rw [of_c F1 y.toInt rfl hy.1 hy.2, show tOf s x y = _ from if_pos ⟨hx, hy⟩]
      exact ⟨M, rfl, hP, GF.refl _ _⟩
    · rw [e_X6_of_19, if_pos (by rcases Int.lt_or_le y.toInt 0 with k | k; exact Or.inl k; exact Or.inr (by apply Int.lt_of_not_ge; intro k2; exact hy ⟨k, by omega⟩)), e_X6_of_102, show tOf s x y = (-2, s) from if_neg (fun k => hy k.2)]
      exact ⟨M, c00, hP, GF.refl _ _⟩
  · rw [if_neg hx, if_pos rfl, show tOf s x y = (-2, s) from if_neg (fun k => hx k.1)]
    exact ⟨M, if_pos (by decide), hP, GF.refl _ _⟩
