/-! a new ROW -/
def rwQ (N : me_M) (w n z i : Nat) : me_M := me_set (me_set (me_new N (.inl (3, n, .inr (.inr (.inr (.inr (fun _ => none))))))) w (.inr (4, [.ref N.1]))) N.1 (.inl (3, n, .inr (.inr (.inr (.inr (fun j => if j < i then some z else none))))))
theorem rwQ_l {N : me_M} {w z n : Nat} {fs : List Value} (hw : w < N.1) (hz : me_obj N 2 z = some fs) (hz1 : z < N.1) (hzw : z ≠ w) (hn : n ≤ 10) : ∀ (d i : Nat), d + i = n → sm T_X4_init (18, [(0, .ref w), (2, .ref z), (3, .int (iZ i))], [], rwQ N w n z i, 1, n) = some (none, rwQ N w n z n) := by
  have ho : ∀ i, me_obj (rwQ N w n z i) 4 w = some [.ref N.1] := fun i => (mo_ne _ _ _ _ _ (by omega)).trans (mo_set _ _ _ _)
  have hr : ∀ i, me_ref (rwQ N w n z i) 3 N.1 = some (n, fun j => if j < i then some z else none) := fun i => rr_set _ _ _ _ _
  have h2 : ∀ i, me_obj (rwQ N w n z i) 2 z = some fs := fun i => ((mo_ne _ _ _ _ _ (by omega)).trans (mo_ne _ _ _ _ _ hzw)).trans ((mo_of (new_ne hz1)).trans hz)
  intro d
  induction d with
  | zero =>
    intro i hd
    have e : i = n := by omega
    subst e
    rw [e_X4_init_18]
    simp only [ho, bS, g0, vF, len_r (hr i) (by omega : 3 < 5), iZ_nat]
    rw [if_pos (by rw [iZ_le (by omega) (by omega)]; omega), if_pos (by omega)]
  | succ d ih =>
    intro i hd
    rw [e_X4_init_18]
    simp only [ho, bS, g0, vF, len_r (hr i) (by omega : 3 < 5), iZ_nat, hr]
    rw [if_neg (by rw [iZ_le (by omega) (by omega)]; omega), iZ_clampN (by omega), if_neg (nob (iZ_n0 (by omega)) (by omega)), okx (h2 i), cond_true, z_p1]
    have e : me_set (rwQ N w n z i) N.1 (.inl (3, n, .inr (.inr (.inr (.inr (va_up (fun j => if j < i then some z else none) i (some z))))))) = rwQ N w n z (i + 1) := by
      have e2 := up_lt (fun _ => some z) (fun _ => none) i
      unfold rwQ
      rw [set_set]
      exact congrArg (fun f => me_set (me_set (me_new N (.inl (3, n, .inr (.inr (.inr (.inr (fun _ => none))))))) w (.inr (4, [.ref N.1]))) N.1 (.inl (3, n, .inr (.inr (.inr (.inr f)))))) e2
    rw [e]
    exact ih (i + 1) (by omega)
theorem rowInit_s {N : me_M} {w z n : Nat} {fs : List Value} (ho : me_obj N 4 w = some [.null]) (hw : w < N.1) (hz : me_obj N 2 z = some fs) (hz1 : z < N.1) (hzw : z ≠ w) (hn : n ≤ 10) : f_X4_init [.ref w, .int (iZ n), .ref z] N = some (none, rwQ N w n z n) := by
  have e0 : (if iZ (n : Int) < (0 : Int32) then (0 : Int32) else iZ (n : Int)) = iZ (n : Int) := if_neg (iZ_n0 (by omega))
  rw [e_X4_init, e0, if_neg (iZ_n0 (by omega)), iZ_clampN (by omega), ble2 (by omega) (by omega), cond_true, mo_of (new_ne hw), ho]
  have e1 := rwQ_l (n := n) hw hz hz1 hzw hn n 0 (by omega)
  rw [← e1]
  have e2 : rwQ N w n z 0 = me_set (me_new N (.inl (3, n, .inr (.inr (.inr (.inr (fun _ => none))))))) w (.inr (4, [.ref N.1])) := by
    unfold rwQ
    refine set_self ?_
    rw [set_ne (by omega), new_eq]
    congr 8
    all_goals first | rfl | (funext j; rw [if_neg (by omega)])
  rw [e2, bS, Nat.zero_add]
  exact if_pos (show 0 < 1 by omega)
def nR (s : Sx) (n : Nat) : Sx := (s.1, (sR s + 1, fun i => if i = sR s then n else sL s i, fun i => if i = sR s then (fun _ => (0, 0, 1)) else sP s i), s.2.2)
theorem row_pg {M : me_M} {A : Nat} {s : Sx} {vs : Nat → Nat} {vf rf ff : Nat → Option Nat} {lf df : Nat → Int32} {n : Nat} (h : PG M A s vs vf rf ff lf df) (hr : sR s < 20) (h1 : 1 ≤ n) (hn : n ≤ 10) :
    PG (me_set (me_set (rwQ (me_new M (.inr (4, [.null]))) M.1 n (A + 1 + 28) n) (A + 36) (.inl (4, 20, .inr (.inr (.inr (.inr (va_up rf (sR s) (some M.1)))))))) A (.inr (6, pfo A (nR s n)))) A (nR s n) vs vf (va_up rf (sR s) (some M.1)) ff lf df ∧
    GF M (me_set (me_set (rwQ (me_new M (.inr (4, [.null]))) M.1 n (A + 1 + 28) n) (A + 36) (.inl (4, 20, .inr (.inr (.inr (.inr (va_up rf (sR s) (some M.1)))))))) A (.inr (6, pfo A (nR s n)))) A := by
  have hD := h.rk.dm
  have hA : A + 37 < M.1 := rr_lt hD h.rf
  obtain ⟨z, hz⟩ : ∃ z, z = A + 1 + 28 := ⟨_, rfl⟩
  rw [← hz]
  -- the memory, step by step
  obtain ⟨N0, e0⟩ : ∃ N0, N0 = me_new M (.inr (4, [.null])) := ⟨_, rfl⟩
  obtain ⟨N1, e1⟩ : ∃ N1, N1 = me_new N0 (.inl (3, n, .inr (.inr (.inr (.inr (fun _ => none)))))) := ⟨_, rfl⟩
  obtain ⟨N2, e2⟩ : ∃ N2, N2 = me_set N1 M.1 (.inr (4, [.ref N0.1])) := ⟨_, rfl⟩
  obtain ⟨N3, e3⟩ : ∃ N3, N3 = me_set N2 N0.1 (.inl (3, n, .inr (.inr (.inr (.inr (fun j => if j < n then some z else none)))))) := ⟨_, rfl⟩
  obtain ⟨N4, e4⟩ : ∃ N4, N4 = me_set N3 (A + 36) (.inl (4, 20, .inr (.inr (.inr (.inr (va_up rf (sR s) (some M.1))))))) := ⟨_, rfl⟩
  obtain ⟨N5, e5⟩ : ∃ N5, N5 = me_set N4 A (.inr (6, pfo A (nR s n))) := ⟨_, rfl⟩
  have e6 : rwQ (me_new M (.inr (4, [.null]))) M.1 n z n = N3 := by rw [e3, e2, e1, e0]; rfl
  rw [e6, ← e4, ← e5]
  have s0 : N0.1 = M.1 + 1 := by rw [e0]; rfl
  have s1 : N1.1 = M.1 + 2 := by rw [e1]; show N0.1 + 1 = _; omega
  have s5 : N5.1 = M.1 + 2 := by rw [e5, e4, e3, e2]; exact s1
  have hx : ∀ x, x < M.1 → x ≠ A → x ≠ A + 36 → N5.2 x = M.2 x := by
    intro x a b c
    rw [e5, set_ne b, e4, set_ne c, e3, set_ne (by omega), e2, set_ne (by omega), e1, new_ne (by omega), e0, new_ne a]
  have d0 : Dm N0 := by rw [e0]; exact hD.new
  have d1 : Dm N1 := by rw [e1]; exact d0.new
  have d2 : Dm N2 := by rw [e2]; exact d1.set (by omega)
  have d3 : Dm N3 := by rw [e3]; exact d2.set (by rw [e2]; show N0.1 < N1.1; omega)
  have d4 : Dm N4 := by rw [e4]; exact d3.set (by rw [e3, e2]; show A + 36 < N1.1; omega)
  have d5 : Dm N5 := by rw [e5]; exact d4.set (by rw [e4, e3, e2]; show A < N1.1; omega)
  have k : Sf M N5 := by
    intro x hx'
    have hlt : x < M.1 := by
      rcases hx' with ⟨ci, fs, a, _⟩ | ⟨g, a⟩
      · exact mo_lt hD a
      · exact mi_lt hD a
    refine hx x hlt ?_ ?_
    · intro e
      subst e
      rcases hx' with ⟨ci, fs, a, b⟩ | ⟨g, a⟩
      · have a1 := me_obj_eq a
        have a2 := me_obj_eq h.o
        rw [a1] at a2
        injection a2 with a2
        injection a2 with a2
        injection a2 with a2 _
        omega
      · exact oi_ne h.o a rfl
    · intro e
      subst e
      have a2 := me_ref_eq h.rr
      rcases hx' with ⟨ci, fs, a, b⟩ | ⟨⟨g1, g2⟩, a⟩
      · have a1 := me_obj_eq a
        rw [a1] at a2
        simp at a2
      · have a1 := me_int_eq a
        rw [a1] at a2
        simp at a2
  have oo : ∀ {ci x : Nat} {fs : List Value}, me_obj M ci x = some fs → x ≠ A → x ≠ A + 36 → me_obj N5 ci x = some fs := fun a b c => (mo_of (hx _ (mo_lt hD a) b c)).trans a
  have ii : ∀ {ci x : Nat} {g : Nat × (Nat → Int32)}, me_int M ci x = some g → x ≠ A → x ≠ A + 36 → me_int N5 ci x = some g := fun a b c => (mi_of (hx _ (mi_lt hD a) b c)).trans a
  have rr : ∀ {ci x : Nat} {g : Nat × (Nat → Option Nat)}, me_ref M ci x = some g → x ≠ A → x ≠ A + 36 → me_ref N5 ci x = some g := fun a b c => (mr_of (hx _ (rr_lt hD a) b c)).trans a
  have hRow : RF N5 A (va_up rf (sR s) (some M.1)) (sR s + 1) (fun i => if i = sR s then n else sL s i) (fun i => if i = sR s then (fun _ => (0, 0, 1)) else sP s i) := by
    obtain ⟨rp, ra, r1, r2⟩ := h.R
    have lt : ∀ i, i < sR s → ra i < M.1 := fun i hi => by
      obtain ⟨_, _, _, _, _, _, pf, l7, _⟩ := r1 i hi
      exact rr_lt hD l7
    refine ⟨fun i => if i = sR s then M.1 else rp i, fun i => if i = sR s then M.1 + 1 else ra i, ?_, ?_⟩
    · intro i hi
      by_cases e : i = sR s
      · unfold RW
        simp only [if_pos e]
        refine ⟨by rw [e]; exact va_up_self _ _ _, by omega, by omega, ?_, h1, hn, fun j => if j < n then some z else none, ?_, ?_⟩
        · rw [e5, mo_ne _ _ _ _ _ (by omega), e4, mo_ne _ _ _ _ _ (by omega), e3, mo_ne _ _ _ _ _ (by omega), e2, ← s0]
          exact mo_set _ _ _ _
        · rw [e5, rr_ne _ _ _ _ _ (by omega), e4, rr_ne _ _ _ _ _ (by omega), e3, ← s0]
          exact rr_set _ _ _ _ _
        · intro j hj
          exact ⟨z, if_pos hj, by rw [hz]; exact h.rk.zf.sf k⟩
      · have w := r1 i (by omega)
        obtain ⟨l1, l2, l3, l4, l5, l6, pl, l7, l8⟩ := w
        unfold RW
        simp only [if_neg e]
        exact ⟨by rw [va_up_ne _ _ e]; exact l1, l2, l3, oo l4 (by omega) (by omega), l5, l6, pl, rr l7 (by omega) (by omega), l8.sf k⟩
    · intro i j hi hj
      by_cases ei : i = sR s
      · by_cases ej : j = sR s
        · intro _; omega
        · simp only [if_pos ei, if_neg ej]
          intro q
          have := lt j (by omega)
          omega
      · by_cases ej : j = sR s
        · simp only [if_neg ei, if_pos ej]
          intro q
          have := lt i (by omega)
          omega
        · simp only [if_neg ei, if_neg ej]
          exact r2 i j (by omega) (by omega)
  refine ⟨⟨h.rk.sf k d5, by rw [e5]; exact mo_set _ _ _ _, oo h.od (by omega) (by omega), ii h.il (by omega) (by omega), ii h.ig (by omega) (by omega), rr h.rv (by omega) (by omega), ?_, rr h.rf (by omega) (by omega), h.n, by show sR s + 1 ≤ 20; omega, h.V.sf k, hRow, h.T, h.C⟩, ?_⟩
  · rw [e5, rr_ne _ _ _ _ _ (by omega), e4]
    exact rr_set _ _ _ _ _
  · refine ⟨by omega, fun p a b _ => hx p a (by omega) (by omega)⟩
def tRo (s : Sx) (x : Int32) : Int32 × Sx := if 1 ≤ x.toInt ∧ x.toInt ≤ 10 then (if sR s = 20 then (-3, s) else (iZ (sR s), nR s x.toNatClampNeg)) else (-2, s)
theorem rowV_s {M : me_M} {A : Nat} {s : Sx} {x : Int32} (h : PF M A s) : Ac M A (f_X6_row [.ref A, .int x] M) (tRo s x) := by
  have hP := h
  obtain ⟨vs, vf, rf, ff, lf, df, h⟩ := h
  have hD := h.rk.dm
  have hm := h.m
  have hA : A + 37 < M.1 := rr_lt hD h.rf
  obtain ⟨X, e, b1, b2, t⟩ := i_rep x
  rw [e_X6_row]
  by_cases h1 : X < 1
  · rw [if_pos (by rw [e, z_1, iZ_lt (by omega) (by omega)]; exact h1), show tRo s x = (-2, s) from if_neg (by omega)]
    exact ⟨M, if_pos (by decide), hP, GF.refl _ _⟩
  · rw [if_neg (by rw [e, z_1, iZ_lt (by omega) (by omega)]; exact h1)]
    by_cases h2 : X ≤ 10
    · rw [if_pos (by rw [e, show (10 : Int32) = iZ 10 from rfl, iZ_le (by omega) (by omega)]; exact h2), show tRo s x = if sR s = 20 then (-3, s) else (iZ (sR s), nR s x.toNatClampNeg) from if_pos (by omega)]
      simp only [h.o, bS, pf6, vI]
      by_cases hr : sR s = 20
      · rw [if_neg (by rw [show (20 : Int32) = iZ 20 from rfl, iZ_lt (by omega) (by omega)]; omega), if_pos hr]
        exact ⟨M, if_pos (by decide), hP, GF.refl _ _⟩
      · rw [if_pos (by rw [show (20 : Int32) = iZ 20 from rfl, iZ_lt (by omega) (by omega)]; omega), if_neg hr]
        obtain ⟨n, n1, n2, n3⟩ := isV.ix (n := 11) (x := x) (by constructor <;> omega) (by omega)
        have n4 : 1 ≤ n := by
          have e9 : iZ (n : Int) = iZ X := n2.symm.trans e
          rw [iZ_eq (by omega) (by omega)] at e9
          omega
        rw [n3]
        obtain ⟨P, G⟩ := row_pg (n := n) h (by omega) n4 (by omega)
        have oN : me_obj (me_new M (.inr (4, [.null]))) 6 A = some (pfo A s) := (mo_of (new_ne (by omega))).trans h.o
        have oK : me_obj (me_new M (.inr (4, [.null]))) 3 (A + 1) = some (rkF (A + 1)) := (mo_of (new_ne (mo_lt hD h.rk.o))).trans h.rk.o
        have oZ : me_obj (me_new M (.inr (4, [.null]))) 2 (A + 1 + 28) = some [.int 0, .ref (A + 1 + 29), .ref (A + 1 + 26)] := (mo_of (new_ne (mo_lt hD h.rk.zo))).trans h.rk.zo
        have oW : me_obj (me_new M (.inr (4, [.null]))) 4 M.1 = some [.null] := mo_at (new_eq _ _)
        have f := rowInit_s oW (Nat.lt_succ_self _) oZ (Nat.lt_succ_of_lt (mo_lt hD h.rk.zo)) (Nat.ne_of_lt (mo_lt hD h.rk.zo)) (show n ≤ 10 by omega)
        have oW3 : me_obj (rwQ (me_new M (.inr (4, [.null]))) M.1 n (A + 1 + 28) n) 4 M.1 = some [.ref (M.1 + 1)] := (mo_ne _ _ _ _ _ (by show M.1 ≠ M.1 + 1; omega)).trans (mo_set _ _ _ _)
        have oA3 : me_obj (rwQ (me_new M (.inr (4, [.null]))) M.1 n (A + 1 + 28) n) 6 A = some (pfo A s) := ((mo_ne _ _ _ _ _ (by show A ≠ M.1 + 1; omega)).trans (mo_ne _ _ _ _ _ (by omega))).trans ((mo_of (new_ne (by show A < M.1 + 1; omega))).trans oN)
        have oR3 : me_ref (rwQ (me_new M (.inr (4, [.null]))) M.1 n (A + 1 + 28) n) 4 (A + 36) = some (20, rf) := ((rr_ne _ _ _ _ _ (by show A + 36 ≠ M.1 + 1; omega)).trans (rr_ne _ _ _ _ _ (by omega))).trans ((mr_of (new_ne (by show A + 36 < M.1 + 1; omega))).trans ((mr_of (new_ne (by omega))).trans h.rr))
        have okW := okx oW3
        obtain ⟨R, hR⟩ : ∃ R, R = rwQ (me_new M (.inr (4, [.null]))) M.1 n (A + 1 + 28) n := ⟨_, rfl⟩
        rw [← hR] at f oA3 oR3 okW P G
        have oA4 : me_obj (me_set R (A + 36) (.inl (4, 20, .inr (.inr (.inr (.inr (va_up rf (sR s) (some M.1)))))))) 6 A = some (pfo A s) := (mo_ne _ _ _ _ _ (by omega)).trans oA3
        simp only [oN, pfo, bS, pf0, pf3, pf6, vF, oK, rkF, rk0, oW, n2, f, cNn, vI, oR3]
        rw [if_neg (nob (iZ_n0 (by omega)) (by rw [iZ_clampN (by omega)]; omega)), iZ_clampN (by omega), okW, cond_true]
        simp only [oA4, pfo, bS, pf6, vI, pl6, ps6, z_p1]
        rw [e_X6_row_60]
        simp only [mo_set, bS, pf6, vI]
        refine ⟨_, (if_pos (by decide)).trans ?_, ⟨vs, vf, _, ff, lf, df, P⟩, G⟩
        rw [z_1, iZ_sub, show ((sR s + 1 : Nat) : Int) - 1 = (sR s : Int) by omega]
        rfl
    · rw [if_neg (by rw [e, show (10 : Int32) = iZ 10 from rfl, iZ_le (by omega) (by omega)]; exact h2), show tRo s x = (-2, s) from if_neg (by omega)]
      exact ⟨M, if_pos (by decide), hP, GF.refl _ _⟩
