theorem ca_11 (k U V i : Nat) : 0 ≤ ca k 1 1 U V i ∧ ca k 1 1 U V i ≤ 1 := by
  unfold ca
  have hP : (0 : Int) < ((2 ^ (k * i) : Nat) : Int) := by exact_mod_cast Nat.two_pow_pos _
  have hu : ((U % 2 ^ (k * i) : Nat) : Int) < ((2 ^ (k * i) : Nat) : Int) := by exact_mod_cast Nat.mod_lt _ (Nat.two_pow_pos _)
  have hv : ((V % 2 ^ (k * i) : Nat) : Int) < ((2 ^ (k * i) : Nat) : Int) := by exact_mod_cast Nat.mod_lt _ (Nat.two_pow_pos _)
  generalize U % 2 ^ (k * i) = u at hu ⊢
  generalize V % 2 ^ (k * i) = v at hv ⊢
  generalize ((2 ^ (k * i) : Nat) : Int) = P at hP hu hv ⊢
  constructor
  · exact Int.ediv_nonneg (by omega) (by omega)
  · have : (1 * (u : Int) + 1 * (v : Int)) / P < 2 := (Int.ediv_lt_iff_lt_mul hP).mpr (by omega)
    omega
theorem ca_1m {k U V i : Nat} : -1 ≤ ca k 1 (-1) U V i ∧ ca k 1 (-1) U V i ≤ 0 := by
  unfold ca
  have hP : (0 : Int) < ((2 ^ (k * i) : Nat) : Int) := by exact_mod_cast Nat.two_pow_pos _
  have hu : ((U % 2 ^ (k * i) : Nat) : Int) < ((2 ^ (k * i) : Nat) : Int) := by exact_mod_cast Nat.mod_lt _ (Nat.two_pow_pos _)
  have hv : ((V % 2 ^ (k * i) : Nat) : Int) < ((2 ^ (k * i) : Nat) : Int) := by exact_mod_cast Nat.mod_lt _ (Nat.two_pow_pos _)
  generalize U % 2 ^ (k * i) = u at hu ⊢
  generalize V % 2 ^ (k * i) = v at hv ⊢
  generalize ((2 ^ (k * i) : Nat) : Int) = P at hP hu hv ⊢
  constructor
  · exact (Int.le_ediv_iff_mul_le hP).mpr (by omega)
  · have : (1 * (u : Int) + (-1) * (v : Int)) / P < 1 := (Int.ediv_lt_iff_lt_mul hP).mpr (by omega)
    omega
theorem z_p1 (i : Nat) : iZ (i : Int) + 1 = iZ ((i + 1 : Nat) : Int) := by rw [z_1, iZ_add]; rfl
theorem setSum_l {M : me_M} {w la cap x1 a1 c1 s1 U x2 a2 c2 s2 V most : Nat} {sw : Value} {f f1 f2 : Nat → Int32} (hw : me_obj M 5 w = some [.ref la, sw]) (hl : me_int M 0 la = some (cap, f)) (hc : cap < 1000) (h1 : WS M x1 a1 c1 s1 U f1) (h2 : WS M x2 a2 c2 s2 V f2) (hm : most < cap) (hU : U < 2 ^ (31 * most)) (hV : V < 2 ^ (31 * most)) :
    ∀ (n i : Nat) (g : Nat → Int32), i + n = most → (∀ j, j < i → g j = iZ (dg 31 (U + V) j)) → (∀ j, i ≤ j → g j = f j) →
      ∃ (s' : Nat) (g' : Nat → Int32), sm T_X5_setSum (18, [(0, .ref w), (1, .ref x1), (2, .ref x2), (3, .int (iZ most)), (4, .long (lZ (ca 31 1 1 U V i))), (6, .int (iZ i))], [], mA M la cap g, 0, 0) = some (none, mW M w la cap g' s') ∧ WS (mW M w la cap g' s') w la cap s' (U + V) g' := by
  have hwl := oi_ne hw hl
  have hZ : (1 : Int) * (U : Int) + 1 * (V : Int) = ((U + V : Nat) : Int) := by simp
  intro n
  induction n with
  | zero =>
    intro i g hi hg1 hg2
    have hi : i = most := by omega
    subst hi
    have hcl := iZ_clampN (n := i) (by omega)
    have hn := iZ_n0 (n := i) (by omega)
    have htop := ca_top hZ hU hV
    have hlt : U + V < 2 ^ (31 * (i + 1)) := by
      have : 2 ^ (31 * (i + 1)) = 2 ^ (31 * i) * 2147483648 := by rw [Nat.mul_add, Nat.pow_add]
      omega
    have hd : dg 31 (U + V) i = (U + V) / 2 ^ (31 * i) := by
      unfold dg
      refine Nat.mod_eq_of_lt ?_
      rw [Nat.div_lt_iff_lt_mul (Nat.two_pow_pos _)]
      have : 2 ^ (31 * (i + 1)) = 2 ^ (31 * i) * 2 ^ 31 := by rw [Nat.mul_add, Nat.pow_add]
      rw [Nat.mul_comm]
      omega
    rw [e_X5_setSum_18, if_pos ((iZ_le (by omega) (by omega)).mpr (Int.le_refl _))]
    simp only [mA_o hwl, hw, mA_i, bS, g0, vR, hcl]
    rw [if_neg (nob hn (by omega)), lZ_i, mA_A, htop, ← hd, e_X5_setSum_77]
    simp only [mA_o hwl, hw, bS, l2, s21, z_p1, mA_W, mW_o]
    obtain ⟨s', q1, q2⟩ := trimW (M := M) (w := w) (a := la) (cap := cap) (s := i + 1) (v := U + V) (g := upd g i (iZ (dg 31 (U + V) i))) hwl.symm hc (by omega) hlt (fun j hj => by
      by_cases hji : j = i
      · rw [hji, upd_s]
      · rw [upd_n _ _ hji]; exact hg1 j (by omega))
    refine ⟨s', _, ?_, q2⟩
    rw [q1]
    simp only [bS, cNn, c00]
  | succ n ih =>
    intro i g hi hg1 hg2
    have hcl := iZ_clampN (n := i) (by omega)
    have hn := iZ_n0 (n := i) (by omega)
    have hx1 : me_obj (mA M la cap g) 5 x1 = some [.ref a1, .int (iZ s1)] := by rw [mA_o (oi_ne h1.1 hl)]; exact h1.1
    have hx2 : me_obj (mA M la cap g) 5 x2 = some [.ref a2, .int (iZ s2)] := by rw [mA_o (oi_ne h2.1 hl)]; exact h2.1
    have hcb := ca_11 31 U V i
    have d1 := dg_31 U i
    have d2 := dg_31 V i
    rw [e_X5_setSum_18, if_neg (by rw [iZ_le (by omega) (by omega)]; omega)]
    simp only [hx1, bS, limb_mA h1 hl hg2 (show i < 2147483648 by omega), hx2, limb_mA h2 hl hg2 (show i < 2147483648 by omega), vL, mA_o hwl, hw, g0, vR, mA_i, hcl]
    rw [if_neg (nob hn (by omega)), mA_A, lZ_add, lZ_add, lZ_i, iZ_mask31, lZ_ushr31 (by omega) (by omega), z_p1]
    have e1 : (ca 31 1 1 U V i + ((dg 31 U i : Int) + (dg 31 V i : Int))) / 2147483648 = ca 31 1 1 U V (i + 1) := by
      rw [ca_s]
      congr 1
      omega
    have e2 : (ca 31 1 1 U V i + ((dg 31 U i : Int) + (dg 31 V i : Int))) % 2147483648 = (dg 31 (U + V) i : Int) := by
      rw [← ca_dg hZ]
      congr 1
      omega
    rw [e1, e2]
    exact ih (i + 1) (upd g i (iZ (dg 31 (U + V) i))) (by omega) (fun j hj => by
      by_cases hji : j = i
      · rw [hji, upd_s]
      · rw [upd_n _ _ hji]; exact hg1 j (by omega)) (fun j hj => by rw [upd_n _ _ (by omega)]; exact hg2 j (by omega))
theorem WS.lt {M : me_M} {w a cap s v n : Nat} {f : Nat → Int32} (h : WS M w a cap s v f) (hn : s ≤ n) : v < 2 ^ (31 * n) := Nat.lt_of_lt_of_le h.2.2.2.2.1.1 (pw_le 31 hn)
/-- setSum: w may be one of both -/
theorem setSum_s {M : me_M} {w la cap x1 a1 c1 s1 U x2 a2 c2 s2 V : Nat} {sw : Value} {f f1 f2 : Nat → Int32} (hw : me_obj M 5 w = some [.ref la, sw]) (hl : me_int M 0 la = some (cap, f)) (hc : cap < 1000) (h1 : WS M x1 a1 c1 s1 U f1) (h2 : WS M x2 a2 c2 s2 V f2) (hm1 : s1 < cap) (hm2 : s2 < cap) :
    ∃ (s' : Nat) (g' : Nat → Int32), f_X5_setSum [.ref w, .ref x1, .ref x2] M = some (none, mW M w la cap g' s') ∧ WS (mW M w la cap g' s') w la cap s' (U + V) g' := by
  have hs1 := h1.sz
  have hs2 := h2.sz
  rw [e_X5_setSum]
  simp only [h1.1, h2.1, bS, g1, vI]
  have hmx : (if iZ (s1 : Int) < iZ (s2 : Int) then iZ (s2 : Int) else iZ (s1 : Int)) = iZ ((max s1 s2 : Nat) : Int) := by
    by_cases h : s1 < s2
    · rw [if_pos ((iZ_lt (by omega) (by omega)).mpr (by omega)), Nat.max_eq_right (by omega)]
    · rw [if_neg (by rw [iZ_lt (by omega) (by omega)]; omega), Nat.max_eq_left (by omega)]
  rw [hmx]
  have key := setSum_l hw hl hc h1 h2 (most := max s1 s2) (by omega) (h1.lt (by omega)) (h2.lt (by omega)) (max s1 s2) 0 f (by omega) (fun j hj => by omega) (fun j _ => rfl)
  rw [ca_0, mA_self hl] at key
  exact key
