theorem setDiff_l {M : me_M} {w la cap x1 a1 c1 s1 U x2 a2 c2 s2 V : Nat} {sw : Value} {f f1 f2 : Nat → Int32} (hw : me_obj M 5 w = some [.ref la, sw]) (hl : me_int M 0 la = some (cap, f)) (hc : cap < 1000) (h1 : WS M x1 a1 c1 s1 U f1) (h2 : WS M x2 a2 c2 s2 V f2) (hm : s1 ≤ cap) (hUV : V ≤ U) :
    ∀ (n i : Nat) (g : Nat → Int32), i + n = s1 → (∀ j, j < i → g j = iZ (dg 31 (U - V) j)) → (∀ j, i ≤ j → g j = f j) →
      ∃ (s' : Nat) (g' : Nat → Int32), sm T_X5_setDifference (11, [(0, .ref w), (1, .ref x1), (2, .ref x2), (3, .int (iZ s1)), (4, .long (lZ (ca 31 1 (-1) U V i))), (6, .int (iZ i))], [], mA M la cap g, 0, 0) = some (none, mW M w la cap g' s') ∧ WS (mW M w la cap g' s') w la cap s' (U - V) g' := by
  have hwl := oi_ne hw hl
  have hZ : (1 : Int) * (U : Int) + (-1) * (V : Int) = ((U - V : Nat) : Int) := by omega
  intro n
  induction n with
  | zero =>
    intro i g hi hg1 hg2
    have hi : i = s1 := by omega
    subst hi
    have hU := h1.lt (Nat.le_refl _)
    rw [e_X5_setDifference_11, if_pos ((iZ_le (by omega) (by omega)).mpr (Int.le_refl _))]
    simp only [mA_o hwl, hw, bS, l2, s21, mA_W]
    obtain ⟨s', q1, q2⟩ := trimW (M := M) (w := w) (a := la) (cap := cap) (s := i) (v := U - V) (g := g) hwl.symm hc (by omega) (Nat.lt_of_le_of_lt (Nat.sub_le _ _) hU) hg1
    refine ⟨s', g, ?_, q2⟩
    rw [e_X5_setDifference_66]
    simp only [mW_o, bS, q1, cNn, c00]
  | succ n ih =>
    intro i g hi hg1 hg2
    have hcl := iZ_clampN (n := i) (by omega)
    have hn := iZ_n0 (n := i) (by omega)
    have hx1 : me_obj (mA M la cap g) 5 x1 = some [.ref a1, .int (iZ s1)] := by rw [mA_o (oi_ne h1.1 hl)]; exact h1.1
    have hx2 : me_obj (mA M la cap g) 5 x2 = some [.ref a2, .int (iZ s2)] := by rw [mA_o (oi_ne h2.1 hl)]; exact h2.1
    have hcb := ca_1m (k := 31) (U := U) (V := V) (i := i)
    have d1 := dg_31 U i
    have d2 := dg_31 V i
    rw [e_X5_setDifference_11, if_neg (by rw [iZ_le (by omega) (by omega)]; omega)]
    simp only [hx1, bS, limb_mA h1 hl hg2 (show i < 2147483648 by omega), hx2, limb_mA h2 hl hg2 (show i < 2147483648 by omega), vL, mA_o hwl, hw, g0, vR, mA_i, hcl]
    rw [if_neg (nob hn (by omega)), mA_A, lZ_sub, lZ_add, lZ_i, iZ_mask31, lZ_sshr31 (by omega) (by omega), z_p1]
    have e1 : (ca 31 1 (-1) U V i + ((dg 31 U i : Int) - (dg 31 V i : Int))) / 2147483648 = ca 31 1 (-1) U V (i + 1) := by
      rw [ca_s]
      congr 1
      omega
    have e2 : (ca 31 1 (-1) U V i + ((dg 31 U i : Int) - (dg 31 V i : Int))) % 2147483648 = (dg 31 (U - V) i : Int) := by
      rw [← ca_dg hZ]
      congr 1
      omega
    rw [e1, e2]
    exact ih (i + 1) (upd g i (iZ (dg 31 (U - V) i))) (by omega) (fun j hj => by
      by_cases hji : j = i
      · rw [hji, upd_s]
      · rw [upd_n _ _ hji]; exact hg1 j (by omega)) (fun j hj => by rw [upd_n _ _ (by omega)]; exact hg2 j (by omega))
/-- setDifference: w may be one of both -/
theorem setDiff_s {M : me_M} {w la cap x1 a1 c1 s1 U x2 a2 c2 s2 V : Nat} {sw : Value} {f f1 f2 : Nat → Int32} (hw : me_obj M 5 w = some [.ref la, sw]) (hl : me_int M 0 la = some (cap, f)) (hc : cap < 1000) (h1 : WS M x1 a1 c1 s1 U f1) (h2 : WS M x2 a2 c2 s2 V f2) (hm1 : s1 ≤ cap) (hUV : V ≤ U) :
    ∃ (s' : Nat) (g' : Nat → Int32), f_X5_setDifference [.ref w, .ref x1, .ref x2] M = some (none, mW M w la cap g' s') ∧ WS (mW M w la cap g' s') w la cap s' (U - V) g' := by
  have hs1 := h1.sz
  rw [e_X5_setDifference]
  simp only [h1.1, bS, g1, vI]
  have key := setDiff_l hw hl hc h1 h2 hm1 hUV s1 0 f (by omega) (fun j hj => by omega) (fun j _ => rfl)
  rw [ca_0, mA_self hl] at key
  exact key
/-! comparing -/
theorem dv_s (k v i : Nat) : v / 2 ^ (k * i) = 2 ^ k * (v / 2 ^ (k * (i + 1))) + dg k v i := by
  unfold dg
  rw [Nat.mul_add k i 1, Nat.mul_one, Nat.pow_add, ← Nat.div_div_eq_div_mul, Nat.div_add_mod]
theorem cmp_lt {k U V i : Nat} (h : U / 2 ^ (k * (i + 1)) = V / 2 ^ (k * (i + 1))) (hd : dg k U i < dg k V i) : U < V := by
  have h1 : U / 2 ^ (k * i) < V / 2 ^ (k * i) := by
    rw [dv_s k U i, dv_s k V i, h]
    omega
  apply Nat.lt_of_not_le
  intro h2
  have := Nat.div_le_div_right (c := 2 ^ (k * i)) h2
  omega
def cmpN (U V : Nat) : Int32 := if U < V then -1 else if U = V then 0 else 1
theorem compare_l {M : me_M} {x1 a1 c1 s U x2 a2 c2 V : Nat} {f1 f2 : Nat → Int32} (h1 : WS M x1 a1 c1 s U f1) (h2 : WS M x2 a2 c2 s V f2) :
    ∀ i : Nat, i ≤ s → U / 2 ^ (31 * i) = V / 2 ^ (31 * i) → sm T_X5_compareWith (35, [(0, .ref x1), (1, .ref x2), (2, .int (iZ ((i : Int) - 1)))], [], M, 0, 0) = some (some (.int (cmpN U V)), M) := by
  have hs := h1.sz
  obtain ⟨ho1, ha1, hs1, hc1, -, hf1⟩ := h1
  obtain ⟨ho2, ha2, hs2, hc2, -, hf2⟩ := h2
  intro i
  induction i with
  | zero =>
    intro _ h
    simp only [Nat.mul_zero, Nat.pow_zero, Nat.div_one] at h
    rw [e_X5_compareWith_35, if_pos (by decide), c00]
    unfold cmpN
    rw [h, if_neg (by omega), if_pos rfl]
  | succ i ih =>
    intro hi h
    have d1 := dg_31 U i
    have d2 := dg_31 V i
    have e0 : (((i + 1 : Nat) : Int) - 1) = (i : Int) := by omega
    have hcl := iZ_clampN (n := i) (by omega)
    have hn := iZ_n0 (n := i) (by omega)
    have q1 := hf1 i (by omega)
    have q2 := hf2 i (by omega)
    rw [e0, e_X5_compareWith_35, if_neg hn]
    simp only [ho1, ha1, ho2, ha2, bS, g0, vR, hcl]
    rw [if_neg (nob hn (by omega)), if_neg (nob hn (by omega)), if_neg (nob hn (by omega)), if_neg (nob hn (by omega)), c00, c00]
    by_cases hd : dg 31 U i = dg 31 V i
    · rw [if_pos (by rw [q1, q2, hd]), show iZ (i : Int) + -1 = iZ ((i : Int) - 1) by rw [show (-1 : Int32) = iZ (-1) from rfl, iZ_add]; rfl]
      exact ih (by omega) (by rw [dv_s 31 U i, dv_s 31 V i, h, hd])
    · rw [if_neg (by rw [q1, q2, iZ_eq (by omega) (by omega)]; omega)]
      unfold cmpN
      by_cases hlt : dg 31 U i < dg 31 V i
      · rw [if_neg (by rw [q1, q2, iZ_le (by omega) (by omega)]; omega), if_pos (cmp_lt h hlt)]
      · have hgt := cmp_lt h.symm (show dg 31 V i < dg 31 U i by omega)
        rw [if_pos (by rw [q1, q2, iZ_le (by omega) (by omega)]; omega), if_neg (by omega), if_neg (by omega)]
theorem Sz.lt {k U V s t : Nat} (hU : Sz k U s) (hV : Sz k V t) (h : s < t) : U < V := by
  rcases hV.2 with h0 | h0
  · omega
  · exact Nat.lt_of_lt_of_le hU.1 (Nat.le_trans (pw_le k (by omega)) h0)
theorem compare_s {M : me_M} {x1 a1 c1 s1 U x2 a2 c2 s2 V : Nat} {f1 f2 : Nat → Int32} (h1 : WS M x1 a1 c1 s1 U f1) (h2 : WS M x2 a2 c2 s2 V f2) : f_X5_compareWith [.ref x1, .ref x2] M = some (some (.int (cmpN U V)), M) := by
  have hs1 := h1.sz
  have hs2 := h2.sz
  rw [e_X5_compareWith]
  simp only [h1.1, h2.1, bS, g1, vI, c00]
  by_cases h : s1 = s2
  · subst h
    rw [if_pos rfl, show iZ (s1 : Int) - 1 = iZ ((s1 : Int) - 1) by rw [z_1, iZ_sub]]
    exact compare_l h1 h2 s1 (Nat.le_refl _) (by rw [Nat.div_eq_of_lt (h1.lt (Nat.le_refl _)), Nat.div_eq_of_lt (h2.lt (Nat.le_refl _))])
  · rw [if_neg (by rw [iZ_eq (by omega) (by omega)]; omega)]
    unfold cmpN
    by_cases hlt : s1 < s2
    · rw [if_neg (by rw [iZ_le (by omega) (by omega)]; omega), if_pos (h1.2.2.2.2.1.lt h2.2.2.2.2.1 hlt)]
    · have := h2.2.2.2.2.1.lt h1.2.2.2.2.1 (show s2 < s1 by omega)
      rw [if_pos (by rw [iZ_le (by omega) (by omega)]; omega), if_neg (by omega), if_neg (by omega)]
