/-- what is carried into a place of p U + V, p below the base -/
theorem ca_pq {k p U V i : Nat} : 0 ≤ ca k p 1 U V i ∧ ca k p 1 U V i ≤ p := by
  unfold ca
  have hP : (0 : Int) < ((2 ^ (k * i) : Nat) : Int) := by exact_mod_cast Nat.two_pow_pos _
  have hu : ((U % 2 ^ (k * i) : Nat) : Int) < ((2 ^ (k * i) : Nat) : Int) := by exact_mod_cast Nat.mod_lt _ (Nat.two_pow_pos _)
  have hv : ((V % 2 ^ (k * i) : Nat) : Int) < ((2 ^ (k * i) : Nat) : Int) := by exact_mod_cast Nat.mod_lt _ (Nat.two_pow_pos _)
  generalize U % 2 ^ (k * i) = u at hu ⊢
  generalize V % 2 ^ (k * i) = v at hv ⊢
  generalize ((2 ^ (k * i) : Nat) : Int) = P at hP hu hv ⊢
  have h1 : 0 ≤ (p : Int) * (u : Int) := Int.mul_nonneg (by omega) (by omega)
  have h2 : (p : Int) * (u : Int) ≤ (p : Int) * P := Int.mul_le_mul_of_nonneg_left (by omega) (by omega)
  constructor
  · exact Int.ediv_nonneg (by omega) (by omega)
  · have : ((p : Int) * (u : Int) + 1 * (v : Int)) / P < (p : Int) + 1 := (Int.ediv_lt_iff_lt_mul hP).mpr (by rw [Int.add_mul]; omega)
    omega
theorem dg_of0 (k i : Nat) : dg k 0 i = 0 := by simp [dg]
theorem grow_l {M : me_M} {w a cap s v F : Nat} {f : Nat → Int32} (hw : me_obj M 5 w = some [.ref a, .int (iZ s)]) (hl : me_int M 0 a = some (cap, f)) (hc : cap < 1000) (hs : s < cap) (hv : v < 2 ^ (31 * s)) (hf : ∀ j, j < s → f j = iZ (dg 31 v j)) (hF : F < 2147483648) :
    ∀ (n i : Nat) (g : Nat → Int32), i + n = s → (∀ j, j < i → g j = iZ (dg 31 (F * v) j)) → (∀ j, i ≤ j → g j = f j) →
      ∃ (s' : Nat) (g' : Nat → Int32), sm T_X5_grow (5, [(0, .ref w), (1, .int (iZ F)), (2, .long (lZ (ca 31 F 1 v 0 i))), (4, .int (iZ i))], [], mA M a cap g, 0, 0) = some (none, mW M w a cap g' s') ∧ WS (mW M w a cap g' s') w a cap s' (F * v) g' := by
  have hwl := oi_ne hw hl
  have hZ : (F : Int) * (v : Int) + 1 * ((0 : Nat) : Int) = ((F * v : Nat) : Int) := by simp
  intro n
  induction n with
  | zero =>
    intro i g hi hg1 hg2
    have hi : i = s := by omega
    subst hi
    have hcl := iZ_clampN (n := i) (by omega)
    have hn := iZ_n0 (n := i) (by omega)
    have htop := ca_top hZ hv (Nat.two_pow_pos (31 * i))
    have hcb := ca_pq (k := 31) (p := F) (U := v) (V := 0) (i := i)
    have hd : dg 31 (F * v) i = F * v / 2 ^ (31 * i) := by
      unfold dg
      refine Nat.mod_eq_of_lt ?_
      omega
    have hlt : F * v < 2 ^ (31 * (i + 1)) := by
      have e : 2 ^ (31 * (i + 1)) = 2 ^ 31 * 2 ^ (31 * i) := by rw [Nat.mul_add, Nat.pow_add, Nat.mul_comm]
      rw [e]
      exact Nat.lt_of_le_of_lt (Nat.mul_le_mul_right v (Nat.le_of_lt hF)) ((Nat.mul_lt_mul_left (by decide)).mpr hv)
    rw [e_X5_grow_5]
    simp only [mA_o hwl, hw, mA_i, bS, g0, g1, vI, vR, hcl]
    rw [if_pos (Int32.le_refl _), if_neg (nob hn (by omega)), lZ_i, mA_A, htop, ← hd]
    simp only [mA_o hwl, hw, bS, g1, vI, l2, s21, z_p1, mA_W, mW_o]
    obtain ⟨s', q1, q2⟩ := trimW (M := M) (w := w) (a := a) (cap := cap) (s := i + 1) (v := F * v) (g := upd g i (iZ (dg 31 (F * v) i))) hwl.symm hc (by omega) hlt (fun j hj => by
      by_cases hji : j = i
      · rw [hji, upd_s]
      · rw [upd_n _ _ hji]; exact hg1 j (by omega))
    refine ⟨s', _, ?_, q2⟩
    rw [q1]
    simp only [bS, cNn, e_X5_grow_76, c00]
  | succ n ih =>
    intro i g hi hg1 hg2
    have hcl := iZ_clampN (n := i) (by omega)
    have hn := iZ_n0 (n := i) (by omega)
    have hcb := ca_pq (k := 31) (p := F) (U := v) (V := 0) (i := i)
    have d1 := dg_31 v i
    have hgi : g i = iZ (dg 31 v i) := by rw [hg2 i (Nat.le_refl _), hf i (by omega)]
    have hmul : F * dg 31 v i ≤ F * 2147483647 := Nat.mul_le_mul_left F (by omega)
    have hmulz : ((F * dg 31 v i : Nat) : Int) = (F : Int) * (dg 31 v i : Int) := Int.natCast_mul _ _
    rw [e_X5_grow_5]
    simp only [mA_o hwl, hw, mA_i, bS, g0, g1, vI, vR, hcl, hgi]
    rw [if_neg (by rw [iZ_le (by omega) (by omega)]; omega), if_neg (nob hn (by omega)), if_neg (nob hn (by omega)), iZ_l (by omega) (by omega), iZ_l (by omega) (by omega), lZ_mul, lZ_add, lZ_i, iZ_mask31, lZ_ushr31 (by omega) (by omega), z_p1, mA_A]
    have e1 : (ca 31 F 1 v 0 i + (F : Int) * (dg 31 v i : Int)) / 2147483648 = ca 31 F 1 v 0 (i + 1) := by
      rw [ca_s, dg_of0]
      congr 1
      omega
    have e2 : (ca 31 F 1 v 0 i + (F : Int) * (dg 31 v i : Int)) % 2147483648 = (dg 31 (F * v) i : Int) := by
      rw [← ca_dg hZ, dg_of0]
      congr 1
      omega
    rw [e1, e2]
    exact ih (i + 1) (upd g i (iZ (dg 31 (F * v) i))) (by omega) (fun j hj => by
      by_cases hji : j = i
      · rw [hji, upd_s]
      · rw [upd_n _ _ hji]; exact hg1 j (by omega)) (fun j hj => by rw [upd_n _ _ (by omega)]; exact hg2 j (by omega))
theorem grow_s {M : me_M} {w a cap s v F : Nat} {f : Nat → Int32} (h : WS M w a cap s v f) (hs : s < cap) (hF : F < 2147483648) :
    ∃ (s' : Nat) (g' : Nat → Int32), f_X5_grow [.ref w, .int (iZ F)] M = some (none, mW M w a cap g' s') ∧ WS (mW M w a cap g' s') w a cap s' (F * v) g' := by
  obtain ⟨ho, ha, hs1, hc, ⟨hv, hv2⟩, hf⟩ := h
  have key := grow_l ho ha hc hs hv hf hF s 0 f (by omega) (fun j hj => by omega) (fun j _ => rfl)
  rw [ca_0, mA_self ha] at key
  rw [e_X5_grow]
  exact key
