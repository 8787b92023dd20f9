/-- the memory in which the Whole w has the limbs g, s of them in use -/
def mW (M : me_M) (w a cap : Nat) (g : Nat → Int32) (s : Nat) : me_M := me_set (me_set M a (.inl (0, cap, .inl g))) w (.inr (5, [.ref a, .int (iZ s)]))
theorem mW_o (M : me_M) (w a cap : Nat) (g : Nat → Int32) (s : Nat) : me_obj (mW M w a cap g s) 5 w = some [.ref a, .int (iZ s)] := mo_set _ _ _ _
theorem mW_i (M : me_M) {w a : Nat} (cap : Nat) (g : Nat → Int32) (s : Nat) (h : a ≠ w) : me_int (mW M w a cap g s) 0 a = some (cap, g) := by
  unfold mW
  rw [mi_ne _ _ _ _ _ h, mi_set]
theorem mW_ne (M : me_M) {w a q : Nat} (cap : Nat) (g : Nat → Int32) (s : Nat) (h1 : q ≠ w) (h2 : q ≠ a) : (mW M w a cap g s).2 q = M.2 q := by
  unfold mW me_set
  simp [h1, h2]
theorem mW_1 (M : me_M) (w a cap : Nat) (g : Nat → Int32) (s : Nat) : (mW M w a cap g s).1 = M.1 := rfl
theorem mo_of {M M' : me_M} {ci q : Nat} (h : M'.2 q = M.2 q) : me_obj M' ci q = me_obj M ci q := by unfold me_obj; rw [h]
theorem mi_of {M M' : me_M} {kd q : Nat} (h : M'.2 q = M.2 q) : me_int M' kd q = me_int M kd q := by unfold me_int; rw [h]
theorem mr_of {M M' : me_M} {kd q : Nat} (h : M'.2 q = M.2 q) : me_ref M' kd q = me_ref M kd q := by unfold me_ref; rw [h]
theorem ml_of {M M' : me_M} {q : Nat} (h : M'.2 q = M.2 q) : me_len M' q = me_len M q := by unfold me_len; rw [h]
theorem WS.of {M M' : me_M} {w a cap s v : Nat} {f : Nat → Int32} (h : WS M w a cap s v f) (h1 : M'.2 w = M.2 w) (h2 : M'.2 a = M.2 a) : WS M' w a cap s v f := ⟨by rw [mo_of h1]; exact h.1, by rw [mi_of h2]; exact h.2.1, h.2.2⟩
theorem WS.ne {M : me_M} {w a cap s v : Nat} {f : Nat → Int32} (h : WS M w a cap s v f) : a ≠ w := io_ne h.1 h.2.1
theorem WS.sz {M : me_M} {w a cap s v : Nat} {f : Nat → Int32} (h : WS M w a cap s v f) : s < 1000 := by have := h.2.2.1; have := h.2.2.2.1; omega
/-- trim, behind the digits of v: the whole is v -/
theorem trimW {M : me_M} {w a cap s v : Nat} {g : Nat → Int32} (hne : a ≠ w) (hc : cap < 1000) (hs : s ≤ cap) (hv : v < 2 ^ (31 * s)) (hg : ∀ j, j < s → g j = iZ (dg 31 v j)) :
    ∃ s' : Nat, f_X5_trim [.ref w] (mW M w a cap g s) = some (none, mW M w a cap g s') ∧ WS (mW M w a cap g s') w a cap s' v g := by
  obtain ⟨s', h1, h2, h3⟩ := trim_s hc (mW_o M w a cap g s) (mW_i M cap g s hne) hs hv hg
  refine ⟨s', ?_, mW_o _ _ _ _ _ _, mW_i _ _ _ _ hne, by omega, hc, h3, fun j hj => hg j (by omega)⟩
  rw [h1]
  unfold mW
  rw [set_set]
theorem isOne_s {M : me_M} {w a cap s v : Nat} {f : Nat → Int32} (h : WS M w a cap s v f) : f_X5_isOne [.ref w] M = some (some (.int (if v = 1 then 1 else 0)), M) := by
  have hsz := h.sz
  obtain ⟨ho, ha, hs, hc, ⟨hv, hv2⟩, hf⟩ := h
  have h31 := dg_31 v 0
  rw [e_X5_isOne]
  simp only [ho, ha, bS, g0, g1, vI, vR, c00, cl0, or_true, true_or, ↓reduceIte]
  by_cases h1 : s = 1
  · subst h1
    have hd : dg 31 v 0 = v := by
      unfold dg
      simp only [Nat.mul_zero, Nat.pow_zero, Nat.div_one]
      exact Nat.mod_eq_of_lt (by simpa using hv)
    have hf0 := hf 0 (by omega)
    rw [hd] at h31 hf0
    rw [if_pos (by rfl), if_neg (nob n0 (by omega))]
    by_cases hv1 : v = 1
    · rw [if_pos hv1, if_pos (by rw [hf0, hv1]; rfl)]
    · rw [if_neg hv1, if_neg (by rw [hf0, z_1, iZ_eq (by omega) (by omega)]; omega)]
  · rw [if_neg (by rw [z_1, iZ_eq (by omega) (by omega)]; omega)]
    suffices hq : ¬ v = 1 by rw [if_neg hq]
    intro hv1
    subst hv1
    rcases hv2 with hz | hz
    · subst hz
      simp at hv
    · have : 2 ^ (31 * 1) ≤ 2 ^ (31 * (s - 1)) ∨ s ≤ 1 := by
        by_cases h2 : s ≤ 1
        · exact Or.inr h2
        · exact Or.inl (pw_le 31 (by omega))
      rcases this with h3 | h3
      · have : 2 ^ (31 * 1) ≤ 1 := Nat.le_trans h3 hz
        revert this; decide
      · have : s = 0 := by omega
        subst this
        simp at hv
theorem copy_s {M : me_M} {w a cap wx ax capx s v : Nat} {f g : Nat → Int32} {sw : Value} (hx : WS M wx ax capx s v f) (ho : me_obj M 5 w = some [.ref a, sw]) (ha : me_int M 0 a = some (cap, g)) (hc : cap < 1000) (hs : s ≤ cap) :
    f_X5_copy [.ref w, .ref wx] M = some (none, mW M w a cap (va_cpy f g 0 0 s) s) ∧ WS (mW M w a cap (va_cpy f g 0 0 s) s) w a cap s v (va_cpy f g 0 0 s) := by
  have hsz := hx.sz
  obtain ⟨hox, hax, hsx, hcx, hv, hf⟩ := hx
  have hne : a ≠ w := io_ne ho ha
  have hne2 : wx ≠ a := oi_ne hox ha
  have hcl := iZ_clampN (n := s) (by omega)
  have hn := iZ_n0 (n := s) (by omega)
  constructor
  · rw [e_X5_copy]
    simp only [hox, hax, ho, ha, bS, g0, g1, vI, vR, c00, cl0, hcl, Nat.zero_add]
    rw [if_neg (nob n0 (nob n0 (nob hn (nob (by omega) (by omega))))), mo_ne _ _ _ _ _ hne2, mo_ne _ _ _ _ _ hne.symm, hox, ho]
    simp only [bS, g1, vI, l2, s21]
    rfl
  · refine ⟨mW_o _ _ _ _ _ _, mW_i _ _ _ _ hne, hs, hc, hv, fun j hj => ?_⟩
    rw [pk_cpy_in (Nat.zero_le _) (by omega)]
    simp only [Nat.sub_zero, Nat.zero_add]
    exact hf j hj
