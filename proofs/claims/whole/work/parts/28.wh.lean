/-! the product -/
theorem dg_hi {k i j q r : Nat} (hr : r < 2 ^ (k * i)) : dg k (2 ^ (k * i) * q + r) (i + j) = dg k q j := by
  unfold dg
  rw [Nat.mul_add k i j, Nat.pow_add, ← Nat.div_div_eq_div_mul, Nat.mul_add_div (Nat.two_pow_pos _), Nat.div_eq_of_lt hr, Nat.add_zero]
theorem dg_lo {k i j q r : Nat} (hj : j < i) : dg k (2 ^ (k * i) * q + r) j = dg k r j := by
  have e : 2 ^ (k * i) = 2 ^ (k * j) * (2 ^ k * 2 ^ (k * (i - j - 1))) := by
    rw [← Nat.pow_add, ← Nat.pow_add]
    congr 1
    have : i = j + 1 + (i - j - 1) := by omega
    conv => lhs; rw [this]
    rw [Nat.mul_add, Nat.mul_add, Nat.mul_one, Nat.add_assoc]
  unfold dg
  rw [e, Nat.mul_assoc, Nat.mul_add_div (Nat.two_pow_pos _), Nat.mul_assoc, Nat.mul_add_mod]
theorem dg_dv (k v i j : Nat) : dg k (v / 2 ^ (k * i)) j = dg k v (i + j) := by
  unfold dg
  rw [Nat.div_div_eq_div_mul, ← Nat.pow_add, ← Nat.mul_add]
theorem prod_R (U V i : Nat) : U % 2 ^ (31 * (i + 1)) * V = 2 ^ (31 * i) * (dg 31 U i * V + U % 2 ^ (31 * i) * V / 2 ^ (31 * i)) + U % 2 ^ (31 * i) * V % 2 ^ (31 * i) := by
  have h := dg_mod 31 U i
  rw [h]
  have h2 := Nat.div_add_mod (U % 2 ^ (31 * i) * V) (2 ^ (31 * i))
  rw [Nat.add_mul]
  generalize U % 2 ^ (31 * i) * V = X at h2 ⊢
  rw [Nat.mul_add, Nat.add_assoc, h2, ← Nat.mul_assoc, Nat.add_comm]
theorem prod_in {M : me_M} {w la cap x1 x2 a2 c2 s2 V n i d T : Nat} {f2 : Nat → Int32} {a1 : Nat} {s1v : Value} (hw : me_obj M 5 w = some [.ref la, .int (iZ n)]) (hla : ∃ f, me_int M 0 la = some (cap, f)) (hc : cap < 1000) (h2 : WS M x2 a2 c2 s2 V f2) (hx1 : me_obj M 5 x1 = some [.ref a1, s1v]) (ha2 : a2 ≠ la) (hi : i + s2 < cap) (hd : d < 2147483648) (hT : T < 2 ^ (31 * s2)) :
    ∀ (m j : Nat) (g : Nat → Int32), j + m = s2 → (∀ q, j ≤ q → q < s2 → g (i + q) = iZ (dg 31 T q)) →
      ∃ g' : Nat → Int32, sm T_X5_setProduct (61, [(0, .ref w), (1, .ref x1), (2, .ref x2), (3, .int (iZ i)), (4, .long (lZ d)), (6, .long (lZ (ca 31 d 1 V T j))), (8, .int (iZ j))], [], mA M la cap g, 0, 0) = sm T_X5_setProduct (38, [(0, .ref w), (1, .ref x1), (2, .ref x2), (3, .int (iZ ((i + 1 : Nat) : Int)))], [], mA M la cap g', 0, 0) ∧ (∀ q, q < i + j → g' q = g q) ∧ (∀ q, j ≤ q → q ≤ s2 → g' (i + q) = iZ (dg 31 (d * V + T) q)) ∧ (∀ q, i + s2 < q → g' q = g q) := by
  obtain ⟨f, hl⟩ := hla
  have hwl := oi_ne hw hl
  have hZ : (d : Int) * (V : Int) + 1 * (T : Int) = ((d * V + T : Nat) : Int) := by rw [Int.natCast_add, Int.natCast_mul, Int.one_mul]
  have hV := h2.lt (Nat.le_refl _)
  have hs2 := h2.sz
  have hx2l := oi_ne h2.1 hl
  intro m
  induction m with
  | zero =>
    intro j g hj hg
    have hj : j = s2 := by omega
    subst hj
    have hcl := iZ_clampN (n := i + j) (by omega)
    have hn := iZ_n0 (n := i + j) (by omega)
    have htop := ca_top hZ hV hT
    have hcb := ca_pq (k := 31) (p := d) (U := V) (V := T) (i := j)
    have hdd : dg 31 (d * V + T) j = (d * V + T) / 2 ^ (31 * j) := by
      unfold dg
      refine Nat.mod_eq_of_lt ?_
      omega
    have hadd : iZ (i : Int) + iZ (j : Int) = iZ ((i + j : Nat) : Int) := by rw [iZ_add]; rfl
    rw [e_X5_setProduct_61]
    simp only [mA_o hx2l, h2.1, mA_o hwl, hw, mA_i, bS, g0, g1, vI, vR, hadd, hcl]
    rw [if_pos (Int32.le_refl _), if_neg (nob hn (by omega)), lZ_i, mA_A, htop, ← hdd, z_p1]
    refine ⟨upd g (i + j) (iZ (dg 31 (d * V + T) j)), rfl, fun q hq => upd_n _ _ (by omega), fun q h1 h2 => ?_, fun q hq => upd_n _ _ (by omega)⟩
    rw [show q = j by omega, upd_s]
  | succ m ih =>
    intro j g hj hg
    have hcl := iZ_clampN (n := j) (by omega)
    have hn := iZ_n0 (n := j) (by omega)
    have hcl2 := iZ_clampN (n := i + j) (by omega)
    have hn2 := iZ_n0 (n := i + j) (by omega)
    have hcb := ca_pq (k := 31) (p := d) (U := V) (V := T) (i := j)
    have d1 := dg_31 V j
    have d2 := dg_31 T j
    have hgi := hg j (Nat.le_refl _) (by omega)
    have hvj := h2.2.2.2.2.2 j (by omega)
    have hc2 : s2 ≤ c2 := h2.2.2.1
    have hadd : iZ (i : Int) + iZ (j : Int) = iZ ((i + j : Nat) : Int) := by rw [iZ_add]; rfl
    have hmul : d * dg 31 V j ≤ 2147483647 * 2147483647 := Nat.mul_le_mul (by omega) (by omega)
    have hmulz : ((d * dg 31 V j : Nat) : Int) = (d : Int) * (dg 31 V j : Int) := Int.natCast_mul _ _
    rw [e_X5_setProduct_61]
    simp only [mA_o hx2l, h2.1, mA_ne ha2, h2.2.1, mA_o hwl, hw, mA_i, bS, g0, g1, vI, vR, hadd, hcl, hcl2, hgi, hvj]
    rw [if_neg (by rw [iZ_le (by omega) (by omega)]; omega), if_neg (nob hn (by omega)), if_neg (nob hn2 (by omega)), if_neg (nob hn2 (by omega)), iZ_l (by omega) (by omega), iZ_l (by omega) (by omega), lZ_mul, lZ_add, lZ_add, lZ_i, iZ_mask31, lZ_ushr31 (by omega) (by omega), z_p1, mA_A]
    have e1 : (ca 31 d 1 V T j + ((d : Int) * (dg 31 V j : Int) + (dg 31 T j : Int))) / 2147483648 = ca 31 d 1 V T (j + 1) := by
      rw [ca_s]
      congr 1
      omega
    have e2 : (ca 31 d 1 V T j + ((d : Int) * (dg 31 V j : Int) + (dg 31 T j : Int))) % 2147483648 = (dg 31 (d * V + T) j : Int) := by
      rw [← ca_dg hZ]
      congr 1
      omega
    rw [e1, e2]
    obtain ⟨g', q1, q2, q3, q4⟩ := ih (j + 1) (upd g (i + j) (iZ (dg 31 (d * V + T) j))) (by omega) (fun q h1 h2 => by rw [upd_n _ _ (by omega)]; exact hg q (by omega) h2)
    refine ⟨g', q1, fun q hq => ?_, fun q h1 h2 => ?_, fun q hq => ?_⟩
    · rw [q2 q (by omega), upd_n _ _ (by omega)]
    · by_cases hqj : q = j
      · rw [hqj, q2 (i + j) (by omega), upd_s]
      · exact q3 q (by omega) h2
    · rw [q4 q hq, upd_n _ _ (by omega)]
theorem prod_out {M : me_M} {w la cap x1 a1 c1 s1 U x2 a2 c2 s2 V : Nat} {f1 f2 : Nat → Int32} (hw : me_obj M 5 w = some [.ref la, .int (iZ ((s1 + s2 : Nat) : Int))]) (hla : ∃ f, me_int M 0 la = some (cap, f)) (hc : cap < 1000) (h1 : WS M x1 a1 c1 s1 U f1) (h2 : WS M x2 a2 c2 s2 V f2) (ha1 : a1 ≠ la) (ha2 : a2 ≠ la) (hcap : s1 + s2 ≤ cap) :
    ∀ (m i : Nat) (g : Nat → Int32), i + m = s1 → (∀ q, q < s1 + s2 → g q = iZ (dg 31 (U % 2 ^ (31 * i) * V) q)) →
      ∃ (s' : Nat) (g' : Nat → Int32), sm T_X5_setProduct (38, [(0, .ref w), (1, .ref x1), (2, .ref x2), (3, .int (iZ i))], [], mA M la cap g, 0, 0) = some (none, me_set (mA M la cap g') w (.inr (5, [.ref la, .int (iZ s')]))) ∧ s' ≤ s1 + s2 ∧ Sz 31 (U * V) s' ∧ (∀ j, j < s' → g' j = iZ (dg 31 (U * V) j)) := by
  obtain ⟨f, hl⟩ := hla
  have hwl := oi_ne hw hl
  have hU := h1.lt (Nat.le_refl _)
  have hV := h2.lt (Nat.le_refl _)
  have hs1 := h1.sz
  have hs2 := h2.sz
  have hx1l := oi_ne h1.1 hl
  intro m
  induction m with
  | zero =>
    intro i g hi hg
    have hi : i = s1 := by omega
    subst hi
    rw [Nat.mod_eq_of_lt hU] at hg
    have hlt : U * V < 2 ^ (31 * (i + s2)) := by
      rw [Nat.mul_add, Nat.pow_add]
      exact Nat.mul_lt_mul'' hU hV
    have hwo : me_obj (mA M la cap g) 5 w = some [.ref la, .int (iZ ((i + s2 : Nat) : Int))] := by rw [mA_o hwl]; exact hw
    obtain ⟨s', q1, q2, q3⟩ := trim_s (v := U * V) hc hwo (mA_i _ _ _ _) hcap hlt hg
    refine ⟨s', g, ?_, q2, q3, fun j hj => hg j (by omega)⟩
    rw [e_X5_setProduct_38]
    simp only [mA_o hx1l, h1.1, bS, g1, vI]
    rw [if_pos (Int32.le_refl _)]
    simp only [hwo, bS, q1, cNn, c00]
  | succ m ih =>
    intro i g hi hg
    have hcl := iZ_clampN (n := i) (by omega)
    have hn := iZ_n0 (n := i) (by omega)
    have hc1 : s1 ≤ c1 := h1.2.2.1
    have hui := h1.2.2.2.2.2 i (by omega)
    have du := dg_31 U i
    have hR : U % 2 ^ (31 * i) * V < 2 ^ (31 * i) * 2 ^ (31 * s2) := Nat.mul_lt_mul'' (Nat.mod_lt _ (Nat.two_pow_pos _)) hV
    have hT : U % 2 ^ (31 * i) * V / 2 ^ (31 * i) < 2 ^ (31 * s2) := by
      rw [Nat.div_lt_iff_lt_mul (Nat.two_pow_pos _), Nat.mul_comm (2 ^ (31 * s2))]
      exact hR
    rw [e_X5_setProduct_38]
    simp only [mA_o hx1l, h1.1, mA_ne ha1, h1.2.1, bS, g0, g1, vI, vR, hcl, hui]
    rw [if_neg (by rw [iZ_le (by omega) (by omega)]; omega), if_neg (nob hn (by omega)), iZ_l (by omega) (by omega)]
    obtain ⟨g', q1, q2, q3, q4⟩ := prod_in (x1 := x1) (n := s1 + s2) (i := i) (d := dg 31 U i) (T := U % 2 ^ (31 * i) * V / 2 ^ (31 * i)) hw ⟨f, hl⟩ hc h2 h1.1 ha2 (by omega) du hT s2 0 g (by omega) (fun q _ hq => by rw [dg_dv]; exact hg (i + q) (by omega))
    rw [ca_0] at q1
    have q1' := q1
    rw [show (0 : Int64) = lZ 0 from rfl, show (0 : Int32) = iZ ((0 : Nat) : Int) from rfl, q1']
    refine ih (i + 1) g' (by omega) (fun q hq => ?_)
    rw [prod_R]
    by_cases h3 : q < i
    · rw [dg_lo h3, q2 q (by omega), hg q hq]
      congr 2
      have := dg_lo (k := 31) (q := U % 2 ^ (31 * i) * V / 2 ^ (31 * i)) (r := U % 2 ^ (31 * i) * V % 2 ^ (31 * i)) h3
      rw [Nat.div_add_mod] at this
      exact this
    · obtain ⟨p, rfl⟩ : ∃ p, q = i + p := ⟨q - i, by omega⟩
      rw [dg_hi (Nat.mod_lt _ (Nat.two_pow_pos _))]
      by_cases h4 : p ≤ s2
      · exact q3 p (Nat.zero_le _) h4
      · rw [q4 (i + p) (by omega), hg (i + p) hq]
        congr 1
        rw [dg_zero (Nat.lt_of_lt_of_le hR (by rw [← Nat.pow_add, ← Nat.mul_add]; exact pw_le 31 (by omega))), dg_zero]
        have hz : dg 31 U i * V + U % 2 ^ (31 * i) * V / 2 ^ (31 * i) < 2 ^ (31 * (s2 + 1)) := by
          have e : 2 ^ (31 * (s2 + 1)) = 2147483648 * 2 ^ (31 * s2) := by rw [Nat.mul_add, Nat.pow_add, Nat.mul_comm]
          have h5 : dg 31 U i * V ≤ 2147483647 * V := Nat.mul_le_mul_right V (by omega)
          omega
        exact Nat.lt_of_lt_of_le hz (pw_le 31 (by omega))
theorem prod_z {M : me_M} {w la cap x1 x2 n : Nat} (hw : me_obj M 5 w = some [.ref la, .int (iZ n)]) (hla : ∃ f, me_int M 0 la = some (cap, f)) (hc : cap < 1000) (hn : n ≤ cap) :
    ∀ (m i : Nat) (g : Nat → Int32), i + m = n → (∀ q, q < i → g q = iZ 0) →
      ∃ g' : Nat → Int32, sm T_X5_setProduct (15, [(0, .ref w), (1, .ref x1), (2, .ref x2), (3, .int (iZ i))], [], mA M la cap g, 0, 0) = sm T_X5_setProduct (38, [(0, .ref w), (1, .ref x1), (2, .ref x2), (3, .int (0 : Int32))], [], mA M la cap g', 0, 0) ∧ ∀ q, q < n → g' q = iZ 0 := by
  obtain ⟨f, hl⟩ := hla
  have hwl := oi_ne hw hl
  intro m
  induction m with
  | zero =>
    intro i g hi hg
    have hi : i = n := by omega
    subst hi
    refine ⟨g, ?_, hg⟩
    rw [e_X5_setProduct_15]
    simp only [mA_o hwl, hw, bS, g1, vI]
    rw [if_pos (Int32.le_refl _)]
  | succ m ih =>
    intro i g hi hg
    have hcl := iZ_clampN (n := i) (by omega)
    have hn0 := iZ_n0 (n := i) (by omega)
    rw [e_X5_setProduct_15]
    simp only [mA_o hwl, hw, mA_i, bS, g0, g1, vI, vR, hcl]
    rw [if_neg (by rw [iZ_le (by omega) (by omega)]; omega), if_neg (nob hn0 (by omega)), z_p1, mA_A]
    exact ih (i + 1) _ (by omega) (fun q hq => by
      by_cases hqi : q = i
      · rw [hqi, upd_s]; rfl
      · rw [upd_n _ _ hqi]; exact hg q (by omega))
/-- setProduct: w is neither of both -/
theorem setProd_s {M : me_M} {w la cap x1 a1 c1 s1 U x2 a2 c2 s2 V : Nat} {sw : Value} {f f1 f2 : Nat → Int32} (hw : me_obj M 5 w = some [.ref la, sw]) (hl : me_int M 0 la = some (cap, f)) (hc : cap < 1000) (h1 : WS M x1 a1 c1 s1 U f1) (h2 : WS M x2 a2 c2 s2 V f2) (hx1 : x1 ≠ w) (hx2 : x2 ≠ w) (ha1 : a1 ≠ la) (ha2 : a2 ≠ la) (hcap : s1 + s2 ≤ cap) :
    ∃ (s' : Nat) (g' : Nat → Int32), f_X5_setProduct [.ref w, .ref x1, .ref x2] M = some (none, mW M w la cap g' s') ∧ WS (mW M w la cap g' s') w la cap s' (U * V) g' := by
  have hwl := oi_ne hw hl
  have hs1 := h1.sz
  have hs2 := h2.sz
  generalize hM1 : me_set M w (.inr (5, [.ref la, .int (iZ ((s1 + s2 : Nat) : Int))])) = M1
  have hw1 : me_obj M1 5 w = some [.ref la, .int (iZ ((s1 + s2 : Nat) : Int))] := by rw [← hM1, mo_set]
  have hl1 : me_int M1 0 la = some (cap, f) := by rw [← hM1, mi_ne _ _ _ _ _ hwl.symm]; exact hl
  have hx11 : WS M1 x1 a1 c1 s1 U f1 := ⟨by rw [← hM1, mo_ne _ _ _ _ _ hx1]; exact h1.1, by rw [← hM1, mi_ne _ _ _ _ _ (io_ne hw h1.2.1)]; exact h1.2.1, h1.2.2⟩
  have hx22 : WS M1 x2 a2 c2 s2 V f2 := ⟨by rw [← hM1, mo_ne _ _ _ _ _ hx2]; exact h2.1, by rw [← hM1, mi_ne _ _ _ _ _ (io_ne hw h2.2.1)]; exact h2.2.1, h2.2.2⟩
  obtain ⟨g0', z1, z2⟩ := prod_z (x1 := x1) (x2 := x2) hw1 ⟨f, hl1⟩ hc hcap (s1 + s2) 0 f (by omega) (fun q hq => by omega)
  obtain ⟨s', g', p1, p2, p3, p4⟩ := prod_out hw1 ⟨f, hl1⟩ hc hx11 hx22 ha1 ha2 hcap s1 0 g0' (by omega) (fun q hq => by rw [z2 q hq]; simp [Nat.mod_one, dg_of0])
  have hfin : me_set (mA M1 la cap g') w (.inr (5, [.ref la, .int (iZ s')])) = mW M w la cap g' s' := by
    rw [← hM1]
    unfold mA
    rw [set_comm M hwl, set_set]
    rfl
  refine ⟨s', g', ?_, mW_o _ _ _ _ _ _, mW_i _ _ _ _ hwl.symm, by omega, hc, p3, p4⟩
  rw [e_X5_setProduct]
  simp only [h1.1, h2.1, hw, bS, g1, vI, l2, s21]
  have e : iZ (s1 : Int) + iZ (s2 : Int) = iZ ((s1 + s2 : Nat) : Int) := by rw [iZ_add]; rfl
  rw [e, hM1, ← hfin, ← p1]
  rw [mA_self hl1] at z1
  exact z1
