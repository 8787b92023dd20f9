theorem z_pi (a b : Nat) : iZ (a : Int) + iZ (b : Int) = iZ ((a + b : Nat) : Int) := by rw [iZ_add]; rfl
/-- giveBack: n limbs from place t on become the digits of Y and D's sum, what is carried out being dropped -/
theorem giveBack_l {M : me_M} {w la cap x a c n D t Y : Nat} {sw : Value} {f fx : Nat → Int32} (hw : me_obj M 5 w = some [.ref la, sw]) (hl : me_int M 0 la = some (cap, f)) (hc : cap < 1000) (hx : WS M x a c n D fx) (hax : a ≠ la) (ht : t + n ≤ cap) :
    ∀ (m i : Nat) (g : Nat → Int32), i + m = n → (∀ j, i ≤ j → j < n → g (t + j) = iZ (dg 31 Y j)) →
      ∃ g' : Nat → Int32, sm T_X5_giveBack (5, [(0, .ref w), (1, .ref x), (2, .int (iZ t)), (3, .long (lZ (ca 31 1 1 D Y i))), (5, .int (iZ i))], [], mA M la cap g, 0, 0) = some (none, mA M la cap g') ∧ (∀ j, i ≤ j → j < n → g' (t + j) = iZ (dg 31 (D + Y) j)) ∧ (∀ j, j < t + i → g' j = g j) ∧ (∀ j, t + n ≤ j → g' j = g j) := by
  have hwl := oi_ne hw hl
  have hxl := oi_ne hx.1 hl
  have hn := hx.sz
  have hnc : n ≤ c := hx.2.2.1
  have hZ : (1 : Int) * (D : Int) + 1 * (Y : Int) = ((D + Y : Nat) : Int) := by simp
  intro m
  induction m with
  | zero =>
    intro i g hi hg
    refine ⟨g, ?_, fun j h1 h2 => by omega, fun j _ => rfl, fun j _ => rfl⟩
    rw [e_X5_giveBack_5]
    simp only [mA_o hxl, hx.1, bS, g1, vI, c00]
    rw [if_pos (by rw [iZ_le (by omega) (by omega)]; omega)]
  | succ m ih =>
    intro i g hi hg
    have hcl := iZ_clampN (n := i) (by omega)
    have hn0 := iZ_n0 (n := i) (by omega)
    have hcl2 := iZ_clampN (n := t + i) (by omega)
    have hn2 := iZ_n0 (n := t + i) (by omega)
    have hcb := ca_11 31 D Y i
    have d1 := dg_31 D i
    have d2 := dg_31 Y i
    have hgi := hg i (Nat.le_refl _) (by omega)
    have hxi := hx.2.2.2.2.2 i (by omega)
    rw [e_X5_giveBack_5]
    simp only [mA_o hxl, hx.1, mA_ne hax, hx.2.1, mA_o hwl, hw, mA_i, bS, g0, g1, vI, vR, z_pi, hcl, hcl2, hgi, hxi]
    rw [if_neg (by rw [iZ_le (by omega) (by omega)]; omega), if_neg (nob hn2 (by omega)), if_neg (nob hn0 (by omega)), if_neg (nob hn2 (by omega)), iZ_l (by omega) (by omega), iZ_l (by omega) (by omega), lZ_add, lZ_add, lZ_i, iZ_mask31, lZ_ushr31 (by omega) (by omega), z_p1, mA_A]
    have e1 : (ca 31 1 1 D Y i + ((dg 31 Y i : Int) + (dg 31 D i : Int))) / 2147483648 = ca 31 1 1 D Y (i + 1) := by
      rw [ca_s]
      congr 1
      omega
    have e2 : (ca 31 1 1 D Y i + ((dg 31 Y i : Int) + (dg 31 D i : Int))) % 2147483648 = (dg 31 (D + Y) i : Int) := by
      rw [← ca_dg hZ]
      congr 1
      omega
    rw [e1, e2]
    obtain ⟨g', q1, q2, q3, q4⟩ := ih (i + 1) (upd g (t + i) (iZ (dg 31 (D + Y) i))) (by omega) (fun j h1 h2 => by rw [upd_n _ _ (by omega)]; exact hg j (by omega) h2)
    refine ⟨g', q1, fun j h1 h2 => ?_, fun j h1 => ?_, fun j h1 => ?_⟩
    · by_cases hj : j = i
      · rw [hj, q3 (t + i) (by omega), upd_s]
      · exact q2 j (by omega) h2
    · rw [q3 j (by omega), upd_n _ _ (by omega)]
    · rw [q4 j h1, upd_n _ _ (by omega)]
theorem giveBack_s {M : me_M} {w la cap x a c n D t Y : Nat} {sw : Value} {f fx g : Nat → Int32} (hw : me_obj M 5 w = some [.ref la, sw]) (hl : me_int M 0 la = some (cap, f)) (hc : cap < 1000) (hx : WS M x a c n D fx) (hax : a ≠ la) (ht : t + n ≤ cap) (hg : ∀ j, j < n → g (t + j) = iZ (dg 31 Y j)) :
    ∃ g' : Nat → Int32, f_X5_giveBack [.ref w, .ref x, .int (iZ t)] (mA M la cap g) = some (none, mA M la cap g') ∧ (∀ j, j < n → g' (t + j) = iZ (dg 31 (D + Y) j)) ∧ (∀ j, j < t → g' j = g j) := by
  obtain ⟨g', q1, q2, q3, q4⟩ := giveBack_l hw hl hc hx hax ht n 0 g (by omega) (fun j _ h => hg j h)
  rw [ca_0] at q1
  refine ⟨g', ?_, fun j h => q2 j (Nat.zero_le _) h, fun j h => q3 j (by omega)⟩
  rw [e_X5_giveBack]
  exact q1
/-- what is taken from the next place when G times D is taken from Y -/
theorem ca_m {k G D Y i : Nat} : -(G : Int) ≤ ca k (-(G : Int)) 1 D Y i ∧ ca k (-(G : Int)) 1 D Y i ≤ 0 := by
  unfold ca
  have hP : (0 : Int) < ((2 ^ (k * i) : Nat) : Int) := by exact_mod_cast Nat.two_pow_pos _
  have hu : ((D % 2 ^ (k * i) : Nat) : Int) < ((2 ^ (k * i) : Nat) : Int) := by exact_mod_cast Nat.mod_lt _ (Nat.two_pow_pos _)
  have hv : ((Y % 2 ^ (k * i) : Nat) : Int) < ((2 ^ (k * i) : Nat) : Int) := by exact_mod_cast Nat.mod_lt _ (Nat.two_pow_pos _)
  generalize D % 2 ^ (k * i) = u at hu ⊢
  generalize Y % 2 ^ (k * i) = v at hv ⊢
  generalize ((2 ^ (k * i) : Nat) : Int) = P at hP hu hv ⊢
  have h1 : 0 ≤ (G : Int) * (u : Int) := Int.mul_nonneg (by omega) (by omega)
  have h2 : (G : Int) * (u : Int) ≤ (G : Int) * P := Int.mul_le_mul_of_nonneg_left (by omega) (by omega)
  have h3 : -(G : Int) * (u : Int) = -((G : Int) * (u : Int)) := Int.neg_mul _ _
  rw [h3]
  constructor
  · apply (Int.le_ediv_iff_mul_le hP).mpr
    rw [Int.neg_mul]
    omega
  · have : (-((G : Int) * (u : Int)) + 1 * (v : Int)) / P < 1 := (Int.ediv_lt_iff_lt_mul hP).mpr (by omega)
    omega
/-- the loop of takeAway: n limbs from place t on, first the digits of Y, become those of Y less G times D -/
theorem take_l {M : me_M} {w la cap x a c n D t Y G : Nat} {sw : Value} {f fx : Nat → Int32} (hw : me_obj M 5 w = some [.ref la, sw]) (hl : me_int M 0 la = some (cap, f)) (hc : cap < 1000) (hx : WS M x a c n D fx) (hax : a ≠ la) (ht : t + n < cap) (hG : G < 2147483648) :
    ∀ (m i : Nat) (g : Nat → Int32), i + m = n → (∀ j, i ≤ j → j < n → g (t + j) = iZ (dg 31 Y j)) →
      ∃ g' : Nat → Int32, sm T_X5_takeAway (14, [(0, .ref w), (1, .ref x), (2, .long (lZ G)), (4, .int (iZ t)), (5, .long (lZ (-ca 31 (-(G : Int)) 1 D Y i))), (7, .int (iZ i))], [], mA M la cap g, 0, 0) = sm T_X5_takeAway (14, [(0, .ref w), (1, .ref x), (2, .long (lZ G)), (4, .int (iZ t)), (5, .long (lZ (-ca 31 (-(G : Int)) 1 D Y n))), (7, .int (iZ n))], [], mA M la cap g', 0, 0) ∧ (∀ j, i ≤ j → j < n → g' (t + j) = iZ ((-(G : Int) * (D : Int) + 1 * (Y : Int)) / ((2 ^ (31 * j) : Nat) : Int) % 2147483648)) ∧ (∀ j, j < t + i → g' j = g j) ∧ (∀ j, t + n ≤ j → g' j = g j) := by
  have hwl := oi_ne hw hl
  have hxl := oi_ne hx.1 hl
  have hn := hx.sz
  have hnc : n ≤ c := hx.2.2.1
  intro m
  induction m with
  | zero =>
    intro i g hi hg
    have hi : i = n := by omega
    subst hi
    exact ⟨g, rfl, fun j h1 h2 => by omega, fun j _ => rfl, fun j _ => rfl⟩
  | succ m ih =>
    intro i g hi hg
    have hcl := iZ_clampN (n := i) (by omega)
    have hn0 := iZ_n0 (n := i) (by omega)
    have hcl2 := iZ_clampN (n := t + i) (by omega)
    have hn2 := iZ_n0 (n := t + i) (by omega)
    have hcb := ca_m (k := 31) (G := G) (D := D) (Y := Y) (i := i)
    have d1 := dg_31 D i
    have d2 := dg_31 Y i
    have hgi := hg i (Nat.le_refl _) (by omega)
    have hxi := hx.2.2.2.2.2 i (by omega)
    have hcs := ca_s 31 (-(G : Int)) 1 D Y i
    have hcd := ca_d 31 (-(G : Int)) 1 D Y i
    rw [show ((2 ^ 31 : Nat) : Int) = 2147483648 from rfl] at hcs hcd
    have hmul : (G : Int) * (dg 31 D i : Int) ≤ 2147483647 * 2147483647 := by
      have h1 : G * dg 31 D i ≤ 2147483647 * 2147483647 := Nat.mul_le_mul (by omega) (by omega)
      have h2 : ((G * dg 31 D i : Nat) : Int) = (G : Int) * (dg 31 D i : Int) := Int.natCast_mul _ _
      omega
    have hmul0 : 0 ≤ (G : Int) * (dg 31 D i : Int) := Int.mul_nonneg (by omega) (by omega)
    have hneg : -(G : Int) * (dg 31 D i : Int) = -((G : Int) * (dg 31 D i : Int)) := Int.neg_mul _ _
    rw [hneg] at hcs hcd
    generalize hC : ca 31 (-(G : Int)) 1 D Y i = C at hcb hcs hcd ⊢
    rw [e_X5_takeAway_14]
    simp only [mA_o hxl, hx.1, mA_ne hax, hx.2.1, mA_o hwl, hw, mA_i, bS, g0, g1, vI, vR, z_pi, hcl, hcl2, hgi, hxi]
    rw [if_neg (by rw [iZ_le (by omega) (by omega)]; omega), if_neg (nob hn0 (by omega)), if_neg (nob hn2 (by omega)), iZ_l (by omega) (by omega), lZ_mul, lZ_add, lZ_i, iZ_mask31, lZ_ushr31 (by omega) (by omega), iZ_sub]
    generalize (G : Int) * (dg 31 D i : Int) = E at hmul hmul0 hcs hcd ⊢
    have key : ∀ (c' : Int), c' = -ca 31 (-(G : Int)) 1 D Y (i + 1) → ∃ g' : Nat → Int32, sm T_X5_takeAway (75, [(0, .ref w), (1, .ref x), (2, .long (lZ G)), (4, .int (iZ t)), (5, .long (lZ c')), (7, .int (iZ i)), (8, .int (iZ ((dg 31 Y i : Int) - (-C + E) % 2147483648)))], [], mA M la cap g, 0, 0) = sm T_X5_takeAway (14, [(0, .ref w), (1, .ref x), (2, .long (lZ G)), (4, .int (iZ t)), (5, .long (lZ (-ca 31 (-(G : Int)) 1 D Y n))), (7, .int (iZ n))], [], mA M la cap g', 0, 0) ∧ (∀ j, i ≤ j → j < n → g' (t + j) = iZ ((-(G : Int) * (D : Int) + 1 * (Y : Int)) / ((2 ^ (31 * j) : Nat) : Int) % 2147483648)) ∧ (∀ j, j < t + i → g' j = g j) ∧ (∀ j, t + n ≤ j → g' j = g j) := by
      intro c' hc'
      have e3 : ((dg 31 Y i : Int) - (-C + E) % 2147483648) % 2147483648 = (-(G : Int) * (D : Int) + 1 * (Y : Int)) / ((2 ^ (31 * i) : Nat) : Int) % 2147483648 := by
        rw [hcd]
        omega
      obtain ⟨g', q1, q2, q3, q4⟩ := ih (i + 1) (upd g (t + i) (iZ ((-(G : Int) * (D : Int) + 1 * (Y : Int)) / ((2 ^ (31 * i) : Nat) : Int) % 2147483648))) (by omega) (fun j h1 h2 => by rw [upd_n _ _ (by omega)]; exact hg j (by omega) h2)
      refine ⟨g', ?_, fun j h1 h2 => ?_, fun j h1 => ?_, fun j h1 => ?_⟩
      · rw [e_X5_takeAway_75]
        simp only [mA_o hwl, hw, mA_i, bS, g0, vR, z_pi, hcl2]
        rw [if_neg (nob hn2 (by omega)), iZ_mask31, e3, mA_A, z_p1, hc', q1]
      · by_cases hj : j = i
        · rw [hj, q3 (t + i) (by omega), upd_s]
        · exact q2 j (by omega) h2
      · rw [q3 j (by omega), upd_n _ _ (by omega)]
      · rw [q4 j h1, upd_n _ _ (by omega)]
    by_cases hb : 0 ≤ (dg 31 Y i : Int) - (-C + E) % 2147483648
    · rw [if_pos (by rw [z_0, iZ_le (by omega) (by omega)]; exact hb)]
      exact key _ (by rw [hcs]; omega)
    · rw [if_neg (by rw [z_0, iZ_le (by omega) (by omega)]; exact hb), show (1 : Int64) = lZ 1 from rfl, lZ_add]
      exact key _ (by rw [hcs]; omega)
/-- digits below place n don't change by a multiple of the n-th power -/
theorem dg_shift {k n j W : Nat} {X m : Int} (hj : j < n) (h : X = (W : Int) + ((2 ^ (k * n) : Nat) : Int) * m) : X / ((2 ^ (k * j) : Nat) : Int) % ((2 ^ k : Nat) : Int) = (dg k W j : Int) := by
  have e : ((2 ^ (k * n) : Nat) : Int) = ((2 ^ (k * j) : Nat) : Int) * (((2 ^ k : Nat) : Int) * ((2 ^ (k * (n - j - 1)) : Nat) : Int)) := by
    rw [← Int.natCast_mul, ← Int.natCast_mul, ← Nat.pow_add, ← Nat.pow_add]
    congr 2
    have h1 : n = j + 1 + (n - j - 1) := by omega
    conv => lhs; rw [h1]
    rw [Nat.mul_add, Nat.mul_add, Nat.mul_one, Nat.add_assoc]
  have hP : ((2 ^ (k * j) : Nat) : Int) ≠ 0 := by
    have := Nat.two_pow_pos (k * j)
    omega
  rw [h, e, Int.mul_assoc, Int.add_mul_ediv_left _ _ hP, Int.mul_assoc, Int.add_mul_emod_self_left, dg_int]
/-- takeAway: the window of n + 1 limbs from place t on stands for X; what is guessed is the quotient or one more -/
theorem take_s {M : me_M} {w la cap x a c n D t X G : Nat} {sw : Value} {f fx g : Nat → Int32} (hw : me_obj M 5 w = some [.ref la, sw]) (hl : me_int M 0 la = some (cap, f)) (hc : cap < 1000) (hx : WS M x a c n D fx) (hax : a ≠ la) (ht : t + n < cap) (hG : G < 2147483648) (hD : 0 < D) (hX : X < 2 ^ (31 * (n + 1))) (hg : ∀ j, j ≤ n → g (t + j) = iZ (dg 31 X j)) (h1 : X / D ≤ G) (h2 : G ≤ X / D + 1) :
    ∃ g' : Nat → Int32, f_X5_takeAway [.ref w, .ref x, .long (lZ G), .int (iZ t)] (mA M la cap g) = some (some (.int (iZ ((X / D : Nat) : Int))), mA M la cap g') ∧ (∀ j, j < n → g' (t + j) = iZ (dg 31 (X % D) j)) ∧ (∀ j, j < t → g' j = g j) := by
  have hwl := oi_ne hw hl
  have hxl := oi_ne hx.1 hl
  have hn := hx.sz
  have hDn := hx.lt (Nat.le_refl _)
  have hdm := Nat.div_add_mod X D
  have hr := Nat.mod_lt X hD
  rw [e_X5_takeAway]
  simp only [c00]
  by_cases hG0 : G = 0
  · subst hG0
    rw [if_pos (by rw [lgc0]; rfl)]
    have hq : X / D = 0 := Nat.le_zero.mp h1
    rw [hq, Nat.mul_zero, Nat.zero_add] at hdm
    refine ⟨g, by rw [hq]; rfl, fun j hj => ?_, fun j _ => rfl⟩
    rw [hg j (by omega), hdm]
  · rw [if_neg (by rw [lgc0, show (0 : Int64) = lZ 0 from rfl, lZ_eq (by omega) (by omega)]; omega)]
    have hT : X / 2 ^ (31 * n) < 2147483648 := by
      rw [Nat.div_lt_iff_lt_mul (Nat.two_pow_pos _)]
      rw [Nat.mul_add, Nat.pow_add, Nat.mul_comm] at hX
      exact hX
    have hXY := Nat.div_add_mod X (2 ^ (31 * n))
    have hY := Nat.mod_lt X (Nat.two_pow_pos (31 * n))
    have hdgn : dg 31 X n = X / 2 ^ (31 * n) := Nat.mod_eq_of_lt hT
    have hdgj : ∀ j, j < n → dg 31 X j = dg 31 (X % 2 ^ (31 * n)) j := fun j hj => by
      conv => lhs; rw [← hXY]
      exact dg_lo hj
    generalize hTd : X / 2 ^ (31 * n) = T at hT hXY hdgn
    generalize hYd : X % 2 ^ (31 * n) = Y at hY hXY hdgj
    obtain ⟨g1', q1, q2, q3, q4⟩ := take_l (Y := Y) hw hl hc hx hax ht hG n 0 g (by omega) (fun j _ hj => by rw [hg j (by omega), hdgj j hj])
    rw [ca_0] at q1
    have hcan : ca 31 (-(G : Int)) 1 D Y n = (-(G : Int) * (D : Int) + 1 * (Y : Int)) / ((2 ^ (31 * n) : Nat) : Int) := by
      unfold ca
      rw [Nat.mod_eq_of_lt hDn, Nat.mod_eq_of_lt hY]
    have hcb := ca_m (k := 31) (G := G) (D := D) (Y := Y) (i := n)
    have hcl2 := iZ_clampN (n := t + n) (by omega)
    have hn2 := iZ_n0 (n := t + n) (by omega)
    have htop : g1' (t + n) = iZ (T : Int) := by rw [q4 (t + n) (Nat.le_refl _), hg n (Nat.le_refl _), hdgn]
    have e0 : sm T_X5_takeAway (14, [(0, .ref w), (1, .ref x), (2, .long (lZ G)), (4, .int (iZ t)), (5, .long (0 : Int64)), (7, .int (0 : Int32))], [], mA M la cap g, 0, 0) = sm T_X5_takeAway (14, [(0, .ref w), (1, .ref x), (2, .long (lZ G)), (4, .int (iZ t)), (5, .long (lZ (-ca 31 (-(G : Int)) 1 D Y n))), (7, .int (iZ n))], [], mA M la cap g1', 0, 0) := q1
    rw [e0, e_X5_takeAway_14]
    simp only [mA_o hxl, hx.1, mA_o hwl, hw, mA_i, bS, g0, g1, vI, vR, z_pi, hcl2, htop, c00]
    rw [if_pos (Int32.le_refl _), if_neg (nob hn2 (by omega)), iZ_l (by omega) (by omega), lZ_i]
    have hPpos : (0 : Int) < ((2 ^ (31 * n) : Nat) : Int) := by exact_mod_cast Nat.two_pow_pos _
    have hXz : (X : Int) = ((2 ^ (31 * n) : Nat) : Int) * (T : Int) + (Y : Int) := by rw [← hXY, Int.natCast_add, Int.natCast_mul]
    have hXd : (X : Int) = (D : Int) * ((X / D : Nat) : Int) + ((X % D : Nat) : Int) := by
      conv => lhs; rw [← hdm]
      rw [Int.natCast_add, Int.natCast_mul]
    have hDz : (D : Int) < ((2 ^ (31 * n) : Nat) : Int) := by exact_mod_cast hDn
    have hrz : ((X % D : Nat) : Int) < (D : Int) := by exact_mod_cast hr
    generalize hQ : X / D = Q at h1 h2 hXd ⊢
    generalize hRm : X % D = Rm at hXd hrz ⊢
    generalize hP : ((2 ^ (31 * n) : Nat) : Int) = P at hPpos hXz hDz hcan
    rcases (show G = Q ∨ G = Q + 1 by omega) with hGQ | hGQ
    · subst hGQ
      have hval : -(G : Int) * (D : Int) + 1 * (Y : Int) = (Rm : Int) + P * (-(T : Int)) := by
        rw [Int.neg_mul, Int.mul_neg]
        have := Int.mul_comm (G : Int) (D : Int)
        omega
      have hcv : ca 31 (-(G : Int)) 1 D Y n = -(T : Int) := by
        rw [hcan, hval, Int.add_mul_ediv_left _ _ (by omega), Int.ediv_eq_zero_of_lt (by omega) (by omega), Int.zero_add]
      rw [hcv, if_pos (by rw [lg_cmp_ge, lZ_le (by omega) (by omega)]; omega)]
      refine ⟨g1', rfl, fun j hj => ?_, fun j hj => q3 j (by omega)⟩
      rw [q2 j (Nat.zero_le _) hj]
      congr 1
      exact dg_shift hj (by rw [hval, hP])
    · have hval : -(G : Int) * (D : Int) + 1 * (Y : Int) = ((Rm : Int) - (D : Int) + P) + P * (-(T : Int) - 1) := by
        rw [hGQ, Int.neg_mul, Int.mul_sub, Int.mul_neg, Int.mul_one, Int.natCast_add, Int.add_mul]
        have := Int.mul_comm (Q : Int) (D : Int)
        omega
      have hcv : ca 31 (-(G : Int)) 1 D Y n = -(T : Int) - 1 := by
        rw [hcan, hval, Int.add_mul_ediv_left _ _ (by omega), Int.ediv_eq_zero_of_lt (by omega) (by omega), Int.zero_add]
      rw [hcv, if_neg (by rw [lg_cmp_ge, lZ_le (by omega) (by omega)]; omega)]
      obtain ⟨W, hW⟩ : ∃ W : Nat, (W : Int) = (Rm : Int) - (D : Int) + P := ⟨((Rm : Int) - (D : Int) + P).toNat, by omega⟩
      obtain ⟨g2, b1, b2, b3⟩ := giveBack_s (g := g1') (Y := W) (t := t) hw hl hc hx hax (by omega) (fun j hj => by
        rw [q2 j (Nat.zero_le _) hj]
        congr 1
        exact dg_shift hj (by rw [hval, hP, hW]))
      refine ⟨g2, ?_, fun j hj => ?_, fun j hj => by rw [b3 j hj]; exact q3 j (by omega)⟩
      · rw [b1]
        simp only [bS, cNn, c00]
        rw [z_1, iZ_sub]
        exact iZ_c (by omega)
      · rw [b2 j hj]
        congr 2
        have hs : D + W = 2 ^ (31 * n) * 1 + Rm := by
          have : (((D + W : Nat)) : Int) = ((2 ^ (31 * n) * 1 + Rm : Nat) : Int) := by
            rw [Int.natCast_add, Int.natCast_add, Nat.mul_one, hP, hW]
            omega
          exact_mod_cast this
        rw [hs]
        exact dg_lo hj
