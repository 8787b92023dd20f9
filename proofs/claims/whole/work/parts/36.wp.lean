theorem dg_s1 {R d : Nat} (j : Nat) (hd : d < 2147483648) : dg 31 (R * 2147483648 + d) (j + 1) = dg 31 R j := by
  have := dg_hi (k := 31) (i := 1) (j := j) (q := R) (r := d) hd
  rw [show 31 * 1 = 31 from rfl, show (2 : Nat) ^ 31 = 2147483648 from rfl, Nat.mul_comm, Nat.add_comm 1 j] at this
  exact this
theorem dg_s0 {R d : Nat} (hd : d < 2147483648) : dg 31 (R * 2147483648 + d) 0 = d := by
  unfold dg
  rw [show (2 : Nat) ^ (31 * 0) = 1 from rfl, show (2 : Nat) ^ 31 = 2147483648 from rfl]
  omega
theorem low_s {t : Nat} (ht : t < 4611686018427387904) : ((lZ (t : Int)).toUInt64 >>> ((31 : Int32).toInt64.toUInt64 &&& Int64.toUInt64 63)).toInt64 &&& 2147483647 = lZ ((t / 2147483648 % 2147483648 : Nat) : Int) := by
  rw [lZ_ushr31 (by omega) (by omega), lZ_mask _ 31 (by decide) (by decide)]
  congr 1
theorem div_loop {M : me_M} {w la cap s V x a c n D q qa capq sh e2 d1 d2 : Nat} {sq : Value} {f0 fx fq : Nat → Int32} (hw : me_obj M 5 w = some [.ref la, .int (iZ ((s + 1 : Nat) : Int))]) (hl : me_int M 0 la = some (cap, f0)) (hc : cap < 1000) (hs : s < cap) (hx : WS M x a c n D fx) (hn : 2 ≤ n) (hns : n ≤ s) (hq : me_obj M 5 q = some [.ref qa, sq]) (hqa : me_int M 0 qa = some (capq, fq)) (hcq : capq < 1000) (hsq : s - n + 1 ≤ capq) (ha1 : a ≠ la) (ha2 : a ≠ qa) (ha3 : la ≠ qa) (hsh : sh = 31 - bl (dg 31 D (n - 1))) (he2 : e2 = if n - 1 = 1 then 0 else dg 31 D (n - 1 - 2)) (hd1 : d1 = tl (dg 31 D (n - 1)) (dg 31 D (n - 1 - 1)) e2 sh / 2147483648) (hd2 : d2 = tl (dg 31 D (n - 1)) (dg 31 D (n - 1 - 1)) e2 sh % 2147483648) :
    ∀ (i : Nat) (g h : Nat → Int32), i ≤ s - n + 1 → (∀ j, j < i → g j = iZ (dg 31 V j)) → (∀ j, j < n → g (i + j) = iZ (dg 31 (V / 2 ^ (31 * i) % D) j)) → (∀ j, i ≤ j → j ≤ s - n → h j = iZ (dg 31 (V / D) j)) →
      ∃ g' h' : Nat → Int32, sm T_X5_divide (116, [(0, .ref w), (1, .ref x), (2, .ref q), (3, .int (iZ ((s - n : Nat) : Int))), (4, .int (iZ sh)), (5, .long (lZ ((d1 * 2147483648 + d2 : Nat) : Int))), (7, .int (iZ ((i : Int) - 1)))], [], mA (mA M qa capq h) la cap g, 0, 0) = sm T_X5_divide (116, [(0, .ref w), (1, .ref x), (2, .ref q), (3, .int (iZ ((s - n : Nat) : Int))), (4, .int (iZ sh)), (5, .long (lZ ((d1 * 2147483648 + d2 : Nat) : Int))), (7, .int (iZ (-1)))], [], mA (mA M qa capq h') la cap g', 0, 0) ∧ (∀ j, j < n → g' j = iZ (dg 31 (V % D) j)) ∧ (∀ j, j ≤ s - n → h' j = iZ (dg 31 (V / D) j)) := by
  have hwl := oi_ne hw hl
  have hwq := oi_ne hw hqa
  have hxl := oi_ne hx.1 hl
  have hxq := oi_ne hx.1 hqa
  have hql := oi_ne hq hl
  have hqq := oi_ne hq hqa
  have hSz : Sz 31 D n := hx.2.2.2.2.1
  have hD0 : 0 < D := by
    obtain ⟨_, h | h⟩ := hSz
    · omega
    · exact Nat.lt_of_lt_of_le (Nat.two_pow_pos _) h
  intro i
  induction i with
  | zero =>
    intro g h _ _ hg2 hh
    refine ⟨g, h, rfl, fun j hj => ?_, fun j hj => hh j (by omega) hj⟩
    have := hg2 j hj
    rw [Nat.zero_add, Nat.mul_zero, Nat.pow_zero, Nat.div_one] at this
    exact this
  | succ i ih =>
    intro g h hi hg1 hg2 hh
    have dV := dg_31 V i
    obtain ⟨t1, t2⟩ := sh_step (k := 31) (v := V) (i := i) hD0
    have hR := Nat.mod_lt (V / 2 ^ (31 * (i + 1))) hD0
    rw [show (2 : Nat) ^ 31 = 2147483648 from rfl] at t1 t2
    generalize hRR : V / 2 ^ (31 * (i + 1)) % D = R at t1 t2 hR hg2
    obtain ⟨X, hXX⟩ : ∃ X : Nat, R * 2147483648 + dg 31 V i = X := ⟨_, rfl⟩
    have t1 : V / 2 ^ (31 * i) % D = X % D := by rw [← hXX]; exact t1
    have t2 : dg 31 (V / D) i = X / D := by rw [← hXX]; exact t2
    -- the limbs of X lie in the window
    have hgX : ∀ j, j ≤ n → g (i + j) = iZ (dg 31 X j) := by
      intro j hj
      rw [← hXX]
      cases j with
      | zero => rw [dg_s0 dV]; exact hg1 i (by omega)
      | succ j => rw [dg_s1 j dV, show i + (j + 1) = i + 1 + j by omega]; exact hg2 j (by omega)
    obtain ⟨y, hy, hyg⟩ : ∃ y : Nat, y < 2147483648 ∧ ((i = 0 ∧ y = 0) ∨ (0 < i ∧ g (i - 1) = iZ y)) := by
      by_cases h0 : i = 0
      · exact ⟨0, by decide, Or.inl ⟨h0, rfl⟩⟩
      · exact ⟨dg 31 V (i - 1), dg_31 _ _, Or.inr ⟨by omega, hg1 (i - 1) (by omega)⟩⟩
    obtain ⟨T, hTT⟩ : ∃ T : Nat, X * 2147483648 + y = T := ⟨_, rfl⟩
    have hwN : me_obj (mA (mA M qa capq h) la cap g) 5 w = some [.ref la, .int (iZ ((s + 1 : Nat) : Int))] := by rw [mA_o hwl, mA_o hwq]; exact hw
    have hlN : me_int (mA M qa capq h) 0 la = some (cap, f0) := by rw [mA_ne ha3]; exact hl
    have hL : ∀ (j : Nat) (z : Int), z = (i : Int) - 1 + j → j ≤ n + 1 → Lm (mA (mA M qa capq h) la cap g) w z (dg 31 T j) := by
      intro j z hz hj
      rw [← hTT]
      cases j with
      | zero =>
        rw [dg_s0 hy]
        rcases hyg with ⟨h0, hy0⟩ | ⟨h0, hy0⟩
        · rw [hy0]
          exact Lm_neg (by omega) (by omega)
        · rw [show z = ((i - 1 : Nat) : Int) by omega]
          exact Lm_raw hwN (mA_i _ _ _ _) (by omega) hc (by omega) hy0 hy
      | succ j =>
        rw [dg_s1 j hy, show z = ((i + j : Nat) : Int) by omega]
        exact Lm_raw hwN (mA_i _ _ _ _) (by omega) hc (by omega) (hgX j (by omega)) (dg_31 _ _)
    obtain ⟨e, he, hLe⟩ : ∃ e : Nat, e < 2147483648 ∧ Lm (mA (mA M qa capq h) la cap g) w ((i : Int) + n - 2 - 2) e := by
      by_cases h3 : 3 ≤ n
      · exact ⟨dg 31 T (n - 3), dg_31 _ _, hL (n - 3) _ (by omega) (by omega)⟩
      · by_cases h0 : i < 2
        · exact ⟨0, by decide, Lm_neg (by omega) (by omega)⟩
        · refine ⟨dg 31 V (i - 2), dg_31 _ _, ?_⟩
          rw [show (i : Int) + n - 2 - 2 = ((i - 2 : Nat) : Int) by omega]
          exact Lm_raw hwN (mA_i _ _ _ _) (by omega) hc (by omega) (hg1 (i - 2) (by omega)) (dg_31 _ _)
    have hT2 : sh ≤ 30 := by
      obtain ⟨_, htop⟩ := hSz.bl (by omega)
      have := bl_pos (v := dg 31 D (n - 1)) (by omega)
      omega
    have q1 := twoLimbs_s (i := (i : Int) + n) (sh := sh) hwN (hL (n + 1) _ (by omega) (by omega)) (hL (n + 1 - 1) _ (by omega) (by omega)) (hL (n + 1 - 2) _ (by omega) (by omega)) hT2 (dg_31 _ _) (dg_31 _ _)
    have q2 := twoLimbs_s (i := (i : Int) + n - 2) (sh := sh) hwN (hL (n - 1) _ (by omega) (by omega)) (hL (n - 1 - 1) _ (by omega) (by omega)) hLe hT2 (dg_31 _ _) he
    obtain ⟨k1, k2, k3⟩ := dv_guess (e := e) hn hSz hR dV hy hsh he he2 X T hXX.symm hTT.symm
    rw [← hd1, ← hd2] at k1 k2
    rw [← hd1] at k3
    have hd1b : d1 < 2147483648 := by
      have := tl_lt (dg 31 D (n - 1)) (dg 31 D (n - 1 - 1)) e2 sh
      omega
    have hd2b : d2 < 2147483648 := by rw [hd2]; exact Nat.mod_lt _ (by decide)
    have q3 := guess_s (M := mA (mA M qa capq h) la cap g) (high := tl (dg 31 T (n + 1)) (dg 31 T (n + 1 - 1)) (dg 31 T (n + 1 - 2)) sh) (low := tl (dg 31 T (n - 1)) (dg 31 T (n - 1 - 1)) e sh / 2147483648 % 2147483648) (d1 := d1) (d2 := d2) (tl_lt _ _ _ _) (Nat.mod_lt _ (by decide)) k3 hd1b hd2b
    have hlow := low_s (tl_lt (dg 31 T (n - 1)) (dg 31 T (n - 1 - 1)) e sh)
    have hGb := gs_lt (tl (dg 31 T (n + 1)) (dg 31 T (n + 1 - 1)) (dg 31 T (n + 1 - 2)) sh) (tl (dg 31 T (n - 1)) (dg 31 T (n - 1 - 1)) e sh / 2147483648 % 2147483648) d1 d2
    generalize gs (tl (dg 31 T (n + 1)) (dg 31 T (n + 1 - 1)) (dg 31 T (n + 1 - 2)) sh) (tl (dg 31 T (n - 1)) (dg 31 T (n - 1 - 1)) e sh / 2147483648 % 2147483648) d1 d2 = G at k1 k2 q3 hGb
    have hXb : X < 2 ^ (31 * (n + 1)) := by
      rw [← hXX, show 31 * (n + 1) = 31 * n + 31 by omega, Nat.pow_add]
      have h5 := hSz.1
      have := Nat.mul_le_mul_right 2147483648 (show R + 1 ≤ 2 ^ (31 * n) by omega)
      rw [show (2 : Nat) ^ 31 = 2147483648 from rfl]
      omega
    obtain ⟨g', q4, q5, q6⟩ := take_s (M := mA M qa capq h) (w := w) (la := la) (t := i) (X := X) (G := G) (g := g) (by rw [mA_o hwq]; exact hw) hlN hc (hx.of (by unfold mA; rw [set_ne hxq]) (by unfold mA; rw [set_ne ha2])) ha1 (by omega) hGb hD0 hXb hgX k1 k2
    have hcl := iZ_clampN (n := i) (by omega)
    have hn0 := iZ_n0 (n := i) (by omega)
    have e0 : (((i + 1 : Nat) : Int) - 1) = (i : Int) := by omega
    have eA : iZ (i : Int) + iZ (n : Int) = iZ ((i : Int) + n) := iZ_add _ _
    have eB : iZ ((i : Int) + n) - 2 = iZ ((i : Int) + n - 2) := by rw [z_2, iZ_sub]
    have hxN : me_obj (mA (mA M qa capq h) la cap g) 5 x = some [.ref a, .int (iZ n)] := by rw [mA_o hxl, mA_o hxq]; exact hx.1
    have hqN : me_obj (mA (mA M qa capq h) la cap g) 5 q = some [.ref qa, sq] := by rw [mA_o hql, mA_o hqq]; exact hq
    rw [e0, e_X5_divide_116, if_neg hn0]
    simp only [hxN, hqN, hwN, bS, g0, g1, vI, vL, eA, eB, q1, q2, hlow, q3, q4]
    rw [e_X5_divide_182]
    have hqi : me_int (mA (mA M qa capq h) la cap g') 0 qa = some (capq, h) := by rw [mA_ne (Ne.symm ha3), mA_i]
    simp only [vR, bS, hqi, hcl]
    rw [if_neg (nob hn0 (by omega))]
    have hm : me_set (mA (mA M qa capq h) la cap g') qa (.inl (0, capq, .inl (upd h i (iZ ((X / D : Nat) : Int))))) = mA (mA M qa capq (upd h i (iZ ((X / D : Nat) : Int)))) la cap g' := by
      unfold mA
      rw [set_comm _ ha3, set_set]
    rw [hm, show iZ (i : Int) + -1 = iZ ((i : Int) - 1) by rw [show (-1 : Int32) = iZ (-1) from rfl, iZ_add]; rfl]
    refine ih g' (upd h i (iZ ((X / D : Nat) : Int))) (by omega) (fun j hj => ?_) (fun j hj => ?_) (fun j h1 h2 => ?_)
    · rw [q6 j hj]; exact hg1 j (by omega)
    · rw [t1]; exact q5 j hj
    · by_cases hji : j = i
      · rw [hji, upd_s, t2]
      · rw [upd_n _ _ hji]; exact hh j (by omega) h2
