/-! multiplying -/
theorem prod_R16 (U V i : Nat) : U % 2 ^ (16 * (i + 1)) * V = 2 ^ (16 * i) * (dg 16 U i * V + U % 2 ^ (16 * i) * V / 2 ^ (16 * i)) + U % 2 ^ (16 * i) * V % 2 ^ (16 * i) := by
  have h := dg_mod 16 U i
  rw [h]
  have h2 := Nat.div_add_mod (U % 2 ^ (16 * i) * V) (2 ^ (16 * i))
  rw [Nat.add_mul]
  generalize U % 2 ^ (16 * i) * V = X at h2 ⊢
  rw [Nat.mul_add, Nat.add_assoc, h2, ← Nat.mul_assoc, Nat.add_comm]
theorem ix3 (x i j : Nat) : iZ ((160 * x + i : Nat) : Int) + iZ (j : Int) = iZ ((160 * x + (i + j) : Nat) : Int) := by rw [iZ_add]; congr 1; omega
theorem mulM_in {M : me_M} {B z x y V n i d T s2 : Nat} {rf nf : Nat → Int32} (h : Lo M B rf nf) (hz : z < 19) (hx : x < 19) (hy : y < 19) (hzx : z ≠ x) (hzy : z ≠ y) (hn : nf y = iZ s2) (hi : i + s2 < 160) (hV : V < 2 ^ (16 * s2)) (hf : ∀ j, j < s2 → rf (160 * y + j) = iZ (dg 16 V j)) (hfx : rf (160 * x + i) = iZ d) (hd : d < 65536) (hT : T < 2 ^ (16 * s2)) :
    ∀ (m j : Nat) (g : Nat → Int32), j + m = s2 → Ot g rf z → (∀ q, j ≤ q → q < s2 → g (160 * z + (i + q)) = iZ (dg 16 T q)) →
      ∃ g' : Nat → Int32, sm T_X7_multiply (65, [(0, .ref B), (1, .int (iZ z)), (2, .int (iZ x)), (3, .int (iZ y)), (4, .int (iZ n)), (5, .int (iZ i)), (6, .int (iZ (ca 16 d 1 V T j))), (7, .int (iZ j))], [], mA M (B + 1) 3040 g, 0, 0) = sm T_X7_multiply (48, [(0, .ref B), (1, .int (iZ z)), (2, .int (iZ x)), (3, .int (iZ y)), (4, .int (iZ n)), (5, .int (iZ ((i + 1 : Nat) : Int)))], [], mA M (B + 1) 3040 g', 0, 0) ∧ Ot g' rf z ∧ (∀ q, q < i + j → g' (160 * z + q) = g (160 * z + q)) ∧ (∀ q, j ≤ q → q ≤ s2 → g' (160 * z + (i + q)) = iZ (dg 16 (d * V + T) q)) ∧ (∀ q, i + s2 < q → g' (160 * z + q) = g (160 * z + q)) := by
  have hZ : (d : Int) * (V : Int) + 1 * (T : Int) = ((d * V + T : Nat) : Int) := by rw [Int.natCast_add, Int.natCast_mul, Int.one_mul]
  have e16 : ((2 ^ 16 : Nat) : Int) = 65536 := by decide
  have cy := iZ_clampN (n := y) (by omega)
  intro m
  induction m with
  | zero =>
    intro j g hj hO hg
    have hj : j = s2 := by omega
    subst hj
    obtain ⟨⟨u, tl, h0⟩, h1, h2⟩ := h.a g
    have eM : ∀ q, me_set (mA M (B + 1) 3040 g) (B + 1) (.inl (0, 3040, .inl q)) = mA M (B + 1) 3040 q := fun q => set_set _ _ _ _
    have htop := ca_top hZ hV hT
    have hcb := ca_pq (k := 16) (p := d) (U := V) (V := T) (i := j)
    have hdd : dg 16 (d * V + T) j = (d * V + T) / 2 ^ (16 * j) := by
      unfold dg
      refine Nat.mod_eq_of_lt ?_
      rw [show (2 : Nat) ^ 16 = 65536 by decide]
      omega
    rw [e_X7_multiply_65]
    simp only [h0, bS, g1, g2, vF, h1, h2, ix16, cy, hn, ix3, eM]
    rw [if_neg (nob (iZ_n0 (by omega)) (by omega)), if_pos (Int32.le_refl _), if_neg (nob (iZ_n0 (by omega)) (by omega)), iZ_clampN (by omega), if_neg (nob (iZ_n0 (by omega)) (by omega)), htop, ← hdd, z_p1]
    refine ⟨upd g (160 * z + (i + j)) (iZ (dg 16 (d * V + T) j)), rfl, hO.upd (by omega), fun q hq => upd_n _ _ (by omega), fun q h1 h2 => ?_, fun q hq => upd_n _ _ (by omega)⟩
    rw [show q = j by omega, upd_s]
  | succ m ih =>
    intro j g hj hO hg
    obtain ⟨⟨u, tl, h0⟩, h1, h2⟩ := h.a g
    have eM : ∀ q, me_set (mA M (B + 1) 3040 g) (B + 1) (.inl (0, 3040, .inl q)) = mA M (B + 1) 3040 q := fun q => set_set _ _ _ _
    have hcb := ca_pq (k := 16) (p := d) (U := V) (V := T) (i := j)
    have d1 := dg_16 V j
    have d2 := dg_16 T j
    have hgi := hg j (Nat.le_refl _) (by omega)
    have hgy : g (160 * y + j) = iZ (dg 16 V j) := by rw [hO _ (by omega)]; exact hf j (by omega)
    have hgx : g (160 * x + i) = iZ d := by rw [hO _ (by omega)]; exact hfx
    have hmul : d * dg 16 V j ≤ 65535 * 65535 := Nat.mul_le_mul (by omega) (by omega)
    have hmulz : ((d * dg 16 V j : Nat) : Int) = (d : Int) * (dg 16 V j : Int) := Int.natCast_mul _ _
    obtain ⟨w, hw⟩ : ∃ w : Nat, (w : Int) = (d : Int) * (dg 16 V j : Int) + (dg 16 T j : Int) + ca 16 d 1 V T j := ⟨((d : Int) * (dg 16 V j : Int) + (dg 16 T j : Int) + ca 16 d 1 V T j).toNat, by omega⟩
    have e1 := ca_s 16 d 1 V T j
    have e2 := ca_dg (k := 16) hZ j
    rw [e16, Int.one_mul, ← hw] at e1 e2
    rw [e_X7_multiply_65]
    simp only [h0, bS, g1, g2, vF, h1, h2, ix16, cy, hn, ix3, eM]
    rw [if_neg (nob (iZ_n0 (by omega)) (by omega)), if_neg (by rw [iZ_le (by omega) (by omega)]; omega), iZ_clampN (by omega : 160 * x + i < 2147483648), if_neg (nob (iZ_n0 (by omega)) (by omega)), iZ_clampN (by omega : 160 * y + j < 2147483648), if_neg (nob (iZ_n0 (by omega)) (by omega)), iZ_clampN (by omega : 160 * z + (i + j) < 2147483648), if_neg (nob (iZ_n0 (by omega)) (by omega)), if_neg (nob (iZ_n0 (by omega)) (by omega)), hgi, hgy, hgx, iZ_mul, iZ_add, iZ_add, ← hw, iZ_mask16, iZ_ushr (by omega) 16 16 (by decide), e2, show ((w / 2 ^ 16 : Nat) : Int) = (w : Int) / 65536 by rw [Int.natCast_ediv, e16], ← e1, z_p1]
    obtain ⟨g', q1, q0, q2, q3, q4⟩ := ih (j + 1) (upd g (160 * z + (i + j)) (iZ (dg 16 (d * V + T) j))) (by omega) (hO.upd (by omega)) (fun q h1 h2 => by rw [upd_n _ _ (by omega)]; exact hg q (by omega) h2)
    refine ⟨g', q1, q0, fun q hq => ?_, fun q h1 h2 => ?_, fun q hq => ?_⟩
    · rw [q2 q (by omega), upd_n _ _ (by omega)]
    · by_cases hqj : q = j
      · rw [hqj, q2 (i + j) (by omega), upd_s]
      · exact q3 q (by omega) h2
    · rw [q4 q hq, upd_n _ _ (by omega)]
theorem mulM_out {M : me_M} {B z x y U V s1 s2 : Nat} {rf nf : Nat → Int32} {reg : Nat → Nat} (h : Lo M B rf nf) (hR : ∀ y, y < 19 → RX rf nf y (reg y)) (hz : z < 19) (hx : x < 19) (hy : y < 19) (hzx : z ≠ x) (hzy : z ≠ y) (hn1 : nf x = iZ s1) (hn2 : nf y = iZ s2) (hU : U < 2 ^ (16 * s1)) (hV : V < 2 ^ (16 * s2)) (hf1 : ∀ j, j < s1 → rf (160 * x + j) = iZ (dg 16 U j)) (hf2 : ∀ j, j < s2 → rf (160 * y + j) = iZ (dg 16 V j)) (hcap : s1 + s2 ≤ 160) :
    ∀ (m i : Nat) (g : Nat → Int32), i + m = s1 → Ot g rf z → (∀ q, q < s1 + s2 → g (160 * z + q) = iZ (dg 16 (U % 2 ^ (16 * i) * V) q)) →
      ∃ M' : me_M, sm T_X7_multiply (48, [(0, .ref B), (1, .int (iZ z)), (2, .int (iZ x)), (3, .int (iZ y)), (4, .int (iZ ((s1 + s2 : Nat) : Int))), (5, .int (iZ i))], [], mA M (B + 1) 3040 g, 0, 0) = some (none, M') ∧ RG M' B (up reg z (U * V)) ∧ FM M M' B := by
  have cx := iZ_clampN (n := x) (by omega)
  intro m
  induction m with
  | zero =>
    intro i g hi hO hg
    have hi : i = s1 := by omega
    subst hi
    rw [Nat.mod_eq_of_lt hU] at hg
    have hlt : U * V < 2 ^ (16 * (i + s2)) := by
      rw [Nat.mul_add, Nat.pow_add]
      exact Nat.mul_lt_mul'' hU hV
    obtain ⟨M', f, P, F⟩ := trim_g h hR hz hcap hlt hg hO
    obtain ⟨⟨u, tl, h0⟩, h1, h2⟩ := h.a g
    refine ⟨M', ?_, P, F⟩
    rw [e_X7_multiply_48]
    simp only [h0, bS, g2, vF, h2, cx, hn1]
    rw [if_neg (nob (iZ_n0 (by omega)) (by omega)), if_pos (Int32.le_refl _), f]
    simp only [bS, cNn]
    exact c00
  | succ m ih =>
    intro i g hi hO hg
    have du := dg_16 U i
    have hRl : U % 2 ^ (16 * i) * V < 2 ^ (16 * i) * 2 ^ (16 * s2) := Nat.mul_lt_mul'' (Nat.mod_lt _ (Nat.two_pow_pos _)) hV
    have hT : U % 2 ^ (16 * i) * V / 2 ^ (16 * i) < 2 ^ (16 * s2) := by
      rw [Nat.div_lt_iff_lt_mul (Nat.two_pow_pos _), Nat.mul_comm (2 ^ (16 * s2))]
      exact hRl
    obtain ⟨⟨u, tl, h0⟩, h1, h2⟩ := h.a g
    obtain ⟨g', q1, q0, q2, q3, q4⟩ := mulM_in (n := s1 + s2) (i := i) (d := dg 16 U i) (T := U % 2 ^ (16 * i) * V / 2 ^ (16 * i)) h hz hx hy hzx hzy hn2 (by omega) hV hf2 (hf1 i (by omega)) du hT s2 0 g (by omega) hO (fun q _ hq => by rw [dg_dv]; exact hg (i + q) (by omega))
    rw [ca_0] at q1
    rw [e_X7_multiply_48]
    simp only [h0, bS, g2, vF, h2, cx, hn1]
    rw [if_neg (nob (iZ_n0 (by omega)) (by omega)), if_neg (by rw [iZ_le (by omega) (by omega)]; omega)]
    have q1' : sm T_X7_multiply (65, [(0, .ref B), (1, .int (iZ z)), (2, .int (iZ x)), (3, .int (iZ y)), (4, .int (iZ ((s1 + s2 : Nat) : Int))), (5, .int (iZ i)), (6, .int (0 : Int32)), (7, .int (0 : Int32))], [], mA M (B + 1) 3040 g, 0, 0) = _ := q1
    rw [q1']
    refine ih (i + 1) g' (by omega) q0 (fun q hq => ?_)
    rw [prod_R16]
    by_cases h3 : q < i
    · rw [dg_lo h3, q2 q (by omega), hg q hq]
      congr 2
      have := dg_lo (k := 16) (q := U % 2 ^ (16 * i) * V / 2 ^ (16 * i)) (r := U % 2 ^ (16 * i) * V % 2 ^ (16 * i)) h3
      rw [Nat.div_add_mod] at this
      exact this
    · obtain ⟨p, rfl⟩ : ∃ p, q = i + p := ⟨q - i, by omega⟩
      rw [dg_hi (Nat.mod_lt _ (Nat.two_pow_pos _))]
      by_cases h4 : p ≤ s2
      · exact q3 p (Nat.zero_le _) h4
      · rw [q4 (i + p) (by omega), hg (i + p) hq]
        congr 1
        rw [dg_zero (Nat.lt_of_lt_of_le hRl (by rw [← Nat.pow_add, ← Nat.mul_add]; exact pw_le 16 (by omega))), dg_zero]
        have hzz : dg 16 U i * V + U % 2 ^ (16 * i) * V / 2 ^ (16 * i) < 2 ^ (16 * (s2 + 1)) := by
          have e : 2 ^ (16 * (s2 + 1)) = 65536 * 2 ^ (16 * s2) := by rw [Nat.mul_add, Nat.pow_add, Nat.mul_comm]
          have h5 : dg 16 U i * V ≤ 65535 * V := Nat.mul_le_mul_right V (by omega)
          omega
        exact Nat.lt_of_lt_of_le hzz (pw_le 16 (by omega))
theorem mulM_z {M : me_M} {B z x y n : Nat} {rf nf : Nat → Int32} (h : Lo M B rf nf) (hz : z < 19) (hn : n ≤ 160) : ∀ (d k : Nat) (g : Nat → Int32), d + k = n → Ot g rf z → (∀ j, j < k → g (160 * z + j) = iZ 0) →
    ∃ g' : Nat → Int32, sm T_X7_multiply (18, [(0, .ref B), (1, .int (iZ z)), (2, .int (iZ x)), (3, .int (iZ y)), (4, .int (iZ n)), (5, .int (iZ k))], [], mA M (B + 1) 3040 g, 0, 0) = sm T_X7_multiply (48, [(0, .ref B), (1, .int (iZ z)), (2, .int (iZ x)), (3, .int (iZ y)), (4, .int (iZ n)), (5, .int (0 : Int32))], [], mA M (B + 1) 3040 g', 0, 0) ∧ Ot g' rf z ∧ ∀ j, j < n → g' (160 * z + j) = iZ 0 := by
  intro d
  induction d with
  | zero =>
    intro k g hd hO hg
    have e : k = n := by omega
    subst e
    refine ⟨g, ?_, hO, hg⟩
    rw [e_X7_multiply_18, if_pos (by rw [iZ_le (by omega) (by omega)]; omega)]
  | succ d ih =>
    intro k g hd hO hg
    obtain ⟨⟨u, tl, h0⟩, h1, h2⟩ := h.a g
    have eM : ∀ q, me_set (mA M (B + 1) 3040 g) (B + 1) (.inl (0, 3040, .inl q)) = mA M (B + 1) 3040 q := fun q => set_set _ _ _ _
    rw [e_X7_multiply_18, if_neg (by rw [iZ_le (by omega) (by omega)]; omega)]
    simp only [h0, bS, g1, vF, h1, ix16, eM]
    rw [iZ_clampN (by omega), if_neg (nob (iZ_n0 (by omega)) (by omega)), z_p1]
    refine ih (k + 1) _ (by omega) (hO.upd (by omega)) (fun j hj => ?_)
    by_cases e : j = k
    · subst e; rw [upd_s]; rfl
    · rw [upd_n _ _ (by omega)]; exact hg j (by omega)
theorem sz_le {v s n : Nat} (h : Sz 16 v s) (hv : v < 2 ^ (16 * n)) : s ≤ n := by
  rcases h.2 with k | k
  · omega
  · rcases Nat.lt_or_ge n s with q | q
    · have := pw_le 16 (show n ≤ s - 1 by omega); omega
    · exact q
theorem mul_g {M : me_M} {B z x y : Nat} {reg : Nat → Nat} (n1 n2 : Nat) (h : RG M B reg) (hz : z < 19) (hx : x < 19) (hy : y < 19) (hzx : z ≠ x) (hzy : z ≠ y) (hU : reg x < 2 ^ (16 * n1)) (hV : reg y < 2 ^ (16 * n2)) (hn : n1 + n2 ≤ 160) :
    ∃ M' : me_M, f_X7_multiply [.ref B, .int (iZ z), .int (iZ x), .int (iZ y)] M = some (none, M') ∧ RG M' B (up reg z (reg x * reg y)) ∧ FM M M' B := by
  obtain ⟨rf, nf, h, hR⟩ := h
  obtain ⟨s, a1, a2, a3, a4⟩ := hR x hx
  obtain ⟨s', c1, c2, c3, c4⟩ := hR y hy
  have k1 := sz_le a3 hU
  have k2 := sz_le c3 hV
  obtain ⟨g0, z1, z2, z3⟩ := mulM_z (x := x) (y := y) (n := s + s') h hz (by omega) (s + s') 0 rf (by omega) (Ot.refl _ _) (fun j hj => absurd hj (by omega))
  rw [mA_self h.2.1] at z1
  obtain ⟨M', f, P, F⟩ := mulM_out h hR hz hx hy hzx hzy a1 c1 a3.1 c3.1 a4 c4 (by omega) s 0 g0 (by omega) z2 (fun q hq => by rw [z3 q hq, Nat.mul_zero, Nat.pow_zero, Nat.mod_one, Nat.zero_mul, dg_of0]; rfl)
  refine ⟨M', ?_, P, F⟩
  obtain ⟨⟨u, tl, h0⟩, h1, h2⟩ := h
  rw [e_X7_multiply]
  simp only [h0, bS, g2, vF, h2]
  rw [iZ_clampN (by omega : x < 2147483648), iZ_clampN (by omega : y < 2147483648), if_neg (nob (iZ_n0 (by omega)) (by omega)), if_neg (nob (iZ_n0 (by omega)) (by omega)), a1, c1, z_pi]
  exact z1.trans f
/-! the greatest common divisor -/
theorem up_up (f : Nat → Nat) (i a b : Nat) : up (up f i a) i b = up f i b := by
  funext j
  by_cases h : j = i
  · subst h; rw [up_s, up_s]
  · rw [up_n _ _ h, up_n _ _ h, up_n _ _ h]
theorem RG.ext {M : me_M} {B : Nat} {reg reg' : Nat → Nat} (h : RG M B reg) (he : ∀ x, x < 19 → reg' x = reg x) : RG M B reg' := by
  obtain ⟨rf, nf, h, hR⟩ := h
  exact ⟨rf, nf, h, fun x hx => by rw [he x hx]; exact hR x hx⟩
theorem RG.n {M : me_M} {B x : Nat} {reg : Nat → Nat} (h : RG M B reg) (hx : x < 19) : ∃ (t : Value) (tl : List Value) (nf : Nat → Int32) (s : Nat), me_obj M 7 B = some (t :: .ref (B + 1) :: .ref (B + 2) :: .ref (B + 3) :: tl) ∧ me_int M 0 (B + 2) = some (19, nf) ∧ nf x = iZ s ∧ s ≤ 160 ∧ (s = 0 ↔ reg x = 0) := by
  obtain ⟨rf, nf, ⟨⟨t, tl, h0⟩, h1, h2⟩, hR⟩ := h
  obtain ⟨s, a1, a2, a3, a4⟩ := hR x hx
  refine ⟨t, tl, nf, s, h0, h2, a1, a2, ⟨fun e => ?_, fun e => ?_⟩⟩
  · subst e; have := a3.1; rw [Nat.mul_zero, Nat.pow_zero] at this; omega
  · rcases a3.2 with k | k
    · exact k
    · have := Nat.two_pow_pos (16 * (s - 1)); omega
/-- registers 14 and 15 alone may change, and the one that it goes into -/
theorem dvs_l {B z : Nat} (hz : z < 14) : ∀ (v u : Nat) (M : me_M) (reg : Nat → Nat) (x y : Nat), ((x = 14 ∧ y = 15) ∨ (x = 15 ∧ y = 14)) → RG M B reg → reg x = u → reg y = v →
    ∃ (M' : me_M) (reg' : Nat → Nat), sm T_X7_divisor (22, [(0, .ref B), (1, .int (iZ z)), (4, .int (iZ x)), (5, .int (iZ y))], [], M, 0, 0) = some (none, M') ∧ RG M' B reg' ∧ FM M M' B ∧ reg' z = Nat.gcd u v ∧ ∀ w, w ≠ z → w ≠ 14 → w ≠ 15 → reg' w = reg w := by
  intro v
  induction v using Nat.strongRecOn with
  | _ v ih =>
    intro u M reg x y hxy h hu hv
    have hx : x < 19 := by omega
    have hy : y < 19 := by omega
    obtain ⟨t, tl, nf, s, h0, h2, hn, hs, hs0⟩ := h.n hy
    rw [hv] at hs0
    rw [e_X7_divisor_22]
    simp only [h0, bS, g2, vF, h2]
    rw [iZ_clampN (by omega), if_neg (nob (iZ_n0 (by omega)) (by omega))]
    simp only [hn]
    by_cases e : v = 0
    · rw [if_pos (by rw [z_0, iZ_le (by omega) (by omega)]; have := hs0.mpr e; omega)]
      obtain ⟨M', f, P, F⟩ := copy_g (x := z) (y := x) h (by omega) hx (by omega)
      rw [f]
      simp only [bS, cNn]
      refine ⟨M', _, c00, P, F, by rw [up_s, hu, e, Nat.gcd_zero_right], fun w k1 _ _ => up_n _ _ k1⟩
    · have hs1 : s ≠ 0 := fun q => e (hs0.mp q)
      rw [if_neg (by rw [z_0, iZ_le (by omega) (by omega)]; omega)]
      obtain ⟨N, f, P, F⟩ := divide_g (q := 19) (qi := -1) h hx hy (by omega) (by omega) (by omega) (Or.inl ⟨rfl, rfl⟩) (by rw [hv]; omega)
      rw [f]
      simp only [bS, cNn]
      have ed : dvR reg x 19 (reg x) (reg y) = up reg x (u % v) := by unfold dvR; rw [if_neg (by omega), hu, hv]
      rw [ed] at P
      obtain ⟨M', reg', f', P', F', g1', g2'⟩ := ih (u % v) (Nat.mod_lt _ (by omega)) v N _ y x (by omega) P (by rw [up_n _ _ (by omega)]; exact hv) (up_s _ _ _)
      refine ⟨M', reg', f', P', F.trans F', ?_, fun w k1 k2 k3 => ?_⟩
      · rw [g1', Nat.gcd_comm u v, Nat.gcd_rec v u, Nat.gcd_comm]
      · rw [g2' w k1 k2 k3, up_n _ _ (by omega)]
theorem dvs_g {M : me_M} {B z a b : Nat} {reg : Nat → Nat} (h : RG M B reg) (hz : z < 14) (ha : a < 14) (hb : b < 14) :
    ∃ (M' : me_M) (reg' : Nat → Nat), f_X7_divisor [.ref B, .int (iZ z), .int (iZ a), .int (iZ b)] M = some (none, M') ∧ RG M' B reg' ∧ FM M M' B ∧ reg' z = Nat.gcd (reg a) (reg b) ∧ ∀ w, w ≠ z → w ≠ 14 → w ≠ 15 → reg' w = reg w := by
  obtain ⟨M1, f1, P1, F1⟩ := copy_g (x := 14) (y := a) h (by omega) (by omega) (by omega)
  obtain ⟨M2, f2, P2, F2⟩ := copy_g (x := 15) (y := b) P1 (by omega) (by omega) (by omega)
  obtain ⟨M', reg', f', P', F', g1', g2'⟩ := dvs_l hz _ _ M2 _ 14 15 (by omega) P2 rfl rfl
  refine ⟨M', reg', ?_, P', (F1.trans F2).trans F', ?_, fun w k1 k2 k3 => ?_⟩
  · rw [e_X7_divisor, h.i0]
    have f1' : f_X7_copy [.ref B, .int (14 : Int32), .int (iZ a)] M = _ := f1
    have f2' : f_X7_copy [.ref B, .int (15 : Int32), .int (iZ b)] M1 = _ := f2
    rw [f1']
    simp only [bS, cNn]
    rw [P1.i0, f2']
    simp only [bS, cNn]
    exact f'
  · rw [g1', up_n _ _ (by omega), up_s, up_s, up_n _ _ (by omega)]
  · rw [g2' w k1 k2 k3, up_n _ _ (by omega), up_n _ _ (by omega)]
