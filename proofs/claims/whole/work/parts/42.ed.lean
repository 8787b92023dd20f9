/-! the acts of Wholes, told of the numbers alone -/
theorem copyW {M : me_M} {w cap v0 x c v m : Nat} (hw : Wh M w cap v0) (hx : Wh M x c v) (hv : v < 2 ^ (31 * m)) (hm : m ≤ cap) : ∃ M' : me_M, f_X5_copy [.ref w, .ref x] M = some (none, M') ∧ Wh M' w cap v ∧ Fr M M' w := by
  obtain ⟨s0, f0, hw⟩ := hw
  obtain ⟨s, f, hx⟩ := hx
  obtain ⟨h1, h2⟩ := copy_s hx hw.1 hw.2.1 hw.2.2.2.1 (Nat.le_trans (hx.2.2.2.2.1.le hv) hm)
  exact ⟨_, h1, ⟨_, _, h2⟩, Fr_W _ _ _ _ _⟩
theorem longW {M : me_M} {w cap v0 V : Nat} (hw : Wh M w cap v0) (h3 : 3 ≤ cap) (hV : V < 18446744073709551616) : ∃ M' : me_M, f_X5_setLong [.ref w, .long (lZ V)] M = some (none, M') ∧ Wh M' w cap V ∧ Fr M M' w := by
  obtain ⟨s0, f0, hw⟩ := hw
  obtain ⟨s', g', h1, h2⟩ := setLong_s hw.1 hw.2.1 hw.2.2.2.1 h3 hV
  exact ⟨_, h1, ⟨_, _, h2⟩, Fr_W _ _ _ _ _⟩
theorem sumW {M : me_M} {w cap v0 x1 c1 U x2 c2 V m : Nat} (hw : Wh M w cap v0) (h1 : Wh M x1 c1 U) (h2 : Wh M x2 c2 V) (hU : U < 2 ^ (31 * m)) (hV : V < 2 ^ (31 * m)) (hm : m < cap) : ∃ M' : me_M, f_X5_setSum [.ref w, .ref x1, .ref x2] M = some (none, M') ∧ Wh M' w cap (U + V) ∧ Fr M M' w := by
  obtain ⟨s0, f0, hw⟩ := hw
  obtain ⟨s1, f1, h1⟩ := h1
  obtain ⟨s2, f2, h2⟩ := h2
  obtain ⟨s', g', k1, k2⟩ := setSum_s hw.1 hw.2.1 hw.2.2.2.1 h1 h2 (Nat.lt_of_le_of_lt (h1.2.2.2.2.1.le hU) hm) (Nat.lt_of_le_of_lt (h2.2.2.2.2.1.le hV) hm)
  exact ⟨_, k1, ⟨_, _, k2⟩, Fr_W _ _ _ _ _⟩
theorem diffW {M : me_M} {w cap v0 x1 c1 U x2 c2 V m : Nat} (hw : Wh M w cap v0) (h1 : Wh M x1 c1 U) (h2 : Wh M x2 c2 V) (hU : U < 2 ^ (31 * m)) (hm : m ≤ cap) (hUV : V ≤ U) : ∃ M' : me_M, f_X5_setDifference [.ref w, .ref x1, .ref x2] M = some (none, M') ∧ Wh M' w cap (U - V) ∧ Fr M M' w := by
  obtain ⟨s0, f0, hw⟩ := hw
  obtain ⟨s1, f1, h1⟩ := h1
  obtain ⟨s2, f2, h2⟩ := h2
  obtain ⟨s', g', k1, k2⟩ := setDiff_s hw.1 hw.2.1 hw.2.2.2.1 h1 h2 (Nat.le_trans (h1.2.2.2.2.1.le hU) hm) hUV
  exact ⟨_, k1, ⟨_, _, k2⟩, Fr_W _ _ _ _ _⟩
theorem prodW {M : me_M} {w cap v0 x1 c1 U x2 c2 V m1 m2 : Nat} (hw : Wh M w cap v0) (h1 : Wh M x1 c1 U) (h2 : Wh M x2 c2 V) (hx1 : x1 ≠ w) (hx2 : x2 ≠ w) (hU : U < 2 ^ (31 * m1)) (hV : V < 2 ^ (31 * m2)) (hm : m1 + m2 ≤ cap) : ∃ M' : me_M, f_X5_setProduct [.ref w, .ref x1, .ref x2] M = some (none, M') ∧ Wh M' w cap (U * V) ∧ Fr M M' w := by
  obtain ⟨s0, f0, hw⟩ := hw
  obtain ⟨s1, f1, h1⟩ := h1
  obtain ⟨s2, f2, h2⟩ := h2
  have e1 := h1.2.2.2.2.1.le hU
  have e2 := h2.2.2.2.2.1.le hV
  obtain ⟨s', g', k1, k2⟩ := setProd_s hw.1 hw.2.1 hw.2.2.2.1 h1 h2 hx1 hx2 (by omega) (by omega) (by omega)
  exact ⟨_, k1, ⟨_, _, k2⟩, Fr_W _ _ _ _ _⟩
theorem growW {M : me_M} {w cap v F m : Nat} (hw : Wh M w cap v) (hv : v < 2 ^ (31 * m)) (hm : m < cap) (hF : F < 2147483648) : ∃ M' : me_M, f_X5_grow [.ref w, .int (iZ F)] M = some (none, M') ∧ Wh M' w cap (F * v) ∧ Fr M M' w := by
  obtain ⟨s, f, hw⟩ := hw
  obtain ⟨s', g', k1, k2⟩ := grow_s hw (Nat.lt_of_le_of_lt (hw.2.2.2.2.1.le hv) hm) hF
  exact ⟨_, k1, ⟨_, _, k2⟩, Fr_W _ _ _ _ _⟩
theorem shrinkW {M : me_M} {w cap v d : Nat} (hw : Wh M w cap v) (hd : 0 < d) (hd2 : d < 2147483648) : ∃ M' : me_M, f_X5_shrink [.ref w, .int (iZ d)] M = some (some (.int (iZ ((v % d : Nat) : Int))), M') ∧ Wh M' w cap (v / d) ∧ Fr M M' w := by
  obtain ⟨s, f, hw⟩ := hw
  obtain ⟨s', g', k1, k2⟩ := shrink_s hw hd hd2
  exact ⟨_, k1, ⟨_, _, k2⟩, Fr_W _ _ _ _ _⟩
theorem cmpW {M : me_M} {x1 c1 U x2 c2 V : Nat} (h1 : Wh M x1 c1 U) (h2 : Wh M x2 c2 V) : f_X5_compareWith [.ref x1, .ref x2] M = some (some (.int (cmpN U V)), M) := by
  obtain ⟨s1, f1, h1⟩ := h1
  obtain ⟨s2, f2, h2⟩ := h2
  exact compare_s h1 h2
theorem oneW {M : me_M} {w c v : Nat} (h : Wh M w c v) : f_X5_isOne [.ref w] M = some (some (.int (if v = 1 then 1 else 0)), M) := by
  obtain ⟨s, f, h⟩ := h
  exact isOne_s h
theorem oddW {M : me_M} {w c v : Nat} (h : Wh M w c v) : f_X5_isOdd [.ref w] M = some (some (.int (if v % 2 = 1 then 1 else 0)), M) := by
  obtain ⟨s, f, h⟩ := h
  exact isOdd_s h
theorem lenW {M : me_M} {w c v : Nat} (h : Wh M w c v) : f_X5_length [.ref w] M = some (some (.int (iZ (bl v))), M) := by
  obtain ⟨s, f, h⟩ := h
  exact length_s h
theorem lowW {M : me_M} {w c v : Nat} (h : Wh M w c v) : f_X5_lowLong [.ref w] M = some (some (.long (lZ v)), M) := by
  obtain ⟨s, f, h⟩ := h
  exact lowLong_s h
/-- the object, and how its size tells of the number -/
theorem Wh.obj {M : me_M} {w c v : Nat} (h : Wh M w c v) : ∃ s : Nat, me_obj M 5 w = some [.ref (w + 1), .int (iZ s)] ∧ s < 1000 ∧ (s = 0 ↔ v = 0) ∧ (s ≤ 2 ↔ v < 4611686018427387904) := by
  obtain ⟨s, f, h⟩ := h
  refine ⟨s, h.1, h.sz, ⟨fun e => ?_, fun e => ?_⟩, ⟨fun e => ?_, fun e => ?_⟩⟩
  · subst e
    exact h.2.2.2.2.1.z
  · have := h.2.2.2.2.1.le (m := 0) (by rw [e]; decide)
    omega
  · exact h.lt e
  · exact h.2.2.2.2.1.le (m := 2) e
theorem Wh.ne {M : me_M} {w c v x d u : Nat} (h : Wh M w c v) (h2 : Wh M x d u) : w ≠ x + 1 := by
  obtain ⟨s, f, h⟩ := h
  obtain ⟨s2, f2, h2⟩ := h2
  exact oi_ne h.1 h2.2.1
theorem Wh.ne1 {M : me_M} {w c v E ci : Nat} {fs : List Value} (h : Wh M w c v) (h2 : me_obj M ci E = some fs) : E ≠ w + 1 := by
  obtain ⟨s, f, h⟩ := h
  exact oi_ne h2 h.2.1
theorem Wh.ne2 {M : me_M} {w c v E ci : Nat} {fs : List Value} (h : Wh M w c v) (h2 : me_obj M ci E = some fs) (hc : ci ≠ 5) : E ≠ w := by
  obtain ⟨s, f, h⟩ := h
  exact oo_ne h2 h.1 hc
/-- another Whole is as it was -/
theorem Wh.fr {M M' : me_M} {w c v x d u : Nat} (h : Wh M x d u) (hw : Wh M w c v) (hne : x ≠ w) (hF : Fr M M' w) : Wh M' x d u := h.of (hF.2 x hne (h.ne hw)) (hF.2 (x + 1) (Ne.symm (hw.ne h)) (by omega))
theorem common_l {M : me_M} : ∀ (n i p q : Nat), i + n = 10000 → q ≤ p → p * q < 2 ^ n → p < 4611686018427387904 → sm T_X1_commonOfLongs (9, [(4, .long (lZ p)), (6, .long (lZ q)), (8, .int (iZ i))], [], M, 0, 0) = some (some (.long (lZ ((Nat.gcd p q : Nat) : Int))), M) := by
  intro n
  induction n with
  | zero =>
    intro i p q hi hqp hpq hp
    have hq : q = 0 := by
      apply Nat.eq_zero_of_not_pos
      intro h
      have := Nat.mul_pos (show 0 < p by omega) h
      omega
    rw [e_X1_commonOfLongs_9, if_pos (by rw [show i = 10000 by omega]; decide), c00, hq, Nat.gcd_zero_right]
  | succ n ih =>
    intro i p q hi hqp hpq hp
    rw [e_X1_commonOfLongs_9, if_neg (by rw [show (10000 : Int32) = iZ 10000 from rfl, iZ_le (by omega) (by omega)]; omega)]
    by_cases hq : q = 0
    · rw [if_pos (lgc0.mpr (by rw [hq]; rfl)), c00, hq, Nat.gcd_zero_right]
    · have hz : ¬ lZ (q : Int) = 0 := by rw [l0z, lZ_eq (by omega) (by omega)]; omega
      rw [if_neg (by rw [lgc0]; exact hz), if_neg hz, lZ_rem (by omega) (by omega) (by omega), z_p1, Nat.gcd_comm, Nat.gcd_rec, Nat.gcd_comm]
      have hm := Nat.mod_lt p (show 0 < q by omega)
      have hd := Nat.div_add_mod p q
      have hd2 : q ≤ q * (p / q) := Nat.le_mul_of_pos_right _ (Nat.div_pos hqp (by omega))
      refine ih (i + 1) q (p % q) (by omega) (Nat.le_of_lt hm) ?_ (by omega)
      have h2 : q * (2 * (p % q)) ≤ q * p := Nat.mul_le_mul_left q (by omega)
      have h3 : q * (2 * (p % q)) = 2 * (q * (p % q)) := by grind
      have h4 : 2 ^ (n + 1) = 2 * 2 ^ n := by rw [Nat.pow_succ, Nat.mul_comm]
      have h5 : q * p = p * q := Nat.mul_comm _ _
      omega
theorem pw_big {a k : Nat} (h : a < 2 ^ k) (hk : k ≤ 10000) : a < 2 ^ 10000 := Nat.lt_of_lt_of_le h (Nat.pow_le_pow_right (by decide) hk)
theorem common_s {M : me_M} {p q : Nat} (hqp : q ≤ p) (hp : p < 4611686018427387904) : f_X1_commonOfLongs [.long (lZ p), .long (lZ q)] M = some (some (.long (lZ ((Nat.gcd p q : Nat) : Int))), M) := by
  rw [e_X1_commonOfLongs]
  refine common_l 10000 0 p q (by omega) hqp (pw_big (k := 124) ?_ (by omega)) hp
  refine Nat.lt_of_lt_of_le (Nat.mul_lt_mul_of_lt_of_le hp (Nat.le_of_lt (Nat.lt_of_le_of_lt hqp hp)) (by decide)) ?_
  decide
