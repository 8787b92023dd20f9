theorem oo_ne {M : me_M} {c1 c2 q a : Nat} {fs gs : List Value} (h : me_obj M c1 q = some fs) (h2 : me_obj M c2 a = some gs) (hc : c1 ≠ c2) : q ≠ a := by
  intro e
  subst e
  have h3 := me_obj_eq h
  have h4 := me_obj_eq h2
  rw [h3] at h4
  injection h4 with h5
  injection h5 with h6
  injection h6 with h7
  exact hc h7
theorem ca_b {k U V i : Nat} {p q : Int} (hp : -2147483648 < p ∧ p < 2147483648) (hq : -2147483648 < q ∧ q < 2147483648) : -4294967296 ≤ ca k p q U V i ∧ ca k p q U V i ≤ 4294967296 := by
  unfold ca
  have hP : (0 : Int) < ((2 ^ (k * i) : Nat) : Int) := by exact_mod_cast Nat.two_pow_pos _
  have hu : ((U % 2 ^ (k * i) : Nat) : Int) < ((2 ^ (k * i) : Nat) : Int) := by exact_mod_cast Nat.mod_lt _ (Nat.two_pow_pos _)
  have hv : ((V % 2 ^ (k * i) : Nat) : Int) < ((2 ^ (k * i) : Nat) : Int) := by exact_mod_cast Nat.mod_lt _ (Nat.two_pow_pos _)
  have hu0 : (0 : Int) ≤ ((U % 2 ^ (k * i) : Nat) : Int) := Int.natCast_nonneg _
  have hv0 : (0 : Int) ≤ ((V % 2 ^ (k * i) : Nat) : Int) := Int.natCast_nonneg _
  generalize ((U % 2 ^ (k * i) : Nat) : Int) = u at *
  generalize ((V % 2 ^ (k * i) : Nat) : Int) = v at *
  generalize ((2 ^ (k * i) : Nat) : Int) = P at *
  have a1 : p * u ≤ 2147483648 * u := mul_hir hu0 (by omega)
  have a2 : -2147483648 * u ≤ p * u := mul_hir hu0 (by omega)
  have b1 : q * v ≤ 2147483648 * v := mul_hir hv0 (by omega)
  have b2 : -2147483648 * v ≤ q * v := mul_hir hv0 (by omega)
  constructor
  · rw [Int.le_ediv_iff_mul_le hP]
    omega
  · apply Int.le_of_lt_add_one
    rw [Int.ediv_lt_iff_lt_mul hP]
    omega
theorem mul_rg {p d : Int} (hp : -2147483648 < p ∧ p < 2147483648) (h0 : 0 ≤ d) (h1 : d < 2147483648) : -4611686014132420609 ≤ p * d ∧ p * d ≤ 4611686014132420609 := by
  have a1 : p * d ≤ 2147483647 * d := mul_hir h0 (by omega)
  have a2 : -2147483647 * d ≤ p * d := mul_hir h0 (by omega)
  omega
theorem leap_c {A B : Int} {X Y R i : Nat} (hA : -2147483648 < A ∧ A < 2147483648) (hB : -2147483648 < B ∧ B < 2147483648) (hR : A * X + B * Y = R) :
    (lZ (ca 31 A B X Y i) + (lZ A * lZ (dg 31 X i : Int) + lZ B * lZ (dg 31 Y i : Int))).toInt32 &&& 2147483647 = iZ (dg 31 R i) ∧ (lZ (ca 31 A B X Y i) + (lZ A * lZ (dg 31 X i : Int) + lZ B * lZ (dg 31 Y i : Int))) >>> ((31 : Int32).toInt64 &&& 63) = lZ (ca 31 A B X Y (i + 1)) := by
  have hc := ca_b (k := 31) (U := X) (V := Y) (i := i) hA hB
  have h1 := mul_rg hA (Int.natCast_nonneg (dg 31 X i)) (by have := dg_31 X i; omega)
  have h2 := mul_rg hB (Int.natCast_nonneg (dg 31 Y i)) (by have := dg_31 Y i; omega)
  have e : lZ (ca 31 A B X Y i) + (lZ A * lZ (dg 31 X i : Int) + lZ B * lZ (dg 31 Y i : Int)) = lZ (A * (dg 31 X i : Int) + B * (dg 31 Y i : Int) + ca 31 A B X Y i) := by
    rw [lZ_mul, lZ_mul, lZ_add, lZ_add]
    congr 1
    omega
  rw [e]
  have hd := ca_dg (k := 31) hR i
  have hs := ca_s 31 A B X Y i
  rw [show ((2 ^ 31 : Nat) : Int) = 2147483648 from rfl] at hd hs
  generalize A * (dg 31 X i : Int) = a at *
  generalize B * (dg 31 Y i : Int) = b at *
  generalize ca 31 A B X Y i = c at *
  constructor
  · rw [lZ_i, iZ_mask31, hd]
  · rw [lZ_sshr31 (by omega) (by omega), hs]
theorem h3 (a b c d : Value) (l : List Value) : (a :: b :: c :: d :: l)[3]? = some d := rfl
theorem h4 (a b c d e : Value) (l : List Value) : (a :: b :: c :: d :: e :: l)[4]? = some e := rfl
theorem h5 (a b c d e f : Value) (l : List Value) : (a :: b :: c :: d :: e :: f :: l)[5]? = some f := rfl
theorem h6 (a b c d e f g : Value) (l : List Value) : (a :: b :: c :: d :: e :: f :: g :: l)[6]? = some g := rfl
theorem mA_comm {M : me_M} {a b ca cb : Nat} {g h : Nat → Int32} (hne : a ≠ b) : mA (mA M a ca g) b cb h = mA (mA M b cb h) a ca g := set_comm M hne _ _
theorem leap_l {M : me_M} {E x y cx cy s t X Y R S : Nat} {u : Value} {A B C D : Int} {f fy : Nat → Int32} (ho : me_obj M 1 E = some [u, .ref x, .ref y, .long (lZ A), .long (lZ B), .long (lZ C), .long (lZ D)]) (hx : WS M x (x + 1) cx s X f) (hy : WS M y (y + 1) cy t Y fy) (hxy : x ≠ y) (hcy : s ≤ cy) (hL : Lp X Y A B C D) (hR : A * X + B * Y = R) (hS : C * X + D * Y = S) (hRb : R < 2 ^ (31 * s)) (hSb : S < 2 ^ (31 * s)) :
    ∀ (n i : Nat) (g h : Nat → Int32), i + n = s → (∀ j, j < i → g j = iZ (dg 31 R j)) → (∀ j, i ≤ j → g j = f j) → (∀ j, j < i → h j = iZ (dg 31 S j)) → (∀ j, i ≤ j → h j = fy j) →
      ∃ M' : me_M, sm T_X1_leap (16, [(0, .ref E), (1, .int (iZ s)), (2, .long (lZ (ca 31 A B X Y i))), (4, .long (lZ (ca 31 C D X Y i))), (6, .int (iZ i))], [], mA (mA M (y + 1) cy h) (x + 1) cx g, 0, 0) = some (none, M') ∧ Wh M' x cx R ∧ Wh M' y cy S ∧ M'.1 = M.1 ∧ ∀ p, p ≠ x → p ≠ x + 1 → p ≠ y → p ≠ y + 1 → M'.2 p = M.2 p := by
  have hEx := oi_ne ho hx.2.1
  have hEy := oi_ne ho hy.2.1
  have hEox := oo_ne ho hx.1 (by decide)
  have hEoy := oo_ne ho hy.1 (by decide)
  have hxx := oi_ne hx.1 hx.2.1
  have hxy1 := oi_ne hx.1 hy.2.1
  have hyx1 := oi_ne hy.1 hx.2.1
  have hyy := oi_ne hy.1 hy.2.1
  have hsz := hx.sz
  have hcx := hx.2.2.2.1
  have hcyb := hy.2.2.2.1
  have hsx := hx.2.2.1
  obtain ⟨⟨A1, A2, B1, B2, C1, C2, D1, D2⟩, _⟩ := hL
  intro n
  induction n with
  | zero =>
    intro i g h hi hg1 hg2 hh1 hh2
    have his : i = s := by omega
    subst his
    have oE : me_obj (mA (mA M (y + 1) cy h) (x + 1) cx g) 1 E = some [u, .ref x, .ref y, .long (lZ A), .long (lZ B), .long (lZ C), .long (lZ D)] := by rw [mA_o hEx, mA_o hEy]; exact ho
    have ox : me_obj (mA (mA M (y + 1) cy h) (x + 1) cx g) 5 x = some [.ref (x + 1), .int (iZ i)] := by rw [mA_o hxx, mA_o hxy1]; exact hx.1
    have oy : me_obj (mA (mA M (y + 1) cy h) (x + 1) cx g) 5 y = some [.ref (y + 1), .int (iZ t)] := by rw [mA_o hyx1, mA_o hyy]; exact hy.1
    have ix : me_int (mA (mA M (y + 1) cy h) (x + 1) cx g) 0 (x + 1) = some (cx, g) := mA_i _ _ _ _
    have iy : me_int (mA (mA M (y + 1) cy h) (x + 1) cx g) 0 (y + 1) = some (cy, h) := by rw [mA_ne (by omega), mA_i]
    have fr : ∀ p, p ≠ x + 1 → p ≠ y + 1 → (mA (mA M (y + 1) cy h) (x + 1) cx g).2 p = M.2 p := fun p h1 h2 => (set_ne h1).trans (set_ne h2)
    have f1 : (mA (mA M (y + 1) cy h) (x + 1) cx g).1 = M.1 := rfl
    generalize mA (mA M (y + 1) cy h) (x + 1) cx g = N at *
    rw [e_X1_leap_16, if_pos ((iZ_le (by omega) (by omega)).mpr (by omega))]
    simp only [oE, ox, bS, g1, vR, l2, s21]
    rw [mo_ne _ _ _ _ _ hEox, oE]
    simp only [bS, h2, vR]
    rw [mo_ne _ _ _ _ _ (Ne.symm hxy), oy]
    simp only [bS, l2, s21]
    rw [mo_ne _ _ _ _ _ hEoy, mo_ne _ _ _ _ _ hEox, oE]
    simp only [bS, g1, vR]
    rw [mo_ne _ _ _ _ _ hxy, mo_set]
    simp only [bS]
    obtain ⟨s1, r1, r2, r3⟩ := trim_s (M := me_set (me_set N x (.inr (5, [.ref (x + 1), .int (iZ i)]))) y (.inr (5, [.ref (y + 1), .int (iZ i)]))) (w := x) (a := x + 1) (cap := cx) (s := i) (v := R) (f := g) hcx (by rw [mo_ne _ _ _ _ _ hxy, mo_set]) (by rw [mi_ne _ _ _ _ _ (Ne.symm hyx1), mi_ne _ _ _ _ _ (Ne.symm hxx)]; exact ix) hsx hRb hg1
    rw [r1]
    simp only [bS, cNn]
    rw [mo_ne _ _ _ _ _ hEox, mo_ne _ _ _ _ _ hEoy, mo_ne _ _ _ _ _ hEox, oE]
    simp only [bS, h2, vR]
    rw [mo_ne _ _ _ _ _ (Ne.symm hxy), mo_set]
    simp only [bS]
    obtain ⟨s2, q1, q2, q3⟩ := trim_s (M := me_set (me_set (me_set N x (.inr (5, [.ref (x + 1), .int (iZ i)]))) y (.inr (5, [.ref (y + 1), .int (iZ i)]))) x (.inr (5, [.ref (x + 1), .int (iZ s1)]))) (w := y) (a := y + 1) (cap := cy) (s := i) (v := S) (f := h) hcyb (by rw [mo_ne _ _ _ _ _ (Ne.symm hxy), mo_set]) (by rw [mi_ne _ _ _ _ _ (Ne.symm hxy1), mi_ne _ _ _ _ _ (Ne.symm hyy), mi_ne _ _ _ _ _ (Ne.symm hxy1)]; exact iy) hcy hSb hh1
    rw [q1]
    simp only [bS, cNn]
    rw [e_X1_leap_161, c00]
    refine ⟨_, rfl, ⟨s1, g, ?_, ?_, by omega, hcx, r3, fun j hj => hg1 j (by omega)⟩, ⟨s2, h, ?_, ?_, by omega, hcyb, q3, fun j hj => hh1 j (by omega)⟩, f1, fun p p1 p2 p3 p4 => ?_⟩
    · rw [mo_ne _ _ _ _ _ hxy, mo_set]
    · rw [mi_ne _ _ _ _ _ (Ne.symm hyx1), mi_ne _ _ _ _ _ (Ne.symm hxx), mi_ne _ _ _ _ _ (Ne.symm hyx1), mi_ne _ _ _ _ _ (Ne.symm hxx)]; exact ix
    · rw [mo_set]
    · rw [mi_ne _ _ _ _ _ (Ne.symm hyy), mi_ne _ _ _ _ _ (Ne.symm hxy1), mi_ne _ _ _ _ _ (Ne.symm hyy), mi_ne _ _ _ _ _ (Ne.symm hxy1)]; exact iy
    · rw [set_ne p3, set_ne p1, set_ne p3, set_ne p1]; exact fr p p2 p4
  | succ n ih =>
    intro i g h hi hg1 hg2 hh1 hh2
    have hcl := iZ_clampN (n := i) (by omega)
    have hn0 := iZ_n0 (n := i) (by omega)
    have hm := mA_comm (M := M) (a := y + 1) (b := x + 1) (ca := cy) (cb := cx) (g := h) (h := g) (by omega)
    have lx := limb_mA (M := mA M (y + 1) cy h) (x := x) (la := x + 1) (cap := cx) (f := f) (g := g) (i := i) (hx.of (set_ne hxy1) (set_ne (by omega))) (by rw [mA_ne (by omega)]; exact hx.2.1) hg2 (by omega)
    have ly := limb_mA (M := mA M (x + 1) cx g) (x := y) (la := y + 1) (cap := cy) (f := fy) (g := h) (i := i) (hy.of (set_ne hyx1) (set_ne (by omega))) (by rw [mA_ne (by omega)]; exact hy.2.1) hh2 (by omega)
    rw [← hm] at ly
    have oE : me_obj (mA (mA M (y + 1) cy h) (x + 1) cx g) 1 E = some [u, .ref x, .ref y, .long (lZ A), .long (lZ B), .long (lZ C), .long (lZ D)] := by rw [mA_o hEx, mA_o hEy]; exact ho
    have ox : me_obj (mA (mA M (y + 1) cy h) (x + 1) cx g) 5 x = some [.ref (x + 1), .int (iZ s)] := by rw [mA_o hxx, mA_o hxy1]; exact hx.1
    have oy : me_obj (mA (mA M (y + 1) cy h) (x + 1) cx g) 5 y = some [.ref (y + 1), .int (iZ t)] := by rw [mA_o hyx1, mA_o hyy]; exact hy.1
    obtain ⟨k1, k2⟩ := leap_c (A := A) (B := B) (X := X) (Y := Y) (R := R) (i := i) ⟨A1, A2⟩ ⟨B1, B2⟩ hR
    obtain ⟨k3, k4⟩ := leap_c (A := C) (B := D) (X := X) (Y := Y) (R := S) (i := i) ⟨C1, C2⟩ ⟨D1, D2⟩ hS
    rw [e_X1_leap_16, if_neg (by rw [iZ_le (by omega) (by omega)]; omega)]
    simp only [oE, ox, oy, bS, g0, g1, h2, h3, h4, h5, h6, vR, vL, lx, ly, mA_i, hcl, k1, k3]
    rw [if_neg (nob hn0 (by omega)), mA_A]
    have oE2 : me_obj (mA (mA M (y + 1) cy h) (x + 1) cx (upd g i (iZ (dg 31 R i)))) 1 E = some [u, .ref x, .ref y, .long (lZ A), .long (lZ B), .long (lZ C), .long (lZ D)] := by rw [mA_o hEx, mA_o hEy]; exact ho
    have oy2 : me_obj (mA (mA M (y + 1) cy h) (x + 1) cx (upd g i (iZ (dg 31 R i)))) 5 y = some [.ref (y + 1), .int (iZ t)] := by rw [mA_o hyx1, mA_o hyy]; exact hy.1
    have iy2 : me_int (mA (mA M (y + 1) cy h) (x + 1) cx (upd g i (iZ (dg 31 R i)))) 0 (y + 1) = some (cy, h) := by rw [mA_ne (by omega), mA_i]
    simp only [oE2, oy2, iy2, bS, g0, h2, vR]
    rw [if_neg (nob hn0 (by omega)), e_X1_leap_113, k2, k4, z_p1]
    have hm2 : me_set (mA (mA M (y + 1) cy h) (x + 1) cx (upd g i (iZ (dg 31 R i)))) (y + 1) (.inl (0, cy, .inl (upd h i (iZ (dg 31 S i))))) = mA (mA M (y + 1) cy (upd h i (iZ (dg 31 S i)))) (x + 1) cx (upd g i (iZ (dg 31 R i))) := by
      unfold mA
      rw [set_comm _ (by omega), set_set]
    rw [hm2]
    refine ih (i + 1) _ _ (by omega) (fun j hj => ?_) (fun j hj => ?_) (fun j hj => ?_) (fun j hj => ?_)
    · by_cases hji : j = i
      · rw [hji, upd_s]
      · rw [upd_n _ _ hji]; exact hg1 j (by omega)
    · rw [upd_n _ _ (by omega)]; exact hg2 j (by omega)
    · by_cases hji : j = i
      · rw [hji, upd_s]
      · rw [upd_n _ _ hji]; exact hh1 j (by omega)
    · rw [upd_n _ _ (by omega)]; exact hh2 j (by omega)
theorem leap_s {M : me_M} {E x y cx cy X Y R S m : Nat} {u : Value} {A B C D : Int} (ho : me_obj M 1 E = some [u, .ref x, .ref y, .long (lZ A), .long (lZ B), .long (lZ C), .long (lZ D)]) (hx : Wh M x cx X) (hy : Wh M y cy Y) (hxy : x ≠ y) (hX : X < 2 ^ (31 * m)) (hm : m ≤ cy) (hL : Lp X Y A B C D) (hR : A * X + B * Y = R) (hS : C * X + D * Y = S) :
    ∃ M' : me_M, f_X1_leap [.ref E] M = some (none, M') ∧ Wh M' x cx R ∧ Wh M' y cy S ∧ M'.1 = M.1 ∧ ∀ p, p ≠ x → p ≠ x + 1 → p ≠ y → p ≠ y + 1 → M'.2 p = M.2 p := by
  obtain ⟨s, f, hx⟩ := hx
  obtain ⟨t, fy, hy⟩ := hy
  have hsm : s ≤ m := hx.2.2.2.2.1.le hX
  have hXs := hx.2.2.2.2.1.1
  have hRX : R ≤ X := by
    have := hL.2.2.2.1
    rw [hR] at this
    omega
  have hSR : S < R := by
    have := hL.2.2.1
    rw [hR, hS] at this
    omega
  have key := leap_l ho hx hy hxy (by omega) hL hR hS (by omega) (by omega) s 0 f fy (by omega) (fun j hj => by omega) (fun j _ => rfl) (fun j hj => by omega) (fun j _ => rfl)
  rw [mA_self hy.2.1, mA_self hx.2.1, ca_0, ca_0] at key
  rw [e_X1_leap]
  simp only [ho, bS, g1, vR, vI, hx.1]
  exact key
