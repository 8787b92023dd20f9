/-! exact: acts on longs -/
theorem ng_b (x : Int64) : x < 0 ↔ x.toBitVec.msb = true := by
  rw [Int64.lt_iff_toInt_lt, BitVec.msb_eq_toInt, decide_eq_true_iff, show (0 : Int64).toInt = 0 from by decide]
  exact Iff.rfl
theorem ng_x (x y : Int64) : x ^^^ y < 0 ↔ ¬ (x < 0 ↔ y < 0) := by
  rw [ng_b, ng_b, ng_b, Int64.toBitVec_xor, BitVec.msb_xor]
  cases x.toBitVec.msb <;> cases y.toBitVec.msb <;> decide
theorem ng_a (x y : Int64) : x &&& y < 0 ↔ (x < 0 ∧ y < 0) := by
  rw [ng_b, ng_b, ng_b, Int64.toBitVec_and, BitVec.msb_and]
  cases x.toBitVec.msb <;> cases y.toBitVec.msb <;> decide
theorem l_rep (x : Int64) : ∃ X : Int, x = lZ X ∧ -9223372036854775808 ≤ X ∧ X < 9223372036854775808 ∧ x.toInt = X := ⟨x.toInt, (lZ_self x).symm, Int64.le_toInt x, Int64.toInt_lt x, rfl⟩
theorem lc_n {x : Int64} : 0 ≤ lg_cmp x (0 : Int64) ↔ ¬ x < 0 := by
  obtain ⟨X, rfl, h1, h2, _⟩ := l_rep x
  rw [lZ_0, lc_ge0 ⟨h1, h2⟩ (by omega), lZ_lt ⟨h1, h2⟩ (by omega)]
  omega
theorem mn_s (a : Int64) : (a < 0 ∧ -a < 0) ↔ a = -9223372036854775808 := by
  obtain ⟨X, rfl, h1, h2, _⟩ := l_rep a
  by_cases hX : X = -9223372036854775808
  · subst hX
    decide
  · rw [lZ_neg, lZ_0, lZ_lt ⟨h1, h2⟩ (by omega), lZ_lt (by omega) (by omega), show (-9223372036854775808 : Int64) = lZ (-9223372036854775808) from rfl, lZ_eq ⟨h1, h2⟩ (by omega)]
    omega
def ftx (p : Prop) [Decidable p] (v : Int64) : Int32 × Int64 := if p then (0, v) else (2, 0)
def exR (t : Int32 × Int64) : Value := if t.1 = 0 then .long t.2 else if t.1 = 1 then .float 1 else .float 0
theorem ex_y {p : Prop} [Decidable p] {v : Int64} (h : p) : exR (ftx p v) = .long v := by
  unfold exR ftx
  rw [if_pos h]
  exact if_pos rfl
theorem ex_n {p : Prop} [Decidable p] {v : Int64} (h : ¬ p) : exR (ftx p v) = .float 0 := by
  unfold exR ftx
  rw [if_neg h]
  exact (if_neg (by decide)).trans (if_neg (by decide))
theorem ex_0 {v : Int64} : exR (0, v) = .long v := if_pos rfl
theorem ftx_c {p q : Prop} [Decidable p] [Decidable q] {v : Int64} (h : p ↔ q) : ftx p v = ftx q v := by
  unfold ftx
  by_cases hp : p
  · rw [if_pos hp, if_pos (h.mp hp)]
  · rw [if_neg hp, if_neg (fun k => hp (h.mpr k))]
theorem exSum_s {M : me_M} {a b : Int64} : f_X6_exactSum [.long a, .long b] M = some (some (exR (ftx (¬ (a < 0 ↔ b < 0) ∨ (a + b < 0 ↔ a < 0)) (a + b))), M) := by
  rw [e_X6_exactSum]
  by_cases h : ¬ (a < 0 ↔ b < 0) ∨ (a + b < 0 ↔ a < 0)
  · rw [ex_y h, if_pos (lc_n.mpr (fun k => by
      rw [ng_a, ng_x, ng_x] at k
      by_cases h1 : a < 0 <;> by_cases h2 : b < 0 <;> by_cases h3 : a + b < 0 <;> simp_all)), if_pos (by omega)]
  · rw [ex_n h, if_neg (fun k => lc_n.mp k (by
      rw [ng_a, ng_x, ng_x]
      by_cases h1 : a < 0 <;> by_cases h2 : b < 0 <;> by_cases h3 : a + b < 0 <;> simp_all))]
theorem exDif_s {M : me_M} {a b : Int64} : f_X6_exactDifference [.long a, .long b] M = some (some (exR (ftx ((a < 0 ↔ b < 0) ∨ (a - b < 0 ↔ a < 0)) (a - b))), M) := by
  rw [e_X6_exactDifference]
  by_cases h : (a < 0 ↔ b < 0) ∨ (a - b < 0 ↔ a < 0)
  · rw [ex_y h, if_pos (lc_n.mpr (fun k => by
      rw [ng_a, ng_x, ng_x] at k
      by_cases h1 : a < 0 <;> by_cases h2 : b < 0 <;> by_cases h3 : a - b < 0 <;> simp_all)), if_pos (by omega)]
  · rw [ex_n h, if_neg (fun k => lc_n.mp k (by
      rw [ng_a, ng_x, ng_x]
      by_cases h1 : a < 0 <;> by_cases h2 : b < 0 <;> by_cases h3 : a - b < 0 <;> simp_all))]
theorem exNeg_s {M : me_M} {a : Int64} : f_X6_exactDifference [.long (0 : Int64), .long a] M = some (some (exR (ftx (a ≠ -9223372036854775808) (-a))), M) := by
  rw [exDif_s, show (0 : Int64) - a = -a from by simp]
  congr 3
  refine congrArg exR (ftx_c ?_)
  rw [Ne, ← mn_s]
  have h0 : ¬ (0 : Int64) < 0 := by decide
  by_cases h1 : a < 0 <;> by_cases h2 : -a < 0 <;> simp_all
theorem exPro_s {M : me_M} {a b : Int64} : f_X6_exactProduct [.long a, .long b] M = some (some (exR (ftx (a = 0 ∨ (¬ (a = -1 ∧ b = -9223372036854775808) ∧ a * b / a = b)) (a * b))), M) := by
  rw [e_X6_exactProduct]
  by_cases h0 : a = 0
  · rw [if_pos (lgc0.mpr h0), ex_y (Or.inl h0), h0, if_pos (by omega), Int64.zero_mul]
  · rw [if_neg (fun k => h0 (lgc0.mp k)), if_neg h0]
    by_cases h1 : a * b / a = b
    · rw [if_pos (lgc0.mpr h1)]
      by_cases h2 : a = -1
      · rw [if_pos (lgc0.mpr h2)]
        by_cases h3 : b = -9223372036854775808
        · rw [if_pos (lgc0.mpr h3), ex_n (fun k => k.elim h0 (fun k => k.1 ⟨h2, h3⟩))]
        · rw [if_neg (fun k => h3 (lgc0.mp k)), if_pos (by omega), ex_y (Or.inr ⟨fun k => h3 k.2, h1⟩)]
      · rw [if_neg (fun k => h2 (lgc0.mp k)), if_pos (by omega), ex_y (Or.inr ⟨fun k => h2 k.1, h1⟩)]
    · rw [if_neg (fun k => h1 (lgc0.mp k)), ex_n (fun k => k.elim h0 (fun k => h1 k.2))]
theorem exInt_s {M : me_M} {a : Int64} : f_X6_exactInt [.long a] M = some (some (exR (ftx (a.toInt32.toInt64 = a) a)), M) := by
  rw [e_X6_exactInt]
  by_cases h : a.toInt32.toInt64 = a
  · rw [if_pos (lgc0.mpr h.symm), if_pos (by omega), ex_y h]
  · rw [if_neg (fun k => h (lgc0.mp k).symm), ex_n h]
/-! quotients -/
abbrev rmd (a b : Int64) : Int64 := a - a / b * b
abbrev dwn (a b : Int64) : Prop := rmd a b ≠ 0 ∧ ¬ (rmd a b < 0 ↔ b < 0)
def exG (op : Int32) (a b : Int64) : Int64 := if op = 3 then a / b else if op = 4 then rmd a b else if op = 5 then (if dwn a b then a / b - 1 else a / b) else (if dwn a b then rmd a b + b else rmd a b)
def exD (op : Int32) (a b : Int64) : Int32 × Int64 := if b = 0 then (2, 0) else if b = -1 then (if op = 4 ∨ op = 6 then (0, 0) else ftx (a ≠ -9223372036854775808) (-a)) else (0, exG op a b)
theorem exD_0 {op : Int32} {a b : Int64} (h : b = 0) : exD op a b = (2, 0) := if_pos h
theorem exD_m {op : Int32} {a b : Int64} (h0 : ¬ b = 0) (h : b = -1) : exD op a b = if op = 4 ∨ op = 6 then (0, 0) else ftx (a ≠ -9223372036854775808) (-a) := (if_neg h0).trans (if_pos h)
theorem exD_g {op : Int32} {a b : Int64} (h0 : ¬ b = 0) (h : ¬ b = -1) : exD op a b = (0, exG op a b) := (if_neg h0).trans (if_neg h)
theorem dv_m1 (a : Int64) : a / (-1) = -a := by
  rw [← Int64.toInt_inj, Int64.toInt_div, show (-1 : Int64).toInt = -1 from by decide, Int.tdiv_neg, Int.tdiv_one, Int64.toInt_neg]
theorem rm_m1 (a : Int64) : rmd a (-1) = 0 := by
  unfold rmd
  rw [dv_m1]
  obtain ⟨X, rfl, _⟩ := l_rep a
  rw [show (-1 : Int64) = lZ (-1) from rfl, lZ_neg, lZ_mul, lZ_sub, show X - -X * -1 = 0 by omega]
  rfl
theorem rm_r {a b : Int64} (h0 : b ≠ 0) (h : b ≠ -1) : rmd a b = lZ (a.toInt.tmod b.toInt) ∧ -9223372036854775808 ≤ a.toInt.tmod b.toInt ∧ a.toInt.tmod b.toInt < 9223372036854775808 := by
  have e := Int64.toInt_div_of_ne_right a b h
  have e1 : a / b = lZ (a.toInt.tdiv b.toInt) := by rw [← e, lZ_self]
  have hm := Int.tmod_add_mul_tdiv a.toInt b.toInt
  have hc : a.toInt.tdiv b.toInt * b.toInt = b.toInt * a.toInt.tdiv b.toInt := Int.mul_comm _ _
  obtain ⟨D, eD, d1, d2, d3⟩ := l_rep b
  have hD : D ≠ 0 := fun k => h0 (by rw [eD, k]; rfl)
  have hl : (a.toInt.tmod b.toInt).natAbs < D.natAbs := by
    rw [d3, Int.natAbs_tmod]
    exact Nat.mod_lt _ (by omega)
  refine ⟨?_, by omega, by omega⟩
  unfold rmd
  rw [e1]
  conv => lhs; lhs; rw [← lZ_self a]
  conv => lhs; rhs; rhs; rw [← lZ_self b]
  rw [lZ_mul, lZ_sub]
  congr 1
  omega
theorem rm_n {a b : Int64} (h0 : b ≠ 0) (h : b ≠ -1) (hr : rmd a b ≠ 0) : rmd a b < 0 ↔ a < 0 := by
  obtain ⟨e, b1, b2⟩ := rm_r h0 h (a := a)
  rw [e] at hr ⊢
  have hr' : a.toInt.tmod b.toInt ≠ 0 := fun k => hr (by rw [k]; rfl)
  rw [lZ_0, lZ_lt ⟨b1, b2⟩ (by omega), Int64.lt_iff_toInt_lt, show (lZ 0).toInt = 0 from by decide]
  rcases Int.lt_or_le a.toInt 0 with ha | ha
  · have : 0 ≤ (-a.toInt).tmod b.toInt := Int.tmod_nonneg _ (by omega)
    rw [Int.neg_tmod] at this
    omega
  · have : 0 ≤ a.toInt.tmod b.toInt := Int.tmod_nonneg _ ha
    omega
theorem rm_z {a b : Int64} : rmd a b = 0 ↔ a / b * b = a := by
  unfold rmd
  rw [Int64.sub_eq_iff_eq_add, Int64.zero_add]
  exact eq_comm
theorem exDiv_s {M : me_M} {op : Int32} {a b : Int64} (ho : op = 3 ∨ op = 4 ∨ op = 5 ∨ op = 6) : f_X6_exactDivision [.int op, .long a, .long b] M = some (some (exR (exD op a b)), M) := by
  rw [e_X6_exactDivision]
  by_cases h0 : b = 0
  · rw [if_pos (lgc0.mpr h0), exD_0 h0]
    rfl
  · rw [if_neg (fun k => h0 (lgc0.mp k))]
    have fm : f_J9_floorMod_f86c9 [.long a, .long b] M = some (some (.long (if (a ^^^ b) < 0 ∧ rmd a b ≠ 0 then rmd a b + b else rmd a b)), M) := by
      rw [e_J9_floorMod_f86c9, if_neg h0]
      by_cases h1 : (a ^^^ b) < 0
      · rw [if_neg (fun k => lc_n.mp k h1)]
        by_cases h2 : rmd a b = 0
        · rw [if_pos (lgc0.mpr h2), c00, if_neg (fun k => k.2 h2)]
        · rw [if_neg (fun k => h2 (lgc0.mp k)), c00, if_pos ⟨h1, h2⟩]
      · rw [if_pos (lc_n.mpr h1), c00, if_neg (fun k => h1 k.1)]
    have fd : f_J9_floorDiv_f86c9 [.long a, .long b] M = some (some (.long (if (a ^^^ b) < 0 ∧ rmd a b ≠ 0 then a / b - 1 else a / b)), M) := by
      rw [e_J9_floorDiv_f86c9, if_neg h0]
      by_cases h1 : (a ^^^ b) < 0
      · rw [if_neg (fun k => lc_n.mp k h1)]
        by_cases h2 : rmd a b = 0
        · rw [if_pos (lgc0.mpr (rm_z.mp h2)), c00, if_neg (fun k => k.2 h2)]
        · rw [if_neg (fun k => h2 (rm_z.mpr (lgc0.mp k))), c00, if_pos ⟨h1, h2⟩]
      · rw [if_pos (lc_n.mpr h1), c00, if_neg (fun k => h1 k.1)]
    by_cases hb : b = -1
    · rw [exD_m h0 hb]
      have hz : rmd a b = 0 := by rw [hb]; exact rm_m1 a
      have hq : a / b = -a := by rw [hb]; exact dv_m1 a
      rw [if_neg (fun k => k.2 hz)] at fm fd
      rw [hz] at fm
      rw [hq] at fd
      rcases ho with rfl | rfl | rfl | rfl
      · rw [if_neg (by decide), if_neg (by decide), if_neg (by decide : ¬ ((3 : Int32) = 4 ∨ (3 : Int32) = 6))]
        by_cases h1 : a = -9223372036854775808
        · rw [if_pos (lgc0.mpr h1), if_pos (lgc0.mpr hb), ex_n (fun k => k h1)]
        · rw [if_neg (fun k => h1 (lgc0.mp k)), e_X6_exactDivision_64, if_pos rfl, if_neg h0, if_pos (by omega), ex_y h1, hq]
      · rw [if_pos rfl, if_neg h0, if_pos (by omega), if_pos (Or.inl rfl), ex_0]
        exact congrArg (fun z => some (some (Value.long z), M)) hz
      · rw [if_neg (by decide), if_neg (by decide), if_neg (by decide : ¬ ((5 : Int32) = 4 ∨ (5 : Int32) = 6))]
        by_cases h1 : a = -9223372036854775808
        · rw [if_pos (lgc0.mpr h1), if_pos (lgc0.mpr hb), ex_n (fun k => k h1)]
        · rw [if_neg (fun k => h1 (lgc0.mp k)), e_X6_exactDivision_64, if_neg (by decide), fd, ex_y h1]
          simp only [bS, vL]
          rw [ble2 (by omega) (by omega), cond_true]
          exact if_pos (by omega)
      · rw [if_neg (by decide), if_pos rfl, if_pos (Or.inr rfl), ex_0, fm]
        simp only [bS, vL]
        exact if_pos (by omega)
    · rw [exD_g h0 hb, ex_0]
      have hd : ((a ^^^ b) < 0 ∧ rmd a b ≠ 0) ↔ dwn a b := by
        rw [ng_x]
        constructor
        · rintro ⟨k1, k2⟩
          exact ⟨k2, by rw [rm_n h0 hb k2]; exact k1⟩
        · rintro ⟨k1, k2⟩
          rw [rm_n h0 hb k1] at k2
          exact ⟨k2, k1⟩
      simp only [hd] at fm fd
      unfold exG
      rcases ho with rfl | rfl | rfl | rfl
      · rw [if_neg (by decide), if_neg (by decide), if_pos rfl]
        by_cases h1 : a = -9223372036854775808
        · rw [if_pos (lgc0.mpr h1), if_neg (fun k => hb (lgc0.mp k)), e_X6_exactDivision_64, if_pos rfl, if_neg h0, if_pos (by omega)]
        · rw [if_neg (fun k => h1 (lgc0.mp k)), e_X6_exactDivision_64, if_pos rfl, if_neg h0, if_pos (by omega)]
      · rw [if_pos rfl, if_neg h0, if_pos (by omega), if_neg (by decide), if_pos rfl]
      · rw [if_neg (by decide), if_neg (by decide), if_neg (by decide : ¬ (5 : Int32) = 3), if_neg (by decide : ¬ (5 : Int32) = 4), if_pos rfl]
        have tl : sm T_X6_exactDivision (64, [(0, .int 5), (1, .long a), (3, .long b)], [], M, 0, 0) = some (some (.long (if dwn a b then a / b - 1 else a / b)), M) := by
          rw [e_X6_exactDivision_64, if_neg (by decide), fd]
          simp only [bS, vL]
          rw [ble2 (by omega) (by omega), cond_true]
          exact if_pos (by omega)
        by_cases h1 : a = -9223372036854775808
        · rw [if_pos (lgc0.mpr h1), if_neg (fun k => hb (lgc0.mp k)), tl]
        · rw [if_neg (fun k => h1 (lgc0.mp k)), tl]
      · rw [if_neg (by decide), if_pos rfl, if_neg (by decide : ¬ (6 : Int32) = 3), if_neg (by decide : ¬ (6 : Int32) = 4), if_neg (by decide : ¬ (6 : Int32) = 5), fm]
        simp only [bS, vL]
        exact if_pos (by omega)
