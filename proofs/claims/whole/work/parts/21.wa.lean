/-! digits -/
def dg (k v i : Nat) : Nat := v / 2 ^ (k * i) % 2 ^ k
theorem dg_lt (k v i : Nat) : dg k v i < 2 ^ k := Nat.mod_lt _ (Nat.two_pow_pos k)
theorem dg_31 (v i : Nat) : dg 31 v i < 2147483648 := dg_lt 31 v i
theorem dg_mod (k v i : Nat) : v % 2 ^ (k * (i + 1)) = v % 2 ^ (k * i) + 2 ^ (k * i) * dg k v i := by
  unfold dg
  rw [Nat.mul_add, Nat.mul_one, Nat.pow_add, Nat.mod_mul]
theorem dg_zero {k v i : Nat} (h : v < 2 ^ (k * i)) : dg k v i = 0 := by
  unfold dg
  rw [Nat.div_eq_of_lt h, Nat.zero_mod]
theorem pw_le (k : Nat) {i j : Nat} (h : i ≤ j) : 2 ^ (k * i) ≤ 2 ^ (k * j) := Nat.pow_le_pow_right (by decide) (Nat.mul_le_mul_left k h)
theorem dg_top {k v s : Nat} (h : v < 2 ^ (k * (s + 1))) (h0 : dg k v s = 0) : v < 2 ^ (k * s) := by
  have h1 := dg_mod k v s
  rw [h0, Nat.mul_zero, Nat.add_zero, Nat.mod_eq_of_lt h] at h1
  rw [h1]
  exact Nat.mod_lt _ (Nat.two_pow_pos _)
theorem dg_ge {k v s : Nat} (h0 : dg k v s ≠ 0) : 2 ^ (k * s) ≤ v := by
  apply Nat.le_of_not_lt
  intro h
  exact h0 (dg_zero h)
theorem dg_ext {k u v n : Nat} (h : ∀ i, i < n → dg k u i = dg k v i) (hu : u < 2 ^ (k * n)) (hv : v < 2 ^ (k * n)) : u = v := by
  have key : ∀ m, m ≤ n → u % 2 ^ (k * m) = v % 2 ^ (k * m) := by
    intro m
    induction m with
    | zero => intro _; simp [Nat.mod_one]
    | succ m ih =>
      intro hm
      rw [dg_mod, dg_mod, ih (by omega), h m (by omega)]
  have := key n (Nat.le_refl n)
  rwa [Nat.mod_eq_of_lt hu, Nat.mod_eq_of_lt hv] at this
/-- s digits are just enough -/
def Sz (k v s : Nat) : Prop := v < 2 ^ (k * s) ∧ (s = 0 ∨ 2 ^ (k * (s - 1)) ≤ v)
/-! the memory's reads and writes -/
theorem nob {p q : Prop} (hp : ¬ p) (hq : ¬ q) : ¬ (p ∨ q) := fun h => h.elim hp hq
theorem vI (x : Int32) : v_int (.int x) = some x := rfl
theorem vL (x : Int64) : v_long (.long x) = some x := rfl
theorem vR (x : Nat) : v_ref (.ref x) = some x := rfl
theorem vN (x : Nat) : v_rn (.ref x) = some (some x) := rfl
theorem vN0 : v_rn .null = some none := rfl
theorem bS {α β : Type} (a : α) (f : α → Option β) : (some a).bind f = f a := rfl
theorem g0 (a : Value) (l : List Value) : (a :: l)[0]? = some a := rfl
theorem g1 (a b : Value) (l : List Value) : (a :: b :: l)[1]? = some b := rfl
theorem g2 (a b c : Value) (l : List Value) : (a :: b :: c :: l)[2]? = some c := rfl
theorem mo_set (M : me_M) (ci a : Nat) (fs : List Value) : me_obj (me_set M a (.inr (ci, fs))) ci a = some fs := by simp [me_obj, me_set]
theorem mo_ne (M : me_M) (ci a q : Nat) (x : me_E) (h : q ≠ a) : me_obj (me_set M a x) ci q = me_obj M ci q := by simp [me_obj, me_set, h]
theorem mi_set (M : me_M) (kd a n : Nat) (f : Nat → Int32) : me_int (me_set M a (.inl (kd, n, .inl f))) kd a = some (n, f) := by simp [me_int, me_set]
theorem mi_ne (M : me_M) (kd a q : Nat) (x : me_E) (h : q ≠ a) : me_int (me_set M a x) kd q = me_int M kd q := by simp [me_int, me_set, h]
theorem oi_ne {M : me_M} {ci q kd a : Nat} {fs : List Value} {g : Nat × (Nat → Int32)} (h : me_obj M ci q = some fs) (h2 : me_int M kd a = some g) : q ≠ a := by
  rintro rfl
  obtain ⟨n, f⟩ := g
  have h1 := me_obj_eq h
  rw [me_int_eq h2] at h1
  cases h1
theorem io_ne {M : me_M} {ci q kd a : Nat} {fs : List Value} {g : Nat × (Nat → Int32)} (h : me_obj M ci q = some fs) (h2 : me_int M kd a = some g) : a ≠ q := fun e => oi_ne h h2 e.symm
theorem set_set (M : me_M) (a : Nat) (x y : me_E) : me_set (me_set M a x) a y = me_set M a y := by
  unfold me_set
  congr 1
  funext q
  by_cases h : q = a <;> simp [h]
theorem set_self {M : me_M} {a : Nat} {x : me_E} (h : M.2 a = some x) : me_set M a x = M := by
  unfold me_set
  obtain ⟨n, g⟩ := M
  congr 1
  funext q
  by_cases hq : q = a
  · simp only [hq, if_true]; exact h.symm
  · simp [hq]
theorem set_comm (M : me_M) {a b : Nat} (h : a ≠ b) (x y : me_E) : me_set (me_set M a x) b y = me_set (me_set M b y) a x := by
  unfold me_set
  congr 1
  funext q
  by_cases h1 : q = a
  · have : ¬ q = b := fun e => h (h1.symm.trans e)
    simp [h1, h]
  · by_cases h2 : q = b <;> simp [h1, h2]
    intro e; exact absurd e.symm h
/-! small steps that a program decides -/
theorem c00 {α : Type} {a b : α} : (if 0 ≤ 0 ∧ 0 ≤ 0 then a else b) = a := if_pos ⟨Nat.le_refl _, Nat.le_refl _⟩
theorem cz1 {α : Type} {a b : α} : (if (1 : Int32) = 0 ∨ (1 : Int32) = 1 then a else b) = a := if_pos (Or.inr rfl)
theorem cz0 {α : Type} {a b : α} : (if (0 : Int32) = 0 ∨ (0 : Int32) = 1 then a else b) = a := if_pos (Or.inl rfl)
theorem l2 {α : Type} {x y : Value} {a b : α} : (if 1 < [x, y].length then a else b) = a := if_pos (Nat.lt_succ_self 1)
theorem s21 (x y z : Value) : [x, y].set 1 z = [x, z] := rfl
theorem s20 (x y z : Value) : [x, y].set 0 z = [z, y] := rfl
theorem cN : cond (none : Option Value).isNone = fun (a _ : Option sm_R) => a := rfl
theorem cNn (a b : Option sm_R) : cond (none : Option Value).isNone a b = a := rfl
theorem z_0 : (0 : Int32) = iZ 0 := rfl
theorem z_1 : (1 : Int32) = iZ 1 := rfl
theorem z_2 : (2 : Int32) = iZ 2 := rfl
theorem cl0 : (0 : Int32).toNatClampNeg = 0 := rfl
theorem cl1 : (1 : Int32).toNatClampNeg = 1 := rfl
theorem cl2 : (2 : Int32).toNatClampNeg = 2 := rfl
theorem n0 : ¬ ((0 : Int32) < 0) := by decide
theorem n1 : ¬ ((1 : Int32) < 0) := by decide
theorem n2 : ¬ ((2 : Int32) < 0) := by decide
/-! Whole: limbs of 31 bits -/
/-- a Whole at w, its limbs at a (room for cap), s of them in use, the value v -/
def WS (M : me_M) (w a cap s v : Nat) (f : Nat → Int32) : Prop := me_obj M 5 w = some [.ref a, .int (iZ s)] ∧ me_int M 0 a = some (cap, f) ∧ s ≤ cap ∧ cap < 1000 ∧ Sz 31 v s ∧ ∀ j, j < s → f j = iZ (dg 31 v j)
theorem limbOrZero_s {M : me_M} {w a cap s v : Nat} {f : Nat → Int32} (h : WS M w a cap s v f) {i : Nat} (hi : i < 2147483648) : f_X5_limbOrZero [.ref w, .int (iZ i)] M = some (some (.long (lZ (dg 31 v i))), M) := by
  obtain ⟨ho, ha, hs, hc, ⟨hv, -⟩, hf⟩ := h
  have hn := iZ_n0 hi
  have hcl := iZ_clampN hi
  have h31 := dg_31 v i
  rw [e_X5_limbOrZero]
  simp only [if_neg hn, ho, ha, bS, g0, g1, vI, vR]
  by_cases hle : s ≤ i
  · rw [if_pos ((iZ_le (by omega) (by omega)).mpr (by omega)), if_pos (by decide)]
    rw [dg_zero (Nat.lt_of_lt_of_le hv (pw_le 31 hle))]
    rfl
  · rw [if_neg (fun q => hle (by have := (iZ_le (by omega) (by omega)).mp q; omega)), hcl, if_neg (nob hn (by omega)), if_pos (by decide), hf i (by omega), iZ_l (by omega) (by omega)]
theorem limbNeg_s {M : me_M} {w : Nat} {i : Int} (h1 : i < 0) (h2 : -2147483648 ≤ i) : f_X5_limbOrZero [.ref w, .int (iZ i)] M = some (some (.long (lZ 0)), M) := by
  rw [e_X5_limbOrZero, if_pos (by rw [show (0 : Int32) = iZ 0 from rfl]; exact (iZ_lt (by omega) (by omega)).mpr h1), if_pos (by decide)]
  rfl
theorem trim_l {w a cap v : Nat} {f : Nat → Int32} (hc : cap < 1000) : ∀ (s : Nat) (M : me_M), me_obj M 5 w = some [.ref a, .int (iZ s)] → me_int M 0 a = some (cap, f) → s ≤ cap → v < 2 ^ (31 * s) → (∀ j, j < s → f j = iZ (dg 31 v j)) →
    ∃ s' : Nat, sm T_X5_trim (0, [(0, .ref w)], [], M, 0, 0) = some (none, me_set M w (.inr (5, [.ref a, .int (iZ s')]))) ∧ s' ≤ s ∧ Sz 31 v s' := by
  intro s
  induction s with
  | zero =>
    intro M ho ha hs hv hf
    refine ⟨0, ?_, Nat.le_refl _, hv, Or.inl rfl⟩
    rw [e_X5_trim_0, set_self (me_obj_eq ho)]
    simp only [ho, bS, g1, vI]
    rw [if_pos (by decide), if_pos (by decide)]
  | succ s ih =>
    intro M ho ha hs hv hf
    have hne := oi_ne ho ha
    have h31 := dg_31 v s
    have hcl : (iZ ((s + 1 : Nat) : Int) - 1).toNatClampNeg = s := by
      rw [show (1 : Int32) = iZ 1 from rfl, iZ_sub, show ((s + 1 : Nat) : Int) - 1 = (s : Nat) by omega]
      exact iZ_clampN (by omega)
    have hn0 : ¬ iZ ((s + 1 : Nat) : Int) - 1 < 0 := by
      rw [show (1 : Int32) = iZ 1 from rfl, iZ_sub, show ((s + 1 : Nat) : Int) - 1 = (s : Nat) by omega]
      exact iZ_n0 (by omega)
    have hnl : ¬ iZ ((s + 1 : Nat) : Int) ≤ 0 := by
      rw [show (0 : Int32) = iZ 0 from rfl, iZ_le (by omega) (by omega)]; omega
    rw [e_X5_trim_0]
    simp only [ho, ha, bS, g0, g1, vI, vR, if_neg hnl, hcl]
    rw [if_neg (nob hn0 (by omega))]
    have hfs := hf s (by omega)
    by_cases hz : dg 31 v s = 0
    · rw [if_pos (by rw [hfs, hz]; rfl), l2, s21]
      have e1 : iZ ((s + 1 : Nat) : Int) - 1 = iZ (s : Nat) := by
        rw [show (1 : Int32) = iZ 1 from rfl, iZ_sub, show ((s + 1 : Nat) : Int) - 1 = (s : Nat) by omega]
      rw [e1]
      obtain ⟨s', h1, h2, h3⟩ := ih (me_set M w (.inr (5, [.ref a, .int (iZ (s : Nat))]))) (mo_set _ _ _ _) (by rw [mi_ne _ _ _ _ _ hne.symm]; exact ha) (by omega) (dg_top hv hz) (fun j hj => hf j (by omega))
      refine ⟨s', ?_, by omega, h3⟩
      rw [h1, set_set]
    · refine ⟨s + 1, ?_, Nat.le_refl _, hv, Or.inr (dg_ge hz)⟩
      rw [if_neg (by rw [hfs, show (0 : Int32) = iZ 0 from rfl, iZ_eq (by omega) (by omega)]; omega), if_pos (by decide), set_self (me_obj_eq ho)]
theorem trim_s {M : me_M} {w a cap s v : Nat} {f : Nat → Int32} (hc : cap < 1000) (ho : me_obj M 5 w = some [.ref a, .int (iZ s)]) (ha : me_int M 0 a = some (cap, f)) (hs : s ≤ cap) (hv : v < 2 ^ (31 * s)) (hf : ∀ j, j < s → f j = iZ (dg 31 v j)) :
    ∃ s' : Nat, f_X5_trim [.ref w] M = some (none, me_set M w (.inr (5, [.ref a, .int (iZ s')]))) ∧ s' ≤ s ∧ Sz 31 v s' := trim_l hc s M ho ha hs hv hf
