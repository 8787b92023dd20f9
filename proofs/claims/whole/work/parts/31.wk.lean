/-! new wholes -/
/-- every cell lies below the next free address -/
def Dm (M : me_M) : Prop := ∀ (q : Nat) (x : me_E), M.2 q = some x → q < M.1
theorem mo_lt {M : me_M} (hD : Dm M) {ci q : Nat} {fs : List Value} (h : me_obj M ci q = some fs) : q < M.1 := hD q _ (me_obj_eq h)
theorem mi_lt {M : me_M} (hD : Dm M) {kd q : Nat} {g : Nat × (Nat → Int32)} (h : me_int M kd q = some g) : q < M.1 := by
  obtain ⟨n, f⟩ := g
  exact hD q _ (me_int_eq h)
theorem new_ne {M : me_M} {x : me_E} {q : Nat} (h : q < M.1) : (me_new M x).2 q = M.2 q := by
  unfold me_new
  simp only
  rw [if_neg (by omega)]
theorem new_eq (M : me_M) (x : me_E) : (me_new M x).2 M.1 = some x := by simp [me_new]
theorem new_1 (M : me_M) (x : me_E) : (me_new M x).1 = M.1 + 1 := rfl
theorem set_1 (M : me_M) (a : Nat) (x : me_E) : (me_set M a x).1 = M.1 := rfl
theorem set_ne {M : me_M} {a q : Nat} {x : me_E} (h : q ≠ a) : (me_set M a x).2 q = M.2 q := by simp [me_set, h]
theorem set_eq (M : me_M) (a : Nat) (x : me_E) : (me_set M a x).2 a = some x := by simp [me_set]
theorem Dm.set {M : me_M} (hD : Dm M) {a : Nat} {x : me_E} (ha : a < M.1) : Dm (me_set M a x) := by
  intro q y h
  by_cases hq : q = a
  · rw [hq]; exact ha
  · rw [set_ne hq] at h; exact hD q y h
theorem Dm.new {M : me_M} (hD : Dm M) {x : me_E} : Dm (me_new M x) := by
  intro q y h
  rw [new_1]
  by_cases hq : q = M.1
  · omega
  · have h2 : M.2 q = some y := by
      unfold me_new at h
      simp only at h
      rw [if_neg hq] at h
      exact h
    have := hD q y h2
    omega
theorem mo_at {M : me_M} {ci q : Nat} {fs : List Value} (h : M.2 q = some (.inr (ci, fs))) : me_obj M ci q = some fs := by simp [me_obj, h]
theorem mi_at {M : me_M} {kd q n : Nat} {f : Nat → Int32} (h : M.2 q = some (.inl (kd, n, .inl f))) : me_int M kd q = some (n, f) := by simp [me_int, h]
theorem init_s {M : me_M} {w n : Nat} {x0 x1 : Value} (hw : me_obj M 5 w = some [x0, x1]) (hlt : w < M.1) (hn : n ≤ 72) :
    f_X5_init [.ref w, .int (iZ n)] M = some (none, me_set (me_new M (.inl (0, n, .inl (fun _ => 0)))) w (.inr (5, [.ref M.1, x1]))) := by
  have hm : (if iZ (n : Int) < (0 : Int32) then (0 : Int32) else iZ (n : Int)) = iZ (n : Int) := if_neg (iZ_n0 (by omega))
  have hcl := iZ_clampN (n := n) (by omega)
  rw [e_X5_init]
  simp only [hm, hcl]
  rw [if_neg (iZ_n0 (by omega)), show (Nat.ble 1 1 && Nat.ble (0 + n) 72) = true by rw [Nat.zero_add, Bool.and_eq_true]; exact ⟨rfl, Nat.ble_eq_true_of_le hn⟩, cond_true, mo_of (new_ne hlt), hw]
  simp only [bS]
  rw [if_pos (by simp), if_pos (by omega), s20]
/-- what kept makes: a Whole and its limbs, behind all others -/
def mK (M : me_M) (s : Nat) (g : Nat → Int32) : me_M := (M.1 + 2, fun q => if q = M.1 then some (.inr (5, [.ref (M.1 + 1), .int (iZ s)])) else if q = M.1 + 1 then some (.inl (0, s, .inl g)) else M.2 q)
theorem mK_ne {M : me_M} {s q : Nat} {g : Nat → Int32} (h : q < M.1) : (mK M s g).2 q = M.2 q := by
  unfold mK
  simp only
  rw [if_neg (by omega), if_neg (by omega)]
theorem mK_1 (M : me_M) (s : Nat) (g : Nat → Int32) : (mK M s g).1 = M.1 + 2 := rfl
theorem mK_D {M : me_M} {s : Nat} {g : Nat → Int32} (hD : Dm M) : Dm (mK M s g) := by
  intro q x h
  rw [mK_1]
  by_cases h1 : q < M.1
  · omega
  · by_cases h2 : q < M.1 + 2
    · exact h2
    · unfold mK at h
      simp only at h
      rw [if_neg (by omega), if_neg (by omega)] at h
      have := hD q x h
      omega
theorem kept_s {M : me_M} {w a cap s v : Nat} {f : Nat → Int32} (h : WS M w a cap s v f) (hD : Dm M) (hs : s ≤ 72) :
    ∃ g : Nat → Int32, f_X5_kept [.ref w] M = some (some (.ref M.1), mK M s g) ∧ WS (mK M s g) M.1 (M.1 + 1) s s v g := by
  have hsz := h.sz
  have hwl := mo_lt hD h.1
  have hal := mi_lt hD h.2.1
  generalize hM1 : me_new M (.inr (5, [.null, .int 0])) = M1
  have h1 : M1.1 = M.1 + 1 := by rw [← hM1]; rfl
  have hn : me_obj M1 5 M.1 = some [.null, .int 0] := by rw [← hM1]; exact mo_at (new_eq _ _)
  have hw1 : me_obj M1 5 w = some [.ref a, .int (iZ s)] := by rw [← hM1, mo_of (new_ne hwl)]; exact h.1
  have hi := init_s (n := s) hn (by omega) hs
  generalize hM2 : me_set (me_new M1 (.inl (0, s, .inl (fun _ => 0)))) M.1 (.inr (5, [.ref M1.1, .int 0])) = M2 at hi
  have hn2 : me_obj M2 5 M.1 = some [.ref (M.1 + 1), .int 0] := by rw [← hM2, ← h1]; exact mo_set _ _ _ _
  have hl2 : me_int M2 0 (M.1 + 1) = some (s, fun _ => 0) := by
    rw [← hM2]
    apply mi_at
    rw [set_ne (by omega), ← h1]
    exact new_eq _ _
  have hold : ∀ q, q < M.1 → M2.2 q = M.2 q := fun q hq => by rw [← hM2, set_ne (by omega), new_ne (by omega), ← hM1, new_ne hq]
  have hw2 : WS M2 w a cap s v f := h.of (hold w hwl) (hold a hal)
  obtain ⟨c1, c2⟩ := copy_s hw2 hn2 hl2 (by omega) (Nat.le_refl s)
  have hK : mW M2 M.1 (M.1 + 1) s (va_cpy f (fun _ => 0) 0 0 s) s = mK M s (va_cpy f (fun _ => 0) 0 0 s) := by
    unfold mW mK me_set
    simp only
    refine Prod.ext ?_ ?_
    · show M2.1 = M.1 + 2
      rw [← hM2, set_1, new_1, h1]
    · funext q
      show (if q = M.1 then _ else if q = M.1 + 1 then _ else M2.2 q) = (if q = M.1 then _ else if q = M.1 + 1 then _ else M.2 q)
      by_cases q1 : q = M.1
      · rw [if_pos q1, if_pos q1]
      · rw [if_neg q1, if_neg q1]
        by_cases q2 : q = M.1 + 1
        · rw [if_pos q2, if_pos q2]
        · rw [if_neg q2, if_neg q2]
          by_cases q3 : q < M.1
          · exact hold q q3
          · rw [← hM2, set_ne (by omega)]
            unfold me_new
            simp only
            rw [if_neg (by omega), ← hM1]
            unfold me_new
            simp only
            rw [if_neg (by omega)]
  refine ⟨_, ?_, hK ▸ c2⟩
  rw [e_X5_kept, hM1]
  simp only [hw1, hn, bS, g1, hi, cNn, hn2, c1, hK]
  rfl
