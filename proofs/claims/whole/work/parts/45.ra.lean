/-! the room that Reckoner works in: nine Wholes (dividend, unused, common, cutA, cutB, left, right, above, below) beside Euclid's, all at fixed places behind it -/
def up (vs : Nat → Nat) (i v : Nat) : Nat → Nat := fun j => if j = i then v else vs j
theorem up_s (vs : Nat → Nat) (i v : Nat) : up vs i v i = v := if_pos rfl
theorem up_n (vs : Nat → Nat) {i j : Nat} (v : Nat) (h : j ≠ i) : up vs i v j = vs j := if_neg h
theorem rk0 (x0 x1 x2 x3 x4 x5 x6 x7 x8 x9 x10 x11 : Value) : [x0, x1, x2, x3, x4, x5, x6, x7, x8, x9, x10, x11][0]? = some x0 := rfl
theorem rk1 (x0 x1 x2 x3 x4 x5 x6 x7 x8 x9 x10 x11 : Value) : [x0, x1, x2, x3, x4, x5, x6, x7, x8, x9, x10, x11][1]? = some x1 := rfl
theorem rk2 (x0 x1 x2 x3 x4 x5 x6 x7 x8 x9 x10 x11 : Value) : [x0, x1, x2, x3, x4, x5, x6, x7, x8, x9, x10, x11][2]? = some x2 := rfl
theorem rk3 (x0 x1 x2 x3 x4 x5 x6 x7 x8 x9 x10 x11 : Value) : [x0, x1, x2, x3, x4, x5, x6, x7, x8, x9, x10, x11][3]? = some x3 := rfl
theorem rk4 (x0 x1 x2 x3 x4 x5 x6 x7 x8 x9 x10 x11 : Value) : [x0, x1, x2, x3, x4, x5, x6, x7, x8, x9, x10, x11][4]? = some x4 := rfl
theorem rk5 (x0 x1 x2 x3 x4 x5 x6 x7 x8 x9 x10 x11 : Value) : [x0, x1, x2, x3, x4, x5, x6, x7, x8, x9, x10, x11][5]? = some x5 := rfl
theorem rk6 (x0 x1 x2 x3 x4 x5 x6 x7 x8 x9 x10 x11 : Value) : [x0, x1, x2, x3, x4, x5, x6, x7, x8, x9, x10, x11][6]? = some x6 := rfl
theorem rk7 (x0 x1 x2 x3 x4 x5 x6 x7 x8 x9 x10 x11 : Value) : [x0, x1, x2, x3, x4, x5, x6, x7, x8, x9, x10, x11][7]? = some x7 := rfl
theorem rk8 (x0 x1 x2 x3 x4 x5 x6 x7 x8 x9 x10 x11 : Value) : [x0, x1, x2, x3, x4, x5, x6, x7, x8, x9, x10, x11][8]? = some x8 := rfl
theorem rk9 (x0 x1 x2 x3 x4 x5 x6 x7 x8 x9 x10 x11 : Value) : [x0, x1, x2, x3, x4, x5, x6, x7, x8, x9, x10, x11][9]? = some x9 := rfl
theorem rk10 (x0 x1 x2 x3 x4 x5 x6 x7 x8 x9 x10 x11 : Value) : [x0, x1, x2, x3, x4, x5, x6, x7, x8, x9, x10, x11][10]? = some x10 := rfl
theorem rk11 (x0 x1 x2 x3 x4 x5 x6 x7 x8 x9 x10 x11 : Value) : [x0, x1, x2, x3, x4, x5, x6, x7, x8, x9, x10, x11][11]? = some x11 := rfl
def rkF (K : Nat) : List Value := [.ref (K + 28), .ref (K + 1), .ref (K + 8), .ref (K + 10), .ref (K + 12), .ref (K + 14), .ref (K + 16), .ref (K + 18), .ref (K + 20), .ref (K + 22), .ref (K + 24), .ref (K + 26)]
def RK (M : me_M) (K : Nat) (vs : Nat → Nat) : Prop := Dm M ∧ me_obj M 3 K = some [.ref (K + 28), .ref (K + 1), .ref (K + 8), .ref (K + 10), .ref (K + 12), .ref (K + 14), .ref (K + 16), .ref (K + 18), .ref (K + 20), .ref (K + 22), .ref (K + 24), .ref (K + 26)] ∧ EU M (K + 1) (K + 2) (K + 4) (K + 6) ∧ (∀ i, i < 9 → Wh M (K + 8 + 2 * i) 72 (vs i)) ∧ Wh M (K + 26) 3 1 ∧ me_obj M 2 (K + 28) = some [.int 0, .ref (K + 29), .ref (K + 26)] ∧ Wh M (K + 29) 0 0
theorem RK.dm {M : me_M} {K : Nat} {vs : Nat → Nat} (h : RK M K vs) : Dm M := h.1
theorem RK.o {M : me_M} {K : Nat} {vs : Nat → Nat} (h : RK M K vs) : me_obj M 3 K = some [.ref (K + 28), .ref (K + 1), .ref (K + 8), .ref (K + 10), .ref (K + 12), .ref (K + 14), .ref (K + 16), .ref (K + 18), .ref (K + 20), .ref (K + 22), .ref (K + 24), .ref (K + 26)] := h.2.1
theorem RK.eu {M : me_M} {K : Nat} {vs : Nat → Nat} (h : RK M K vs) : EU M (K + 1) (K + 2) (K + 4) (K + 6) := h.2.2.1
theorem RK.w {M : me_M} {K : Nat} {vs : Nat → Nat} (h : RK M K vs) {i : Nat} (hi : i < 9) : Wh M (K + 8 + 2 * i) 72 (vs i) := h.2.2.2.1 i hi
theorem RK.one {M : me_M} {K : Nat} {vs : Nat → Nat} (h : RK M K vs) : Wh M (K + 26) 3 1 := h.2.2.2.2.1
theorem RK.zo {M : me_M} {K : Nat} {vs : Nat → Nat} (h : RK M K vs) : me_obj M 2 (K + 28) = some [.int 0, .ref (K + 29), .ref (K + 26)] := h.2.2.2.2.2.1
theorem RK.z0 {M : me_M} {K : Nat} {vs : Nat → Nat} (h : RK M K vs) : Wh M (K + 29) 0 0 := h.2.2.2.2.2.2
/-- what lies outside the room is as it was -/
def FK (M M' : me_M) (K : Nat) : Prop := M.1 ≤ M'.1 ∧ ∀ p, p < M.1 → (p < K + 1 ∨ K + 26 ≤ p) → M'.2 p = M.2 p
theorem FK.refl (M : me_M) (K : Nat) : FK M M K := ⟨Nat.le_refl _, fun _ _ _ => rfl⟩
theorem FK.trans {M N L : me_M} {K : Nat} (h : FK M N K) (k : FK N L K) : FK M L K := ⟨Nat.le_trans h.1 k.1, fun p h1 h2 => (k.2 p (Nat.lt_of_lt_of_le h1 h.1) h2).trans (h.2 p h1 h2)⟩
theorem Wh.lt {M : me_M} {w c v : Nat} (h : Wh M w c v) (hD : Dm M) : w + 1 < M.1 := by
  obtain ⟨s, f, h⟩ := h
  exact mi_lt hD h.2.1
theorem Wh.fk {M M' : me_M} {K w c v : Nat} (h : Wh M w c v) (hK : K + 26 ≤ w) (hD : Dm M) (hF : FK M M' K) : Wh M' w c v := by
  have := h.lt hD
  exact h.of (hF.2 w (by omega) (Or.inr hK)) (hF.2 (w + 1) this (Or.inr (by omega)))
theorem ob_fk {M M' : me_M} {K p ci : Nat} {fs : List Value} (h : me_obj M ci p = some fs) (hK : p < K + 1 ∨ K + 26 ≤ p) (hD : Dm M) (hF : FK M M' K) : me_obj M' ci p = some fs := by
  rw [mo_of (hF.2 p (mo_lt hD h) hK)]
  exact h
theorem RK.ext {M : me_M} {K : Nat} {vs ws : Nat → Nat} (h : RK M K vs) (he : ∀ i, i < 9 → ws i = vs i) : RK M K ws := ⟨h.1, h.2.1, h.2.2.1, fun i hi => by rw [he i hi]; exact h.w hi, h.2.2.2.2⟩
theorem Dm.fr {M M' : me_M} {w c v : Nat} (hD : Dm M) (hw : Wh M w c v) (hF : Fr M M' w) : Dm M' := by
  have hlt := hw.lt hD
  intro q x hx
  rw [hF.1]
  by_cases h1 : q = w
  · omega
  · by_cases h2 : q = w + 1
    · omega
    · rw [hF.2 q h1 h2] at hx
      exact hD q x hx
/-- an act on one of the nine -/
theorem RK.op {M M' : me_M} {K i v : Nat} {vs : Nat → Nat} (h : RK M K vs) (hi : i < 9) (hW : Wh M' (K + 8 + 2 * i) 72 v) (hF : Fr M M' (K + 8 + 2 * i)) : RK M' K (up vs i v) ∧ FK M M' K := by
  have hw := h.w hi
  have hFK : FK M M' K := ⟨by rw [hF.1]; exact Nat.le_refl _, fun p _ hp => hF.2 p (by omega) (by omega)⟩
  refine ⟨⟨h.dm.fr hw hF, ob_fk h.o (Or.inl (by omega)) h.dm hFK, h.eu.of hw (by omega) (by omega) (by omega) hF, fun j hj => ?_, h.one.fk (by omega) h.dm hFK, ob_fk h.zo (Or.inr (by omega)) h.dm hFK, h.z0.fk (by omega) h.dm hFK⟩, hFK⟩
  by_cases hji : j = i
  · rw [hji, up_s]; exact hW
  · rw [up_n _ _ hji]; exact (h.w hj).fr hw (by omega) hF
theorem Dm.fe {M M' : me_M} {E u x y w v1 v2 v3 v4 c1 c2 c3 c4 : Nat} {fs : List Value} (hD : Dm M) (hE : me_obj M 1 E = some fs) (hu : Wh M u c1 v1) (hx : Wh M x c2 v2) (hy : Wh M y c3 v3) (hw : Wh M w c4 v4) (hF : Fe M M' E u x y w) : Dm M' := by
  have e1 := mo_lt hD hE
  have e2 := hu.lt hD
  have e3 := hx.lt hD
  have e4 := hy.lt hD
  have e5 := hw.lt hD
  intro q x' hx'
  rw [hF.1]
  by_cases h : q < M.1
  · exact h
  · rw [hF.2 q (by omega) (by omega) (by omega) (by omega) (by omega) (by omega) (by omega) (by omega) (by omega)] at hx'
    exact hD q x' hx'
theorem RK.find {M : me_M} {K i a b A B ca cb : Nat} {vs : Nat → Nat} (h : RK M K vs) (hi : i < 9) (ha : Wh M a ca A) (hb : Wh M b cb B) (ha1 : K + 8 ≤ a) (hb1 : K + 8 ≤ b) (hA : A < 2 ^ (31 * 70)) (hB : B < 2 ^ (31 * 70)) :
    ∃ M' : me_M, f_X1_find [.ref (K + 1), .ref a, .ref b, .ref (K + 8 + 2 * i)] M = some (none, M') ∧ RK M' K (up vs i (Nat.gcd A B)) ∧ FK M M' K := by
  have hw := h.w hi
  obtain ⟨M', r1, r2, r3, r4⟩ := find_s (w := K + 8 + 2 * i) h.eu ha hb hw (by omega) (by omega) (by omega) (by omega) (by omega) (by omega) (by omega) (by omega) (by omega) (by omega) hA hB
  have hFK : FK M M' K := ⟨by rw [r4.1]; exact Nat.le_refl _, fun p _ hp => r4.2 p (by omega) (by omega) (by omega) (by omega) (by omega) (by omega) (by omega) (by omega) (by omega)⟩
  obtain ⟨x', y', v1, v2, v3, c3, c4, c5, c6, _, e2, e3, e4, e5⟩ := h.eu
  refine ⟨M', r1, ⟨h.dm.fe e2 e3 e4 e5 hw r4, ob_fk h.o (Or.inl (by omega)) h.dm hFK, r3, fun j hj => ?_, h.one.fk (by omega) h.dm hFK, ob_fk h.zo (Or.inr (by omega)) h.dm hFK, h.z0.fk (by omega) h.dm hFK⟩, hFK⟩
  by_cases hji : j = i
  · rw [hji, up_s]; exact r2
  · rw [up_n _ _ hji]
    have hj' := h.w hj
    exact hj'.of (r4.2 _ (by omega) (by omega) (by omega) (by omega) (by omega) (by omega) (by omega) (by omega) (by omega)) (r4.2 _ (by omega) (by omega) (by omega) (by omega) (by omega) (by omega) (by omega) (by omega) (by omega))
/-- what is left of one of the nine by another, and the quotient -/
theorem RK.div {M : me_M} {K i j b D c : Nat} {vs : Nat → Nat} (h : RK M K vs) (hi : i < 9) (hj : j < 9) (hij : i ≠ j) (hb : Wh M b c D) (hb1 : K + 8 ≤ b) (hbi : b ≠ K + 8 + 2 * i) (hbj : b ≠ K + 8 + 2 * j) (hD : 0 < D) (hV : vs i < 2 ^ (31 * 70)) :
    ∃ M' : me_M, f_X5_divide [.ref (K + 8 + 2 * i), .ref b, .ref (K + 8 + 2 * j)] M = some (none, M') ∧ RK M' K (up (up vs i (vs i % D)) j (vs i / D)) ∧ FK M M' K := by
  have hwi := h.w hi
  have hwj := h.w hj
  obtain ⟨M', r1, r2, r3, r4, r5⟩ := divide_s (m := 70) hwi hb hwj (Ne.symm hbi) (by omega) hbj hD hV (by omega) (by omega)
  have hFK : FK M M' K := ⟨by rw [r4]; exact Nat.le_refl _, fun p _ hp => r5 p (by omega) (by omega) (by omega) (by omega)⟩
  have hl1 := hwi.lt h.dm
  have hl2 := hwj.lt h.dm
  obtain ⟨x', y', v1, v2, v3, c3, c4, c5, c6, e1, e2, e3, e4, e5⟩ := h.eu
  have mv : ∀ {a c v : Nat}, Wh M a c v → a < K + 8 → Wh M' a c v := fun q hq => q.of (r5 _ (by omega) (by omega) (by omega) (by omega)) (r5 _ (by have := q.ne hwi; have := hwi.ne q; omega) (by omega) (by have := hwj.ne q; omega) (by omega))
  refine ⟨M', r1, ⟨?_, ob_fk h.o (Or.inl (by omega)) h.dm hFK, ⟨x', y', v1, v2, v3, c3, c4, c5, c6, e1, ?_, mv e3 (by omega), mv e4 (by omega), mv e5 (by omega)⟩, fun k hk => ?_, h.one.fk (by omega) h.dm hFK, ob_fk h.zo (Or.inr (by omega)) h.dm hFK, h.z0.fk (by omega) h.dm hFK⟩, hFK⟩
  · intro q x hx
    rw [r4]
    by_cases hq : q < M.1
    · exact hq
    · rw [r5 q (by omega) (by omega) (by omega) (by omega)] at hx
      exact h.dm q x hx
  · rw [mo_of (r5 _ (by omega) (by omega) (by omega) (by omega))]; exact e2
  · by_cases hkj : k = j
    · rw [hkj, up_s]; exact r3
    · rw [up_n _ _ hkj]
      by_cases hki : k = i
      · rw [hki, up_s]; exact r2
      · rw [up_n _ _ hki]
        exact (h.w hk).of (r5 _ (by omega) (by omega) (by omega) (by omega)) (r5 _ (by omega) (by omega) (by omega) (by omega))
