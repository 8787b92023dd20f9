theorem rem_key {na cA cB g L : Nat} {sb s1 t : Int} (hA : 0 < cA) (hB : 0 < cB) (hg : 0 < g) (hc : Nat.Coprime cA cB) (ha : Nat.Coprime na (cA * g)) (h1 : s1 = 1 ∨ s1 = -1) (hs : sb = 1 ∨ sb = -1) (hL : 0 < L) (hZ : 1 * (L : Int) = s1 * ((na * cB : Nat) : Int) + t * (cA : Int)) :
    Nf (sb, L / Nat.gcd L (cB * g), cA * (cB * g / Nat.gcd L (cB * g))) ∧ rd (sb * ((L * g : Nat) : Int)) (cA * g * (cB * g)) = (sb, L / Nat.gcd L (cB * g), cA * (cB * g / Nat.gcd L (cB * g))) := by
  have cLA : Nat.Coprime L cA := cop_of (A := na * cB) (fun e e1 e2 => cop_part (Or.inl rfl) h1 hZ e1 e2) (Nat.Coprime.mul_left ha.coprime_mul_right_right hc.symm)
  obtain ⟨k1, k2, k3, k4, k5⟩ := over_key (h := Nat.gcd L (cB * g)) hL hA (Nat.mul_pos hB hg) cLA rfl
  have hN : Nf (sb, L / Nat.gcd L (cB * g), cA * (cB * g / Nat.gcd L (cB * g))) := Nf.mk hs k4 k5 k1
  refine ⟨hN, rd_uniq hN (Nat.mul_pos (Nat.mul_pos hA hg) (Nat.mul_pos hB hg)) ?_⟩
  generalize hh : Nat.gcd L (cB * g) = h at *
  generalize hL' : L / h = L' at *
  generalize hD' : cB * g / h = D' at *
  rw [k3, k2]
  push_cast
  grind
/-! Fractions -/
def Fits (q : Qn) : Prop := q.2.1 < 2 ^ 512 ∧ q.2.2 < 2 ^ 512
def Fx (M : me_M) (K p : Nat) (q : Qn) : Prop := K + 26 ≤ p ∧ Nf q ∧ Fits q ∧ ∃ a b ca cb : Nat, me_obj M 2 p = some [.int (iZ q.1), .ref a, .ref b] ∧ Wh M a ca q.2.1 ∧ Wh M b cb q.2.2 ∧ K + 26 ≤ a ∧ K + 26 ≤ b
theorem Fx.fk {M M' : me_M} {K p : Nat} {q : Qn} (h : Fx M K p q) (hD : Dm M) (hF : FK M M' K) : Fx M' K p q := by
  obtain ⟨h1, h2, h3, a, b, ca, cb, h4, h5, h6, h7, h8⟩ := h
  exact ⟨h1, h2, h3, a, b, ca, cb, ob_fk h4 (Or.inr h1) hD hF, h5.fk h7 hD hF, h6.fk h8 hD hF, h7, h8⟩
theorem Wh.b {M : me_M} {w c v : Nat} (h : Wh M w c v) {α : Type} (X : Option α) : ((me_obj M 5 w).bind fun _ => X) = X := by
  obtain ⟨s, o, _⟩ := h.obj
  rw [o]
  rfl
theorem RK.e {M : me_M} {K : Nat} {vs : Nat → Nat} (h : RK M K vs) {α : Type} (X : Option α) : ((me_obj M 1 (K + 1)).bind fun _ => X) = X := by
  obtain ⟨x', y', v1, v2, v3, c3, c4, c5, c6, e1, e2, _⟩ := h.eu
  rw [e2]
  rfl
theorem RK.at {M : me_M} {K : Nat} {vs : Nat → Nat} (h : RK M K vs) (i : Nat) {w : Nat} (hi : i < 9) (hw : w = K + 8 + 2 * i) : Wh M w 72 (vs i) := by
  rw [hw]
  exact h.w hi
theorem p527 {v : Nat} (h : v < 2 ^ 512) : v < 2 ^ (31 * 17) := Nat.lt_of_lt_of_le h (Nat.pow_le_pow_right (by decide) (by omega))
theorem p31 {v m n : Nat} (h : v < 2 ^ (31 * m)) (hm : m ≤ n) : v < 2 ^ (31 * n) := Nat.lt_of_lt_of_le h (pw_le 31 hm)
theorem p31m {u v m n : Nat} (h : u < 2 ^ (31 * m)) (h2 : v < 2 ^ (31 * n)) : u * v < 2 ^ (31 * (m + n)) := by
  rw [Nat.mul_add, Nat.pow_add]
  exact Nat.mul_lt_mul_of_lt_of_le h (Nat.le_of_lt h2) (Nat.two_pow_pos _)
/-- one of the nine set anew, and the dividend used up -/
def Ch (vs ws : Nat → Nat) (j v : Nat) : Prop := ws j = v ∧ ∀ k, k ≠ 0 → k ≠ j → ws k = vs k
theorem Ch.up (vs : Nat → Nat) (j v : Nat) : Ch vs (up vs j v) j v := ⟨up_s _ _ _, fun _ _ h => up_n _ _ h⟩
theorem divideOut_s {M : me_M} {K a A ca b D cb j w : Nat} {vs : Nat → Nat} (h : RK M K vs) (ha : Wh M a ca A) (hb : Wh M b cb D) (hj : j < 9) (hj0 : j ≠ 0) (hw : w = K + 8 + 2 * j) (ha1 : K + 8 < a) (hb1 : K + 8 < b) (hbw : b ≠ w) (hD : 0 < D) (hA : A < 2 ^ (31 * 70)) :
    ∃ (M' : me_M) (ws : Nat → Nat), f_X3_divideOut [.ref K, .ref a, .ref b, .ref w] M = some (none, M') ∧ RK M' K ws ∧ FK M M' K ∧ M'.1 = M.1 ∧ Ch vs ws j (A / D) := by
  subst hw
  rw [e_X3_divideOut, hb.b, oneW hb]
  simp only [bS, vI]
  by_cases h1 : D = 1
  · rw [if_neg (by rw [if_pos h1]; decide), (h.w hj).b]
    obtain ⟨M', k1, k2, k3⟩ := copyW (m := 70) (h.w hj) ha hA (by omega)
    simp only [k1, bS, cNn, c00]
    obtain ⟨r1, r2⟩ := h.op hj k2 k3
    exact ⟨M', _, rfl, r1, r2, k3.1, by rw [h1, Nat.div_one]; exact Ch.up _ _ _⟩
  · rw [if_pos (by rw [if_neg h1])]
    simp only [h.o, bS, rk2, vR]
    rw [(h.at 0 (by omega) (by omega)).b]
    obtain ⟨M1, k1, k2, k3⟩ := copyW (m := 70) (h.at 0 (w := K + 8) (by omega) (by omega)) ha hA (by omega)
    obtain ⟨r1, r2⟩ := h.op (i := 0) (by omega) k2 k3
    have hb' := hb.fr (h.at 0 (w := K + 8) (by omega) (by omega)) (by omega) k3
    obtain ⟨M2, d1, d2, d3⟩ := r1.div (i := 0) (j := j) (by omega) hj (by omega) hb' (by omega) (by omega) hbw hD (by rw [up_s]; exact hA)
    have d1' : f_X5_divide [.ref (K + 8), .ref b, .ref (K + 8 + 2 * j)] M1 = some (none, M2) := d1
    simp only [k1, bS, cNn, r1.o, rk2, vR]
    rw [(r1.at 0 (by omega) (by omega)).b]
    simp only [d1', bS, cNn, c00]
    have hm : M2.1 = M.1 := by
      obtain ⟨M2', e1, _, _, e4, _⟩ := divide_s (m := 70) (r1.w (i := 0) (by omega)) hb' (r1.w hj) (by omega) (by omega) hbw hD (by rw [up_s]; exact hA) (by omega) (by omega)
      rw [d1] at e1
      cases e1
      rw [e4, k3.1]
    refine ⟨M2, _, rfl, d2, r2.trans d3, hm, ?_, fun k hk0 hkj => ?_⟩
    · rw [up_s, up_s]
    · rw [up_n _ _ hkj, up_n _ _ hk0, up_n _ _ hk0]
theorem s30 (x y z v : Value) : [x, y, z].set 0 v = [v, y, z] := rfl
theorem s31 (x y z v : Value) : [x, y, z].set 1 v = [x, v, z] := rfl
theorem s32 (x y z v : Value) : [x, y, z].set 2 v = [x, y, v] := rfl
theorem frac_init {M : me_M} {p a b : Nat} {s : Int32} {x0 x1 x2 : Value} (h : me_obj M 2 p = some [x0, x1, x2]) : f_X2_init [.ref p, .int s, .ref a, .ref b] M = some (none, me_set M p (.inr (2, [.int s, .ref a, .ref b]))) := by
  rw [e_X2_init]
  simp only [h, bS, s30, s31, s32, mo_set, set_set, c00]
  exact (if_pos (by decide : 0 < 3)).trans ((if_pos (by decide : 1 < 3)).trans (if_pos (by decide : 2 < 3)))
/-- what a Reckoner's act answers: a Fraction, or null for one that is too wide -/
def Rs (M M' : me_M) (K : Nat) (v : Value) (q : Qn) : Prop := (∃ ws : Nat → Nat, RK M' K ws) ∧ FK M M' K ∧ ((Fits q ∧ ∃ p : Nat, v = .ref p ∧ Fx M' K p q) ∨ (¬ Fits q ∧ v = .null))
theorem cap_lt {M : me_M} {w c v : Nat} (h : Wh M w c v) (hv : v < 2 ^ 512) : ∃ (s : Nat) (f : Nat → Int32), WS M w (w + 1) c s v f ∧ s ≤ 17 := by
  obtain ⟨s, f, h⟩ := h
  exact ⟨s, f, h, h.2.2.2.2.1.le (p527 hv)⟩
theorem made_s {M : me_M} {K : Nat} {vs : Nat → Nat} {s : Int} (h : RK M K vs) (hN : Nf (s, vs 7, vs 8)) (h7 : vs 7 < 2 ^ (31 * 72)) (h8 : vs 8 < 2 ^ (31 * 72)) :
    ∃ (M' : me_M) (v : Value), f_X3_made [.ref K, .int (iZ s)] M = some (some v, M') ∧ Rs M M' K v (s, vs 7, vs 8) := by
  have w7 := h.at 7 (w := K + 22) (by omega) (by omega)
  have w8 := h.at 8 (w := K + 24) (by omega) (by omega)
  have b7 : bl (vs 7) ≤ 31 * 72 := bl_le_iff.mpr h7
  have b8 : bl (vs 8) ≤ 31 * 72 := bl_le_iff.mpr h8
  rw [e_X3_made]
  simp only [h.o, bS, rk9, vR, lenW w7, vI]
  rw [w7.b]
  by_cases f7 : vs 7 < 2 ^ 512
  · have c7 := bl_le_iff.mpr f7
    rw [if_neg (by rw [show (512 : Int32) = iZ 512 from rfl, iZ_lt (by omega) (by omega)]; omega)]
    simp only [rk10, vR, bS, lenW w8, vI]
    rw [w8.b]
    by_cases f8 : vs 8 < 2 ^ 512
    · have c8 := bl_le_iff.mpr f8
      rw [if_pos (by rw [show (512 : Int32) = iZ 512 from rfl, iZ_le (by omega) (by omega)]; omega)]
      -- the new Fraction
      have hz := h.z0.lt h.dm
      generalize hM1 : me_new M (.inr (2, [.int 0, .null, .null])) = M1
      have n1 : ∀ q, q < M.1 → M1.2 q = M.2 q := fun q hq => by rw [← hM1]; exact new_ne hq
      have l1 : M1.1 = M.1 + 1 := by rw [← hM1]; rfl
      have D1 : Dm M1 := by rw [← hM1]; exact h.dm.new
      have oK1 : me_obj M1 3 K = some [.ref (K + 28), .ref (K + 1), .ref (K + 8), .ref (K + 10), .ref (K + 12), .ref (K + 14), .ref (K + 16), .ref (K + 18), .ref (K + 20), .ref (K + 22), .ref (K + 24), .ref (K + 26)] := by rw [mo_of (n1 K (by omega))]; exact h.o
      have of1 : M1.2 M.1 = some (.inr (2, [.int 0, .null, .null])) := by rw [← hM1]; exact new_eq _ _
      obtain ⟨s7, g7, W7, q7⟩ := cap_lt w7 f7
      obtain ⟨s8, g8, W8, q8⟩ := cap_lt w8 f8
      have W7' := W7.of (M' := M1) (n1 _ (by omega)) (n1 _ (by omega))
      have W8' := W8.of (M' := M1) (n1 _ (by omega)) (n1 _ (by omega))
      obtain ⟨k7, e7, r7⟩ := kept_s W7' D1 (by omega)
      simp only [oK1, bS, rk9, rk10, vR]
      rw [W7'.1]
      simp only [bS, e7, vN]
      generalize hM2 : mK M1 s7 k7 = M2 at r7
      have n2 : ∀ q, q < M1.1 → M2.2 q = M1.2 q := fun q hq => by rw [← hM2]; exact mK_ne hq
      have l2 : M2.1 = M1.1 + 2 := by rw [← hM2]; rfl
      have D2 : Dm M2 := by rw [← hM2]; exact mK_D D1
      have oK2 : me_obj M2 3 K = some [.ref (K + 28), .ref (K + 1), .ref (K + 8), .ref (K + 10), .ref (K + 12), .ref (K + 14), .ref (K + 16), .ref (K + 18), .ref (K + 20), .ref (K + 22), .ref (K + 24), .ref (K + 26)] := by rw [mo_of (n2 K (by omega))]; exact oK1
      have W8'' := W8'.of (M' := M2) (n2 _ (by omega)) (n2 _ (by omega))
      obtain ⟨k8, e8, r8⟩ := kept_s W8'' D2 (by omega)
      simp only [oK2, bS, rk10, vR]
      rw [W8''.1]
      simp only [bS, e8, vN]
      generalize hM3 : mK M2 s8 k8 = M3 at r8
      have n3 : ∀ q, q < M2.1 → M3.2 q = M2.2 q := fun q hq => by rw [← hM3]; exact mK_ne hq
      have l3 : M3.1 = M2.1 + 2 := by rw [← hM3]; rfl
      have D3 : Dm M3 := by rw [← hM3]; exact mK_D D2
      have of3 : me_obj M3 2 M.1 = some [.int 0, .null, .null] := mo_at (by rw [n3 _ (by omega), n2 _ (by omega)]; exact of1)
      simp only [of3, bS, frac_init of3, cNn]
      rw [if_pos (by decide)]
      have hFK : FK M (me_set M3 M.1 (.inr (2, [.int (iZ s), .ref M1.1, .ref M2.1]))) K := ⟨by rw [set_1]; omega, fun p hp _ => by rw [set_ne (by omega), n3 p (by omega), n2 p (by omega), n1 p hp]⟩
      have all : ∀ p, p < M.1 → (me_set M3 M.1 (.inr (2, [.int (iZ s), .ref M1.1, .ref M2.1]))).2 p = M.2 p := fun p hp => by rw [set_ne (by omega), n3 p (by omega), n2 p (by omega), n1 p hp]
      have mvW : ∀ {a c v : Nat}, Wh M a c v → Wh (me_set M3 M.1 (.inr (2, [.int (iZ s), .ref M1.1, .ref M2.1]))) a c v := fun q => by
        have := q.lt h.dm
        exact q.of (all _ (by omega)) (all _ this)
      refine ⟨_, _, rfl, ⟨vs, D3.set (by omega), ob_fk h.o (Or.inl (by omega)) h.dm hFK, ?_, fun i hi => mvW (h.w hi), mvW h.one, ob_fk h.zo (Or.inr (by omega)) h.dm hFK, mvW h.z0⟩, hFK, Or.inl ⟨⟨f7, f8⟩, M.1, rfl, by omega, hN, ⟨f7, f8⟩, M1.1, M2.1, s7, s8, mo_set _ _ _ _, ?_, ?_, by omega, by omega⟩⟩
      · obtain ⟨x', y', v1, v2, v3, c3, c4, c5, c6, e1, e2, e3, e4, e5⟩ := h.eu
        refine ⟨x', y', v1, v2, v3, c3, c4, c5, c6, e1, ?_, mvW e3, mvW e4, mvW e5⟩
        rw [mo_of (all _ (by omega))]; exact e2
      · have := r7.of (M' := me_set M3 M.1 (.inr (2, [.int (iZ s), .ref M1.1, .ref M2.1]))) (by rw [set_ne (by omega), n3 _ (by omega)]) (by rw [set_ne (by omega), n3 _ (by omega)])
        exact ⟨_, _, this⟩
      · have := r8.of (M' := me_set M3 M.1 (.inr (2, [.int (iZ s), .ref M1.1, .ref M2.1]))) (by rw [set_ne (by omega)]) (by rw [set_ne (by omega)])
        exact ⟨_, _, this⟩
    · have c8 : ¬ bl (vs 8) ≤ 512 := fun q => f8 (bl_le_iff.mp q)
      rw [if_neg (by rw [show (512 : Int32) = iZ 512 from rfl, iZ_le (by omega) (by omega)]; omega), if_pos (by decide)]
      exact ⟨M, .null, rfl, ⟨vs, h⟩, FK.refl _ _, Or.inr ⟨fun q => f8 q.2, rfl⟩⟩
  · have c7 : ¬ bl (vs 7) ≤ 512 := fun q => f7 (bl_le_iff.mp q)
    rw [if_pos (by rw [show (512 : Int32) = iZ 512 from rfl, iZ_lt (by omega) (by omega)]; omega), if_pos (by decide)]
    exact ⟨M, .null, rfl, ⟨vs, h⟩, FK.refl _ _, Or.inr ⟨fun q => f7 q.1, rfl⟩⟩
