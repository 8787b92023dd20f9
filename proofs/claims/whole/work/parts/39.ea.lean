/-! Lehmer's way: what the highest bits tell (Collins' condition) -/
theorem mul_lo {a b : Int} (ha : 0 ≤ a) (hb : 0 ≤ b) : 0 ≤ a * b := Int.mul_nonneg ha hb
theorem mul_hi {a b c : Int} (ha : 0 ≤ a) (hb : b ≤ c) : a * b ≤ a * c := Int.mul_le_mul_of_nonneg_left hb ha
theorem mul_hir {a b c : Int} (ha : 0 ≤ a) (hb : b ≤ c) : b * a ≤ c * a := Int.mul_le_mul_of_nonneg_right hb ha
theorem nn_of_mul {a s : Int} (hs : 0 < s) (h : 0 ≤ a * s) : 0 ≤ a := by
  apply Int.not_lt.mp
  intro h1
  have := Int.mul_neg_of_neg_of_pos h1 hs
  omega
theorem pos_of_mul {a s : Int} (hs : 0 < s) (h : 0 < a * s) : 0 < a := by
  apply Int.not_le.mp
  intro h1
  have := Int.mul_le_mul_of_nonneg_right h1 (Int.le_of_lt hs)
  omega
theorem collins {p q nX nY lX lY p0 q0 α β P S X Y σ : Int} (hσ : σ = 1 ∨ σ = -1) (hp : p = σ * (nX * p0 - nY * q0)) (hq : q = -σ * (lX * p0 - lY * q0)) (hlX : 0 ≤ lX) (hnX : 0 ≤ nX) (hl : lX ≤ lY) (hn : nX + lX ≤ nY + lY) (hlY : 0 < lY) (hnY : 0 ≤ nY) (h1 : lY ≤ q) (h2 : nY + lY ≤ p - q) (hS : 0 < S) (hX : X * S = p0 * P + α) (hY : Y * S = q0 * P + β) (a0 : 0 ≤ α) (a1 : α < P) (b0 : 0 ≤ β) (b1 : β < P) :
    0 ≤ -σ * (lX * X - lY * Y) ∧ -σ * (lX * X - lY * Y) < σ * (nX * X - nY * Y) := by
  have hP : 0 < P := by omega
  -- products of the coefficients with what is left out
  have c1 := mul_lo hlX a0
  have c2 : lX * α ≤ lY * P := Int.le_trans (mul_hi hlX (Int.le_of_lt a1)) (mul_hir (Int.le_of_lt hP) hl)
  have c3 := mul_lo (Int.le_of_lt hlY) b0
  have c4 : lY * β ≤ lY * (P - 1) := mul_hi (Int.le_of_lt hlY) (by omega)
  have c5 : lY * (P - 1) = lY * P - lY := by grind
  have c6 : lY * P ≤ q * P := mul_hir (Int.le_of_lt hP) h1
  have hs1 : 0 ≤ nX + lX := by omega
  have hs2 : 0 < nY + lY := by omega
  have d1 := mul_lo hs1 a0
  have d2 : (nX + lX) * α ≤ (nX + lX) * (P - 1) := mul_hi hs1 (by omega)
  have d2' : (nX + lX) * (P - 1) ≤ (nY + lY) * (P - 1) := mul_hir (by omega) hn
  have d3 := mul_lo (Int.le_of_lt hs2) b0
  have d4 : (nY + lY) * β ≤ (nY + lY) * (P - 1) := mul_hi (Int.le_of_lt hs2) (by omega)
  have d5 : (nY + lY) * (P - 1) = (nY + lY) * P - (nY + lY) := by grind
  have d6 : (nY + lY) * P ≤ (p - q) * P := mul_hir (Int.le_of_lt hP) h2
  rcases hσ with h | h
  · subst h
    have e1 : (-1 * (lX * X - lY * Y)) * S = q * P + lY * β - lX * α := by
      have : (-1 * (lX * X - lY * Y)) * S = lY * (Y * S) - lX * (X * S) := by grind
      rw [this, hX, hY, hq]
      grind
    have e2 : (1 * (nX * X - nY * Y) - -1 * (lX * X - lY * Y)) * S = (p - q) * P + (nX + lX) * α - (nY + lY) * β := by
      have : (1 * (nX * X - nY * Y) - -1 * (lX * X - lY * Y)) * S = (nX + lX) * (X * S) - (nY + lY) * (Y * S) := by grind
      rw [this, hX, hY, hq, hp]
      grind
    have r1 := nn_of_mul hS (a := -1 * (lX * X - lY * Y)) (by rw [e1]; omega)
    have r2 := pos_of_mul hS (a := 1 * (nX * X - nY * Y) - -1 * (lX * X - lY * Y)) (by rw [e2]; omega)
    exact ⟨r1, by omega⟩
  · subst h
    have e1 : (-(-1) * (lX * X - lY * Y)) * S = q * P + lX * α - lY * β := by
      have : (-(-1) * (lX * X - lY * Y)) * S = lX * (X * S) - lY * (Y * S) := by grind
      rw [this, hX, hY, hq]
      grind
    have e2 : (-1 * (nX * X - nY * Y) - -(-1) * (lX * X - lY * Y)) * S = (p - q) * P - (nX + lX) * α + (nY + lY) * β := by
      have : (-1 * (nX * X - nY * Y) - -(-1) * (lX * X - lY * Y)) * S = (nY + lY) * (Y * S) - (nX + lX) * (X * S) := by grind
      rw [this, hX, hY, hq, hp]
      grind
    have r1 := nn_of_mul hS (a := -(-1) * (lX * X - lY * Y)) (by rw [e1]; omega)
    have r2 := pos_of_mul hS (a := -1 * (nX * X - nY * Y) - -(-1) * (lX * X - lY * Y)) (by rw [e2]; omega)
    exact ⟨r1, by omega⟩
/-- the state of the turns foreseen -/
def FI (X Y p0 q0 σ : Int) (p q bX bY nX nY lX lY : Nat) : Prop := (σ = 1 ∨ σ = -1) ∧ ((p : Int) = σ * (nX * p0 - nY * q0)) ∧ ((q : Int) = -σ * (lX * p0 - lY * q0)) ∧ ((nX : Int) * lY - nY * lX = σ) ∧ (((p * lY + q * nY : Nat) : Int) = p0) ∧ (lX ≤ lY) ∧ (nX + lX ≤ nY + lY) ∧ (0 < lY) ∧ (q ≤ p) ∧ (0 < p) ∧ (nX < 2147483648 ∧ nY < 2147483648 ∧ bX < 2147483648 ∧ bY < 2147483648) ∧ ((bX = 0 ∧ bY = 0 ∧ nX = 1 ∧ nY = 0 ∧ lX = 0 ∧ lY = 1 ∧ σ = 1) ∨ (∃ t : Nat, 0 < t ∧ lX = bX + t * nX ∧ lY = bY + t * nY ∧ 0 ≤ σ * (nX * X - nY * Y) ∧ σ * (nX * X - nY * Y) < -σ * (bX * X - bY * Y) ∧ -σ * (bX * X - bY * Y) ≤ X ∧ (bX : Int) * nY - bY * nX = -σ ∧ ((bY = 0 ∧ -σ * (bX * X - bY * Y) * (σ * (nX * X - nY * Y)) = X * Y) ∨ 2 * (-σ * (bX * X - bY * Y) * (σ * (nX * X - nY * Y))) ≤ X * Y)))
theorem FI.sg {X Y p0 q0 σ : Int} {p q bX bY nX nY lX lY : Nat} (h : FI X Y p0 q0 σ p q bX bY nX nY lX lY) : σ = 1 ∨ σ = -1 := h.1
theorem FI.ep {X Y p0 q0 σ : Int} {p q bX bY nX nY lX lY : Nat} (h : FI X Y p0 q0 σ p q bX bY nX nY lX lY) : (p : Int) = σ * (nX * p0 - nY * q0) := h.2.1
theorem FI.eq {X Y p0 q0 σ : Int} {p q bX bY nX nY lX lY : Nat} (h : FI X Y p0 q0 σ p q bX bY nX nY lX lY) : (q : Int) = -σ * (lX * p0 - lY * q0) := h.2.2.1
theorem FI.det {X Y p0 q0 σ : Int} {p q bX bY nX nY lX lY : Nat} (h : FI X Y p0 q0 σ p q bX bY nX nY lX lY) : (nX : Int) * lY - nY * lX = σ := h.2.2.2.1
theorem FI.tot {X Y p0 q0 σ : Int} {p q bX bY nX nY lX lY : Nat} (h : FI X Y p0 q0 σ p q bX bY nX nY lX lY) : ((p * lY + q * nY : Nat) : Int) = p0 := h.2.2.2.2.1
theorem FI.l1 {X Y p0 q0 σ : Int} {p q bX bY nX nY lX lY : Nat} (h : FI X Y p0 q0 σ p q bX bY nX nY lX lY) : lX ≤ lY := h.2.2.2.2.2.1
theorem FI.l2 {X Y p0 q0 σ : Int} {p q bX bY nX nY lX lY : Nat} (h : FI X Y p0 q0 σ p q bX bY nX nY lX lY) : nX + lX ≤ nY + lY := h.2.2.2.2.2.2.1
theorem FI.l3 {X Y p0 q0 σ : Int} {p q bX bY nX nY lX lY : Nat} (h : FI X Y p0 q0 σ p q bX bY nX nY lX lY) : 0 < lY := h.2.2.2.2.2.2.2.1
theorem FI.qp {X Y p0 q0 σ : Int} {p q bX bY nX nY lX lY : Nat} (h : FI X Y p0 q0 σ p q bX bY nX nY lX lY) : q ≤ p := h.2.2.2.2.2.2.2.2.1
theorem FI.pp {X Y p0 q0 σ : Int} {p q bX bY nX nY lX lY : Nat} (h : FI X Y p0 q0 σ p q bX bY nX nY lX lY) : 0 < p := h.2.2.2.2.2.2.2.2.2.1
theorem FI.bn {X Y p0 q0 σ : Int} {p q bX bY nX nY lX lY : Nat} (h : FI X Y p0 q0 σ p q bX bY nX nY lX lY) : nX < 2147483648 ∧ nY < 2147483648 ∧ bX < 2147483648 ∧ bY < 2147483648 := h.2.2.2.2.2.2.2.2.2.2.1
theorem FI.g {X Y p0 q0 σ : Int} {p q bX bY nX nY lX lY : Nat} (h : FI X Y p0 q0 σ p q bX bY nX nY lX lY) : (bX = 0 ∧ bY = 0 ∧ nX = 1 ∧ nY = 0 ∧ lX = 0 ∧ lY = 1 ∧ σ = 1) ∨ (∃ t : Nat, 0 < t ∧ lX = bX + t * nX ∧ lY = bY + t * nY ∧ 0 ≤ σ * (nX * X - nY * Y) ∧ σ * (nX * X - nY * Y) < -σ * (bX * X - bY * Y) ∧ -σ * (bX * X - bY * Y) ≤ X ∧ (bX : Int) * nY - bY * nX = -σ ∧ ((bY = 0 ∧ -σ * (bX * X - bY * Y) * (σ * (nX * X - nY * Y)) = X * Y) ∨ 2 * (-σ * (bX * X - bY * Y) * (σ * (nX * X - nY * Y))) ≤ X * Y)) := h.2.2.2.2.2.2.2.2.2.2.2
theorem FI.start {X Y : Int} {p0 q0 : Nat} (h : q0 ≤ p0) (h0 : 0 < p0) : FI X Y p0 q0 1 p0 q0 0 0 1 0 0 1 :=
  ⟨Or.inl rfl, by omega, by omega, by omega, by omega, by omega, by omega, by omega, h, h0, by omega, Or.inl ⟨rfl, rfl, rfl, rfl, rfl, rfl, rfl⟩⟩
theorem sq_lt {a p0 : Nat} (h : a * a ≤ p0) (hp : p0 < 4611686018427387904) : a < 2147483648 := by
  apply Nat.lt_of_not_le
  intro h1
  have := Nat.mul_le_mul h1 h1
  omega
theorem FI.step {X Y α β P S : Int} {p0 q0 : Nat} {σ : Int} {p q bX bY nX nY lX lY : Nat} (h : FI X Y p0 q0 σ p q bX bY nX nY lX lY) (hp0 : p0 < 4611686018427387904) (h0 : 0 < q) (h1 : lY ≤ q) (h2 : nY + lY ≤ p - q) (hS : 0 < S) (hX : X * S = p0 * P + α) (hY : Y * S = q0 * P + β) (a0 : 0 ≤ α) (a1 : α < P) (b0 : 0 ≤ β) (b1 : β < P) :
    FI X Y p0 q0 (-σ) q (p % q) nX nY lX lY (nX + p / q * lX) (nY + p / q * lY) := by
  have hc := collins (p := p) (q := q) (nX := nX) (nY := nY) (lX := lX) (lY := lY) h.sg h.ep h.eq (by omega) (by omega) (by have := h.l1; omega) (by have := h.l2; omega) (by have := h.l3; omega) (by omega) (by omega) (by have := h.qp; omega) hS hX hY a0 a1 b0 b1
  have hdm := Nat.div_add_mod p q
  have hml := Nat.mod_lt p h0
  have hdz : ((q : Int) * ((p / q : Nat) : Int)) + ((p % q : Nat) : Int) = p := by exact_mod_cast hdm
  have ht : 0 < p / q := Nat.div_pos h.qp h0
  have hqp := h.qp
  have htot := h.tot
  have hlb : lY < 2147483648 := by
    apply sq_lt (p0 := p0) _ hp0
    have e1 : lY * lY ≤ p * lY := Nat.mul_le_mul_right _ (by omega)
    have : p * lY + q * nY = p0 := by exact_mod_cast htot
    omega
  generalize htt : p / q = t at *
  generalize hrr : p % q = r at *
  refine ⟨?_, ?_, ?_, ?_, ?_, ?_, ?_, ?_, Nat.le_of_lt hml, h0, ?_, ?_⟩
  · rcases h.sg with e | e
    · exact Or.inr (by omega)
    · exact Or.inl (by omega)
  · rw [h.eq]
  · have e1 : (r : Int) = p - q * t := by omega
    rw [e1, h.ep, h.eq]
    push_cast
    grind
  · have := h.det
    push_cast
    grind
  · rw [← htot]
    push_cast
    have e1 : (p : Int) = q * t + r := by omega
    rw [e1]
    grind
  · have := Nat.mul_le_mul_left (t - 1) h.l1
    have e1 : t * lX = (t - 1) * lX + lX := by rw [← Nat.succ_mul]; congr 1; omega
    have e2 : t * lY = (t - 1) * lY + lY := by rw [← Nat.succ_mul]; congr 1; omega
    have := h.l2
    omega
  · have := Nat.mul_le_mul_left t h.l1
    have := h.l2
    omega
  · have := Nat.mul_pos ht h.l3
    omega
  · have := h.l1
    have := h.bn
    omega
  · refine Or.inr ⟨t, ht, rfl, rfl, ?_, ?_, ?_, ?_, ?_⟩
    · exact hc.1
    · rw [Int.neg_neg]; exact hc.2
    · rw [Int.neg_neg]
      rcases h.g with ⟨_, _, e3, e4, _, _, e7⟩ | ⟨_, _, _, _, _, g5, g6, _⟩
      · rw [e3, e4, e7]; omega
      · omega
    · rw [Int.neg_neg]; exact h.det
    · rw [Int.neg_neg]
      rcases h.g with ⟨e1, e2, e3, e4, e5, e6, e7⟩ | ⟨u, hu, g1, g2, g3, g4, g5, g6, g7⟩
      · refine Or.inl ⟨e4, ?_⟩
        rw [e3, e4, e5, e6, e7]
        grind
      · refine Or.inr ?_
        -- R_l = R_b - u R_n
        have hR : -σ * ((lX : Int) * X - lY * Y) = -σ * (bX * X - bY * Y) - u * (σ * (nX * X - nY * Y)) := by
          rw [g1, g2]
          push_cast
          grind
        obtain ⟨c1, c2⟩ := hc
        generalize -σ * ((lX : Int) * X - lY * Y) = Rl at *
        generalize -σ * ((bX : Int) * X - bY * Y) = Rb at *
        generalize σ * ((nX : Int) * X - nY * Y) = Rn at *
        have k1 : Rn ≤ u * Rn := by
          have := mul_hir (a := Rn) g3 (show (1 : Int) ≤ u by omega)
          rw [Int.one_mul] at this
          exact this
        have k2 : 2 * Rl ≤ Rb := by omega
        have k3 : Rn * (2 * Rl) ≤ Rn * Rb := mul_hi g3 k2
        have k4 : Rn * (2 * Rl) = 2 * (Rn * Rl) := by grind
        have k5 : Rn * Rb = Rb * Rn := Int.mul_comm _ _
        have k6 : 0 ≤ Rb * Rn := mul_lo (by omega) g3
        rcases g7 with ⟨_, g8⟩ | g8
        · omega
        · omega
