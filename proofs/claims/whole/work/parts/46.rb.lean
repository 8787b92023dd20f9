/-! numbers in least terms: sign, above, below -/
abbrev Qn : Type := Int × Nat × Nat
def rd (N : Int) (D : Nat) : Qn := (N.sign, N.natAbs / Nat.gcd N.natAbs D, D / Nat.gcd N.natAbs D)
def Nf (q : Qn) : Prop := (q.1 = 0 ∨ q.1 = 1 ∨ q.1 = -1) ∧ (q.1 = 0 ↔ q.2.1 = 0) ∧ 0 < q.2.2 ∧ Nat.Coprime q.2.1 q.2.2
theorem rd_nf {N : Int} {D : Nat} (hD : 0 < D) : Nf (rd N D) := by
  have hg : 0 < Nat.gcd N.natAbs D := Nat.gcd_pos_of_pos_right _ hD
  refine ⟨?_, ?_, ?_, ?_⟩
  · show N.sign = 0 ∨ N.sign = 1 ∨ N.sign = -1
    rcases Int.lt_trichotomy N 0 with h | h | h
    · exact Or.inr (Or.inr (Int.sign_eq_neg_one_of_neg h))
    · exact Or.inl (by rw [h]; rfl)
    · exact Or.inr (Or.inl (Int.sign_eq_one_of_pos h))
  · show N.sign = 0 ↔ N.natAbs / Nat.gcd N.natAbs D = 0
    rw [Int.sign_eq_zero_iff_zero]
    constructor
    · intro h
      rw [h]
      simp
    · intro h
      rcases Nat.div_eq_zero_iff.mp h with h1 | h1
      · omega
      · apply Int.natAbs_eq_zero.mp
        apply Nat.eq_zero_of_not_pos
        intro h2
        have := Nat.gcd_le_left D h2
        omega
  · exact Nat.div_pos (Nat.gcd_le_right _ hD) hg
  · exact Nat.coprime_div_gcd_div_gcd hg
theorem rd_uniq {s : Int} {n d : Nat} {N : Int} {D : Nat} (h : Nf (s, n, d)) (hD : 0 < D) (e : s * (n : Int) * (D : Int) = N * (d : Int)) : rd N D = (s, n, d) := by
  obtain ⟨h1, h2, h3, h4⟩ := h
  simp only at h1 h2 h3 h4
  have ea : n * D = N.natAbs * d := by
    have := congrArg Int.natAbs e
    rw [Int.natAbs_mul, Int.natAbs_mul, Int.natAbs_mul, Int.natAbs_natCast, Int.natAbs_natCast, Int.natAbs_natCast] at this
    rcases h1 with h | h | h
    · have hn := h2.mp h
      rw [h, Int.natAbs_zero, Nat.zero_mul, Nat.zero_mul] at this
      rw [hn, Nat.zero_mul]
      exact this
    · rw [h, show (1 : Int).natAbs = 1 from rfl, Nat.one_mul] at this
      exact this
    · rw [h, show (-1 : Int).natAbs = 1 from rfl, Nat.one_mul] at this
      exact this
  have hd : d ∣ D := Nat.Coprime.dvd_of_dvd_mul_left (k := d) (m := n) (n := D) h4.symm ⟨N.natAbs, by rw [ea, Nat.mul_comm]⟩
  obtain ⟨k, hk⟩ := hd
  have hNk : N.natAbs = n * k := by
    have : n * k * d = N.natAbs * d := by rw [← ea, hk]; grind
    exact (Nat.eq_of_mul_eq_mul_right h3 this).symm
  have hk0 : 0 < k := by
    apply Nat.pos_of_ne_zero
    intro h0
    rw [h0, Nat.mul_zero] at hk
    omega
  have hg : Nat.gcd N.natAbs D = k := by
    rw [hNk, hk, Nat.gcd_mul_right, h4.gcd_eq_one, Nat.one_mul]
  have hs : N.sign = s := by
    have hdp : (0 : Int) < d := by omega
    have hDp : (0 : Int) < D := by omega
    have := congrArg Int.sign e
    rw [Int.sign_mul, Int.sign_mul, Int.sign_mul, Int.sign_eq_one_of_pos hdp, Int.sign_eq_one_of_pos hDp, Int.mul_one, Int.mul_one] at this
    rw [← this]
    rcases h1 with h | h | h
    · rw [h, Int.sign_zero, Int.zero_mul]
    · have : (0 : Int) < n := by
        have : n ≠ 0 := fun q => by have := h2.mpr q; omega
        omega
      rw [h, Int.sign_eq_one_of_pos this]; rfl
    · have : (0 : Int) < n := by
        have : n ≠ 0 := fun q => by have := h2.mpr q; omega
        omega
      rw [h, Int.sign_eq_one_of_pos this]; rfl
  unfold rd
  rw [hg, hs, hNk, hk, Nat.mul_div_cancel _ hk0, Nat.mul_div_cancel _ hk0]
theorem Nf.zero : Nf (0, 0, 1) := ⟨Or.inl rfl, Iff.intro (fun _ => rfl) (fun _ => rfl), Nat.one_pos, Nat.coprime_one_right 0⟩
theorem Nf.z {n d : Nat} (h : Nf (0, n, d)) : n = 0 ∧ d = 1 := by
  obtain ⟨_, h2, _, h4⟩ := h
  have hn : n = 0 := h2.mp rfl
  refine ⟨hn, ?_⟩
  simp only at h4
  rw [hn] at h4
  exact (Nat.coprime_zero_left d).mp h4
theorem rd_0 {D : Nat} (hD : 0 < D) : rd 0 D = (0, 0, 1) := rd_uniq Nf.zero hD (by omega)
theorem Nf.mk {s : Int} {n d : Nat} (hs : s = 1 ∨ s = -1) (hn : 0 < n) (hd : 0 < d) (hc : Nat.Coprime n d) : Nf (s, n, d) := ⟨Or.inr hs, ⟨fun h => by simp only at h; omega, fun h => by simp only at h; omega⟩, hd, hc⟩
/-- what divides a sum and one of its parts divides the other -/
theorem cop_part {e A B L : Nat} {s t u : Int} (hu : u = 1 ∨ u = -1) (hs : s = 1 ∨ s = -1) (hL : u * (L : Int) = s * (A : Int) + t * (B : Int)) (h1 : e ∣ L) (h2 : e ∣ B) : e ∣ A := by
  have k1 : (e : Int) ∣ (L : Int) := Int.natCast_dvd_natCast.mpr h1
  have k2 : (e : Int) ∣ (B : Int) := Int.natCast_dvd_natCast.mpr h2
  have k3 : (e : Int) ∣ s * (A : Int) := by
    have : s * (A : Int) = u * (L : Int) - t * (B : Int) := by omega
    rw [this]
    exact Int.dvd_sub (Int.dvd_trans k1 (Int.dvd_mul_left _ _)) (Int.dvd_trans k2 (Int.dvd_mul_left _ _))
  have k4 : (e : Int) ∣ (A : Int) := by
    rcases hs with h | h
    · rw [h, Int.one_mul] at k3; exact k3
    · rw [h] at k3
      have := Int.dvd_neg.mpr k3
      rw [show -(-1 * (A : Int)) = (A : Int) by omega] at this
      exact this
  exact Int.natCast_dvd_natCast.mp k4
theorem cop_of {L c A : Nat} (h : ∀ e : Nat, e ∣ L → e ∣ c → e ∣ A) (hA : Nat.Coprime A c) : Nat.Coprime L c := by
  have h1 := h (Nat.gcd L c) (Nat.gcd_dvd_left _ _) (Nat.gcd_dvd_right _ _)
  exact Nat.Coprime.eq_one_of_dvd (Nat.Coprime.coprime_dvd_left (Nat.gcd_dvd_right L c) hA.symm) h1
/-- a number over cA times (cB times g), which shares with that no more than with g -/
theorem over_key {L cA db h : Nat} (hL : 0 < L) (hA : 0 < cA) (hb : 0 < db) (hc : Nat.Coprime L cA) (hh : Nat.gcd L db = h) : Nat.Coprime (L / h) (cA * (db / h)) ∧ L = h * (L / h) ∧ db = h * (db / h) ∧ 0 < L / h ∧ 0 < cA * (db / h) := by
  have hg : 0 < Nat.gcd L db := Nat.gcd_pos_of_pos_left _ hL
  have d1 : h ∣ L := hh ▸ Nat.gcd_dvd_left L db
  have d2 : h ∣ db := hh ▸ Nat.gcd_dvd_right L db
  rw [hh] at hg
  have p1 : 0 < L / h := Nat.div_pos (Nat.le_of_dvd hL d1) hg
  have p2 : 0 < db / h := Nat.div_pos (Nat.le_of_dvd hb d2) hg
  refine ⟨Nat.Coprime.mul_right (Nat.Coprime.coprime_div_left hc d1) ?_, (Nat.mul_div_cancel' d1).symm, (Nat.mul_div_cancel' d2).symm, p1, Nat.mul_pos hA p2⟩
  rw [← hh]
  exact Nat.coprime_div_gcd_div_gcd (hh.symm ▸ hg)
theorem sum_key {na nb cA cB g L : Nat} {sa sb s : Int} (hA : 0 < cA) (hB : 0 < cB) (hg : 0 < g) (hc : Nat.Coprime cA cB) (ha : Nat.Coprime na (cA * g)) (hb : Nat.Coprime nb (cB * g)) (h1 : sa = 1 ∨ sa = -1) (h2 : sb = 1 ∨ sb = -1) (hs : s = 1 ∨ s = -1) (hL : 0 < L) (hZ : s * (L : Int) = sa * ((na * cB : Nat) : Int) + sb * ((nb * cA : Nat) : Int)) :
    Nf (s, L / Nat.gcd L g, cA * (cB * g / Nat.gcd L g)) ∧ rd (sa * ((na * (cB * g) : Nat) : Int) + sb * ((nb * (cA * g) : Nat) : Int)) (cA * g * (cB * g)) = (s, L / Nat.gcd L g, cA * (cB * g / Nat.gcd L g)) := by
  have cLA : Nat.Coprime L cA := cop_of (A := na * cB) (fun e e1 e2 => cop_part hs h1 hZ e1 (Nat.dvd_trans e2 (Nat.dvd_mul_left _ _))) (Nat.Coprime.mul_left ha.coprime_mul_right_right hc.symm)
  have cLB : Nat.Coprime L cB := cop_of (A := nb * cA) (fun e e1 e2 => cop_part (t := sa) (B := na * cB) hs h2 (by rw [hZ]; omega) e1 (Nat.dvd_trans e2 (Nat.dvd_mul_left _ _))) (Nat.Coprime.mul_left hb.coprime_mul_right_right hc)
  have hgg : Nat.gcd L (cB * g) = Nat.gcd L g := Nat.Coprime.gcd_mul_left_cancel_right g cLB.symm
  obtain ⟨k1, k2, k3, k4, k5⟩ := over_key hL hA (Nat.mul_pos hB hg) cLA hgg
  have hN : Nf (s, L / Nat.gcd L g, cA * (cB * g / Nat.gcd L g)) := Nf.mk hs k4 k5 k1
  refine ⟨hN, rd_uniq hN (Nat.mul_pos (Nat.mul_pos hA hg) (Nat.mul_pos hB hg)) ?_⟩
  generalize hh : Nat.gcd L g = h at *
  generalize hL' : L / h = L' at *
  generalize hD' : cB * g / h = D' at *
  have e1 : sa * ((na * (cB * g) : Nat) : Int) + sb * ((nb * (cA * g) : Nat) : Int) = s * L * g := by
    rw [hZ]
    push_cast
    grind
  rw [e1, k3, k2]
  push_cast
  grind
/-- the greatest common divisor and the cofactors -/
theorem gcd_parts {a b : Nat} (ha : 0 < a) (hb : 0 < b) : ∃ cA cB g : Nat, Nat.gcd a b = g ∧ a = cA * g ∧ b = cB * g ∧ a / g = cA ∧ b / g = cB ∧ Nat.Coprime cA cB ∧ 0 < cA ∧ 0 < cB ∧ 0 < g := by
  have hg : 0 < Nat.gcd a b := Nat.gcd_pos_of_pos_left _ ha
  refine ⟨a / Nat.gcd a b, b / Nat.gcd a b, Nat.gcd a b, rfl, (Nat.div_mul_cancel (Nat.gcd_dvd_left a b)).symm, (Nat.div_mul_cancel (Nat.gcd_dvd_right a b)).symm, rfl, rfl, Nat.coprime_div_gcd_div_gcd hg, Nat.div_pos (Nat.gcd_le_left _ ha) hg, Nat.div_pos (Nat.gcd_le_right _ hb) hg, hg⟩
theorem prod_key {na nb da db : Nat} (h1 : 0 < na) (h2 : 0 < nb) (h3 : 0 < da) (h4 : 0 < db) (ha : Nat.Coprime na da) (hb : Nat.Coprime nb db) {s : Int} (hs : s = 1 ∨ s = -1) :
    Nf (s, na / Nat.gcd na db * (nb / Nat.gcd nb da), db / Nat.gcd na db * (da / Nat.gcd nb da)) ∧ rd (s * ((na * nb : Nat) : Int)) (da * db) = (s, na / Nat.gcd na db * (nb / Nat.gcd nb da), db / Nat.gcd na db * (da / Nat.gcd nb da)) := by
  obtain ⟨p, q, g, e1, e2, e3, e4, e5, e6, e7, e8, e9⟩ := gcd_parts h1 h4
  obtain ⟨p', q', g', f1, f2, f3, f4, f5, f6, f7, f8, f9⟩ := gcd_parts h2 h3
  rw [e1, f1, e4, e5, f4, f5]
  have c1 : Nat.Coprime p q' := by
    have := ha
    rw [e2, f3] at this
    exact this.coprime_mul_right.coprime_mul_right_right
  have c2 : Nat.Coprime p' q := by
    have := hb
    rw [f2, e3] at this
    exact this.coprime_mul_right.coprime_mul_right_right
  have hN : Nf (s, p * p', q * q') := Nf.mk hs (Nat.mul_pos e7 f7) (Nat.mul_pos e8 f8) (Nat.Coprime.mul_left (Nat.Coprime.mul_right e6 c1) (Nat.Coprime.mul_right c2 f6))
  refine ⟨hN, rd_uniq hN (Nat.mul_pos h3 h4) ?_⟩
  rw [e2, e3, f2, f3]
  push_cast
  grind
theorem meas_key {na nb da db : Nat} (h3 : 0 < da) (h4 : 0 < db) (ha : Nat.Coprime na da) (hb : Nat.Coprime nb db) (h0 : 0 < Nat.gcd na nb) :
    Nf (1, Nat.gcd na nb, da / Nat.gcd da db * db) ∧ rd ((Nat.gcd (na * db) (nb * da) : Nat) : Int) (da * db) = (1, Nat.gcd na nb, da / Nat.gcd da db * db) := by
  obtain ⟨cA, cB, g, e1, e2, e3, e4, e5, e6, e7, e8, e9⟩ := gcd_parts h3 h4
  rw [e1, e4]
  have hc : Nat.Coprime (Nat.gcd na nb) (cA * db) := by
    have k1 : Nat.Coprime na cA := by rw [e2] at ha; exact ha.coprime_mul_right_right
    exact Nat.Coprime.mul_right (Nat.Coprime.coprime_dvd_left (Nat.gcd_dvd_left _ _) k1) (Nat.Coprime.coprime_dvd_left (Nat.gcd_dvd_right _ _) hb)
  have hN : Nf (1, Nat.gcd na nb, cA * db) := Nf.mk (Or.inl rfl) h0 (Nat.mul_pos e7 h4) hc
  refine ⟨hN, rd_uniq hN (Nat.mul_pos h3 h4) ?_⟩
  -- gcd (na db) (nb da) = gcd na nb * g
  have k : Nat.gcd (na * db) (nb * da) = Nat.gcd na nb * g := by
    rw [e2, e3, ← Nat.mul_assoc, ← Nat.mul_assoc, Nat.gcd_mul_right]
    congr 1
    have c1 : Nat.Coprime cA cB := e6
    have c2 : Nat.Coprime na cA := by rw [e2] at ha; exact ha.coprime_mul_right_right
    have c3 : Nat.Coprime nb cB := by rw [e3] at hb; exact hb.coprime_mul_right_right
    rw [Nat.Coprime.gcd_mul_right_cancel_right nb (Nat.Coprime.mul_left c2 e6.symm).symm]
    rw [Nat.Coprime.gcd_mul_right_cancel na c3.symm]
  rw [k, e2, e3]
  push_cast
  grind
