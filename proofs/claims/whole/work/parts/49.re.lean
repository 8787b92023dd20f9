theorem RK.zf {M : me_M} {K : Nat} {vs : Nat → Nat} (h : RK M K vs) : Fx M K (K + 28) (0, 0, 1) := ⟨by omega, Nf.zero, ⟨by exact Nat.two_pow_pos _, by exact Nat.one_lt_two_pow (by decide)⟩, K + 29, K + 26, 0, 3, h.zo, h.z0, h.one, by omega, by omega⟩
theorem RK.rz {M : me_M} {K : Nat} {vs : Nat → Nat} (h : RK M K vs) : Rs M M K (.ref (K + 28)) (0, 0, 1) := ⟨⟨vs, h⟩, FK.refl _ _, Or.inl ⟨h.zf.2.2.1, _, rfl, h.zf⟩⟩
theorem Rs.trans {M N L : me_M} {K : Nat} {v : Value} {q : Qn} (h : FK M N K) (k : Rs N L K v q) : Rs M L K v q := ⟨k.1, h.trans k.2.1, k.2.2⟩
/-- handing an answer on -/
theorem Rs.pass {M N : me_M} {K : Nat} {v : Value} {q : Qn} (h : Rs M N K v q) {P : Prop} [Decidable P] (hP : P) : ((v_rn v).bind fun _ => (v_rn v).bind fun _ => if P then (some (some v, N) : Option sm_R) else none) = some (some v, N) := by
  rw [if_pos hP]
  rcases h.2.2 with ⟨_, p, hp, _⟩ | ⟨_, hp⟩
  · rw [hp]; rfl
  · rw [hp]; rfl
theorem Fx.ob {M : me_M} {K p : Nat} {q : Qn} (h : Fx M K p q) : ∃ a b ca cb : Nat, me_obj M 2 p = some [.int (iZ q.1), .ref a, .ref b] ∧ Wh M a ca q.2.1 ∧ Wh M b cb q.2.2 ∧ K + 26 ≤ a ∧ K + 26 ≤ b := h.2.2.2
theorem sgz {s : Int} (h : s = 0 ∨ s = 1 ∨ s = -1) : iZ s = 0 ↔ s = 0 := by rw [z_0, iZ_eq (by omega) (by omega)]
theorem sge {s t : Int} (h : s = 0 ∨ s = 1 ∨ s = -1) (k : t = 0 ∨ t = 1 ∨ t = -1) : iZ s = iZ t ↔ s = t := iZ_eq (by omega) (by omega)
def qSum (a b : Qn) (sb : Int) : Qn := rd (a.1 * ((a.2.1 * b.2.2 : Nat) : Int) + sb * ((b.2.1 * a.2.2 : Nat) : Int)) (a.2.2 * b.2.2)
theorem sum_118 {M : me_M} {K pb g A L : Nat} {vs : Nat → Nat} {b Q : Qn} {s : Int} (h : RK M K vs) (hb : Fx M K pb b) (h2' : vs 2 = g) (h3' : vs 3 = A) (h5' : vs 5 = L) (hg : g < 2 ^ (31 * 17)) (hA : A < 2 ^ (31 * 17)) (hL : L < 2 ^ (31 * 70)) (hQ0 : L = 0 → Q = (0, 0, 1)) (hQ1 : 0 < L → Nf (s, L / Nat.gcd L g, A * (b.2.2 / Nat.gcd L g)) ∧ Q = (s, L / Nat.gcd L g, A * (b.2.2 / Nat.gcd L g))) :
    ∃ (M' : me_M) (v : Value), sm T_X3_sum (118, [(0, .ref K), (2, .ref pb), (4, .int (iZ s))], [], M, 0, 0) = some (some v, M') ∧ Rs M M' K v Q := by
  obtain ⟨ba, bb, cba, cbb, ob', Wba, Wbb, kba, kbb⟩ := hb.ob
  have WL := h.at 5 (w := K + 18) (by omega) (by omega)
  rw [h5'] at WL
  obtain ⟨t, o1, o2, o3, _⟩ := WL.obj
  rw [e_X3_sum_118]
  simp only [h.o, bS, rk7, vR, o1, g1, vI]
  by_cases hz : L = 0
  · rw [if_pos (by rw [o3.mpr hz]; rfl)]
    simp only [rk0, bS, vN]
    rw [if_pos (by decide), hQ0 hz]
    exact ⟨M, _, rfl, h.rz⟩
  · have ht : t ≠ 0 := fun q => hz (o3.mp q)
    rw [if_neg (by rw [z_0, iZ_eq (by omega) (by omega)]; omega)]
    obtain ⟨N1, N2⟩ := hQ1 (by omega)
    have C := h.at 2 (w := K + 12) (by omega) (by omega)
    rw [h2'] at C
    obtain ⟨M', v, f, S⟩ := over_s (s := s) h C Wbb h5' h3' (by omega) kbb hL (p31 hg (by omega)) (p527 hb.2.2.1.2) hA (by omega) N1
    simp only [rk4, ob', bS, h2, f]
    rw [N2]
    exact ⟨M', v, S.pass (by decide), S⟩
theorem cmp_neg {U V : Nat} : cmpN U V < 0 ↔ U < V := by
  unfold cmpN
  by_cases h : U < V
  · rw [if_pos h]; exact ⟨fun _ => h, fun _ => by decide⟩
  · rw [if_neg h]
    by_cases h2 : U = V
    · rw [if_pos h2]; exact ⟨fun q => absurd q (by decide), fun q => absurd q h⟩
    · rw [if_neg h2]; exact ⟨fun q => absurd q (by decide), fun q => absurd q h⟩
theorem sum_s {M : me_M} {K pa pb : Nat} {vs : Nat → Nat} {a b : Qn} {sb : Int} (h : RK M K vs) (ha : Fx M K pa a) (hb : Fx M K pb b) (hsb : sb = b.1 ∨ sb = -b.1) :
    ∃ (M' : me_M) (v : Value), f_X3_sum [.ref K, .ref pa, .ref pb, .int (iZ sb)] M = some (some v, M') ∧ Rs M M' K v (qSum a b sb) := by
  have aN := ha.2.1
  have bN := hb.2.1
  have hsb3 : sb = 0 ∨ sb = 1 ∨ sb = -1 := by have := bN.1; omega
  obtain ⟨aa, ab, caa, cab, oa, Waa, Wab, kaa, kab⟩ := ha.ob
  obtain ⟨ba, bb, cba, cbb, ob', Wba, Wbb, kba, kbb⟩ := hb.ob
  rw [e_X3_sum]
  by_cases hs0 : sb = 0
  · rw [if_pos ((sgz hsb3).mpr hs0), if_pos (by decide)]
    have e : qSum a b sb = a := by
      unfold qSum
      rw [hs0]
      refine rd_uniq (s := a.1) (n := a.2.1) (d := a.2.2) aN (Nat.mul_pos aN.2.2.1 bN.2.2.1) ?_
      push_cast
      grind
    rw [e]
    exact ⟨M, _, rfl, ⟨vs, h⟩, FK.refl _ _, Or.inl ⟨ha.2.2.1, pa, rfl, ha⟩⟩
  rw [if_neg (by rw [sgz hsb3]; exact hs0)]
  simp only [oa, bS, g0, vI]
  by_cases hsa : a.1 = 0
  · rw [if_pos ((sgz aN.1).mpr hsa)]
    have hz := h.z0.lt h.dm
    have hlb := mo_lt h.dm ob'
    have ob1 : me_obj (me_new M (.inr (2, [.int 0, .null, .null]))) 2 pb = some [.int (iZ b.1), .ref ba, .ref bb] := by rw [mo_of (new_ne hlb)]; exact ob'
    have of1 : me_obj (me_new M (.inr (2, [.int 0, .null, .null]))) 2 M.1 = some [.int 0, .null, .null] := mo_at (new_eq _ _)
    simp only [ob1, bS, g1, h2, of1, frac_init of1, cNn]
    rw [if_pos (by decide)]
    have hn0 : b.2.1 ≠ 0 := fun q => by have := bN.2.1.mpr q; omega
    have bN' : Nf (sb, b.2.1, b.2.2) := Nf.mk (by omega) (by omega) bN.2.2.1 bN.2.2.2
    have e : qSum a b sb = (sb, b.2.1, b.2.2) := by
      unfold qSum
      have hz : a.2.1 = 0 := aN.2.1.mp hsa
      refine rd_uniq bN' (Nat.mul_pos aN.2.2.1 bN.2.2.1) ?_
      rw [hsa, hz]
      push_cast
      grind
    rw [e]
    have all : ∀ p, p < M.1 → (me_set (me_new M (.inr (2, [.int 0, .null, .null]))) M.1 (.inr (2, [.int (iZ sb), .ref ba, .ref bb]))).2 p = M.2 p := fun p hp => by rw [set_ne (by omega), new_ne hp]
    have hFK : FK M (me_set (me_new M (.inr (2, [.int 0, .null, .null]))) M.1 (.inr (2, [.int (iZ sb), .ref ba, .ref bb]))) K := ⟨by rw [set_1, new_1]; omega, fun p hp _ => all p hp⟩
    have mvW : ∀ {a c v : Nat}, Wh M a c v → Wh (me_set (me_new M (.inr (2, [.int 0, .null, .null]))) M.1 (.inr (2, [.int (iZ sb), .ref ba, .ref bb]))) a c v := fun q => by
      have := q.lt h.dm
      exact q.of (all _ (by omega)) (all _ this)
    refine ⟨_, _, rfl, ⟨vs, h.dm.new.set (by rw [new_1]; omega), ob_fk h.o (Or.inl (by omega)) h.dm hFK, ?_, fun i hi => mvW (h.w hi), mvW h.one, ob_fk h.zo (Or.inr (by omega)) h.dm hFK, mvW h.z0⟩, hFK, Or.inl ⟨hb.2.2.1, M.1, rfl, by omega, bN', hb.2.2.1, ba, bb, cba, cbb, mo_set _ _ _ _, mvW Wba, mvW Wbb, kba, kbb⟩⟩
    obtain ⟨x', y', v1, v2, v3, c3, c4, c5, c6, e1, e2, e3, e4, e5⟩ := h.eu
    refine ⟨x', y', v1, v2, v3, c3, c4, c5, c6, e1, ?_, mvW e3, mvW e4, mvW e5⟩
    rw [mo_of (all _ (by omega))]; exact e2
  rw [if_neg (by rw [sgz aN.1]; exact hsa)]
  obtain ⟨M1, ws, f1, R1, F1, w2, w3, w4, w5, w6⟩ := bring_s h ha hb
  have oa1 := ob_fk oa (Or.inr ha.1) h.dm F1
  have hb1 := hb.fk h.dm F1
  have sda := p527 ha.2.2.1.2
  have sdb := p527 hb.2.2.1.2
  have sna := p527 ha.2.2.1.1
  have snb := p527 hb.2.2.1.1
  -- the parts
  obtain ⟨cA, cB, g, e1, e2, e3, e4, e5, e6, e7, e8, e9⟩ := gcd_parts aN.2.2.1 bN.2.2.1
  rw [e1] at w2
  rw [e1, e4] at w3
  rw [e1, e5] at w4
  rw [e1, e5] at w5
  rw [e1, e4] at w6
  have hcA : cA ≤ a.2.2 := by rw [← e4]; exact Nat.div_le_self _ _
  have hcB : cB ≤ b.2.2 := by rw [← e5]; exact Nat.div_le_self _ _
  have hgl : g ≤ a.2.2 := by rw [← e1]; exact Nat.gcd_le_left _ aN.2.2.1
  have hna : 0 < a.2.1 := Nat.pos_of_ne_zero (fun q => hsa (aN.2.1.mpr q))
  have hnb : 0 < b.2.1 := Nat.pos_of_ne_zero (fun q => by have := bN.2.1.mpr q; omega)
  have hl5 : ws 5 < 2 ^ (31 * 34) := by rw [w5]; exact p31m (m := 17) (n := 17) sna (Nat.lt_of_le_of_lt hcB sdb)
  have hl6 : ws 6 < 2 ^ (31 * 34) := by rw [w6]; exact p31m (m := 17) (n := 17) snb (Nat.lt_of_le_of_lt hcA sda)
  have hsa2 : a.1 = 1 ∨ a.1 = -1 := by have := aN.1; omega
  have hsb2 : sb = 1 ∨ sb = -1 := by omega
  have key : ∀ (s : Int) (L : Nat), (s = 1 ∨ s = -1) → s * (L : Int) = a.1 * ((a.2.1 * cB : Nat) : Int) + sb * ((b.2.1 * cA : Nat) : Int) → (L = 0 → qSum a b sb = (0, 0, 1)) ∧ (0 < L → Nf (s, L / Nat.gcd L g, cA * (b.2.2 / Nat.gcd L g)) ∧ qSum a b sb = (s, L / Nat.gcd L g, cA * (b.2.2 / Nat.gcd L g))) := by
    intro s L hs hZ
    constructor
    · intro hL
      unfold qSum
      have : a.1 * ((a.2.1 * b.2.2 : Nat) : Int) + sb * ((b.2.1 * a.2.2 : Nat) : Int) = 0 := by
        have e : a.1 * ((a.2.1 * b.2.2 : Nat) : Int) + sb * ((b.2.1 * a.2.2 : Nat) : Int) = (s * (L : Int)) * g := by
          rw [hZ, e2, e3]
          push_cast
          grind
        rw [e, hL]
        omega
      rw [this]
      exact rd_0 (Nat.mul_pos aN.2.2.1 bN.2.2.1)
    · intro hL
      have := sum_key (na := a.2.1) (nb := b.2.1) e7 e8 e9 e6 (by rw [← e2]; exact aN.2.2.2) (by rw [← e3]; exact bN.2.2.2) hsa2 hsb2 hs hL hZ
      rw [← e2, ← e3] at this
      exact this
  have l1 := R1.at 5 (w := K + 18) (by omega) (by omega)
  have r1 := R1.at 6 (w := K + 20) (by omega) (by omega)
  rw [h.o]
  simp only [f1, bS, cNn, oa1, g0, vI, R1.o, rk7, rk8, vR]
  by_cases hse : a.1 = sb
  · rw [if_pos ((sge aN.1 hsb3).mpr hse), l1.b]
    obtain ⟨M2, f2, W2, G2⟩ := sumW (m := 34) l1 l1 r1 hl5 hl6 (by omega)
    obtain ⟨R2, F2⟩ := R1.opw 5 (by omega) (by omega) W2 G2
    simp only [f2, bS, cNn]
    rw [e_X3_sum_65]
    obtain ⟨q0, q1⟩ := key a.1 (ws 5 + ws 6) hsa2 (by rw [w5, w6, ← hse]; push_cast; grind)
    obtain ⟨M', v, f3, S3⟩ := sum_118 (s := a.1) (L := ws 5 + ws 6) R2 (hb1.fk R1.dm F2) (by rw [up_n _ _ (by omega)]; exact w2) (by rw [up_n _ _ (by omega)]; exact w3) (up_s _ _ _) (Nat.lt_of_le_of_lt hgl sda) (Nat.lt_of_le_of_lt hcA sda) (by
      have h9 := Nat.pow_le_pow_right (show 0 < 2 by decide) (show 31 * 34 + 1 ≤ 31 * 70 by omega)
      rw [Nat.pow_succ] at h9
      omega) q0 q1
    exact ⟨M', v, f3, Rs.trans (F1.trans F2) S3⟩
  · rw [if_neg (by rw [sge aN.1 hsb3]; exact hse), l1.b]
    have hop : sb = -a.1 := by omega
    simp only [cmpW l1 r1, bS, vI, R1.o, rk7, rk8, vR]
    by_cases hlt : ws 5 < ws 6
    · rw [if_pos (cmp_neg.mpr hlt), l1.b]
      obtain ⟨M2, f2, W2, G2⟩ := diffW (m := 34) l1 r1 l1 hl6 (by omega) (Nat.le_of_lt hlt)
      obtain ⟨R2, F2⟩ := R1.opw 5 (by omega) (by omega) W2 G2
      simp only [f2, bS, cNn]
      obtain ⟨q0, q1⟩ := key sb (ws 6 - ws 5) hsb2 (by rw [← w5, ← w6, Int.ofNat_sub (Nat.le_of_lt hlt), hop]; grind)
      obtain ⟨M', v, f3, S3⟩ := sum_118 (s := sb) (L := ws 6 - ws 5) R2 (hb1.fk R1.dm F2) (by rw [up_n _ _ (by omega)]; exact w2) (by rw [up_n _ _ (by omega)]; exact w3) (up_s _ _ _) (Nat.lt_of_le_of_lt hgl sda) (Nat.lt_of_le_of_lt hcA sda) (p31 (m := 34) (by omega) (by omega)) q0 q1
      exact ⟨M', v, f3, Rs.trans (F1.trans F2) S3⟩
    · rw [if_neg (fun q => hlt (cmp_neg.mp q)), l1.b]
      obtain ⟨M2, f2, W2, G2⟩ := diffW (m := 34) l1 l1 r1 hl5 (by omega) (by omega)
      obtain ⟨R2, F2⟩ := R1.opw 5 (by omega) (by omega) W2 G2
      simp only [f2, bS, cNn]
      obtain ⟨q0, q1⟩ := key a.1 (ws 5 - ws 6) hsa2 (by rw [← w5, ← w6, Int.ofNat_sub (by omega), hop]; grind)
      obtain ⟨M', v, f3, S3⟩ := sum_118 (s := a.1) (L := ws 5 - ws 6) R2 (hb1.fk R1.dm F2) (by rw [up_n _ _ (by omega)]; exact w2) (by rw [up_n _ _ (by omega)]; exact w3) (up_s _ _ _) (Nat.lt_of_le_of_lt hgl sda) (Nat.lt_of_le_of_lt hcA sda) (p31 (m := 34) (by omega) (by omega)) q0 q1
      exact ⟨M', v, f3, Rs.trans (F1.trans F2) S3⟩
