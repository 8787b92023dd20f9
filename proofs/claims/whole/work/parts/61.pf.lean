/-! lead, alike, count, letter, clear -/
def ld (f : Nat → Qn) : Nat → Nat → Int
  | 0, _ => -1
  | d + 1, i => if (f i).1 = 0 then ld f d (i + 1) else (i : Int)
theorem ld_b (f : Nat → Qn) : ∀ d i : Nat, ld f d i = -1 ∨ ∃ k : Nat, ld f d i = (k : Int) ∧ i ≤ k ∧ k < i + d ∧ (f k).1 ≠ 0 := by
  intro d
  induction d with
  | zero => intro i; exact Or.inl rfl
  | succ d ih =>
    intro i
    show (if (f i).1 = 0 then ld f d (i + 1) else (i : Int)) = -1 ∨ ∃ k : Nat, (if (f i).1 = 0 then ld f d (i + 1) else (i : Int)) = (k : Int) ∧ _
    by_cases h : (f i).1 = 0
    · rw [if_pos h]
      rcases ih (i + 1) with e | ⟨k, e, k1, k2, k3⟩
      · exact Or.inl e
      · exact Or.inr ⟨k, e, by omega, by omega, k3⟩
    · rw [if_neg h]
      exact Or.inr ⟨i, rfl, by omega, by omega, h⟩
theorem ld_z (f : Nat → Qn) : ∀ d i j : Nat, i ≤ j → j < i + d → (ld f d i = -1 ∨ (j : Int) < ld f d i) → (f j).1 = 0 := by
  intro d
  induction d with
  | zero => intro i j h1 h2 _; omega
  | succ d ih =>
    intro i j h1 h2 h3
    have e : ld f (d + 1) i = if (f i).1 = 0 then ld f d (i + 1) else (i : Int) := rfl
    rw [e] at h3
    by_cases h : (f i).1 = 0
    · rw [if_pos h] at h3
      by_cases k : j = i
      · subst k; exact h
      · exact ih (i + 1) j (by omega) (by omega) h3
    · rw [if_neg h] at h3
      omega
theorem first_l {M : me_M} {A p q n : Nat} {pf : Nat → Option Nat} {f : Nat → Qn} (ho : me_obj M 4 p = some [.ref q]) (hq : me_ref M 3 q = some (n, pf)) (hn : n ≤ 10) (hV : VF M (A + 1) pf n f) : ∀ (d i : Nat), d + i = n →
    sm T_X4_firstNotZero (2, [(0, .ref p), (1, .int (iZ i))], [], M, 0, 0) = some (some (.int (iZ (ld f d i))), M) := by
  intro d
  induction d with
  | zero =>
    intro i hd
    rw [e_X4_firstNotZero_2]
    simp only [ho, bS, g0, vF, len_r hq (by omega), iZ_nat]
    rw [if_pos (by rw [iZ_le (by omega) (by omega)]; omega), c00]
    rfl
  | succ d ih =>
    intro i hd
    obtain ⟨pa, ea, Fa⟩ := hV i (by omega)
    obtain ⟨_, _, _, _, oa, _⟩ := Fa.ob
    rw [e_X4_firstNotZero_2]
    simp only [ho, bS, g0, vF, len_r hq (by omega), iZ_nat, hq]
    rw [if_neg (by rw [iZ_le (by omega) (by omega)]; omega), iZ_clampN (by omega), if_neg (nob (iZ_n0 (by omega)) (by omega))]
    simp only [ea, rfS, vF, bS, oa, g0, vI]
    show _ = some (some (Value.int (iZ (if (f i).1 = 0 then ld f d (i + 1) else (i : Int)))), M)
    by_cases hz : (f i).1 = 0
    · rw [if_pos ((sgz Fa.2.1.1).mpr hz), if_pos hz, z_p1]
      exact ih (i + 1) (by omega)
    · rw [if_neg (fun z => hz ((sgz Fa.2.1.1).mp z)), if_neg hz, c00]
theorem first_s {M : me_M} {A : Nat} {s : Sx} {vs : Nat → Nat} {vf rf ff : Nat → Option Nat} {lf df : Nat → Int32} {r p q : Nat} (h : PG M A s vs vf rf ff lf df) (hr : r < sR s) (k : Rq M A rf r p q) : f_X4_firstNotZero [.ref p] M = some (some (.int (iZ (ld (sP s r) (sL s r) 0))), M) := by
  obtain ⟨a1, a2, a3, pf, a4, a5⟩ := h.at hr k
  rw [e_X4_firstNotZero]
  exact first_l k.2.2 a4 a3 a5 (sL s r) 0 (by omega)
def tLe (s : Sx) (x : Int32) : Int32 × Sx := if isV (sR s) x then (iZ (ld (sP s x.toNatClampNeg) (sL s x.toNatClampNeg) 0), s) else (-2, s)
theorem leadV_s {M : me_M} {A : Nat} {s : Sx} {x : Int32} (h : PF M A s) : Ac M A (f_X6_lead [.ref A, .int x] M) (tLe s x) := by
  have hP := h
  obtain ⟨vs, vf, rf, ff, lf, df, h⟩ := h
  have hm := h.m
  rw [e_X6_lead]
  simp only [h.o, bS, isRow_s h.o h.m, vI, h.rr, pf3, vF]
  by_cases hx : isV (sR s) x
  · rw [if_pos hx, if_neg i10, if_neg (hx.no hm (by omega)), show tLe s x = _ from if_pos hx]
    have hx' := hx.lt (by omega)
    obtain ⟨p, q, K⟩ := h.row hx'
    simp only [K.1, rfS, vF, bS, K.2.2, first_s h hx' K, vI]
    exact ⟨M, c00, hP, GF.refl _ _⟩
  · rw [if_neg hx, if_pos rfl, show tLe s x = (-2, s) from if_neg hx]
    exact ⟨M, c00, hP, GF.refl _ _⟩
theorem equal_l {M : me_M} {A : Nat} {s : Sx} {vs : Nat → Nat} {vf rf ff : Nat → Option Nat} {lf df : Nat → Int32} {r p q r' p' q' : Nat} (h : PG M A s vs vf rf ff lf df) (hr : r < sR s) (hr' : r' < sR s) (he : sL s r = sL s r') (k : Rq M A rf r p q) (k' : Rq M A rf r' p' q') : ∀ (d i : Nat), d + i = sL s r → (∀ j, j < i → sP s r j = sP s r' j) →
    sm T_X6_areEqual (2, [(1, .ref p), (2, .ref p'), (3, .int (iZ i))], [], M, 0, 0) = some (some (.int (if ∀ j, j < sL s r → sP s r j = sP s r' j then 1 else 0)), M) := by
  obtain ⟨a1, a2, a3, pf, a4, a5⟩ := h.at hr k
  obtain ⟨b1, b2, b3, pf', b4, b5⟩ := h.at hr' k'
  intro d
  induction d with
  | zero =>
    intro i hd hj
    rw [e_X6_areEqual_2]
    simp only [k.2.2, bS, g0, vF, len_r a4 (by omega), iZ_nat]
    rw [if_pos (by rw [iZ_le (by omega) (by omega)]; omega), cT1, c00, if_pos (fun j z => hj j (by omega))]
  | succ d ih =>
    intro i hd hj
    obtain ⟨pa, ea, Fa⟩ := a5 i (by omega)
    obtain ⟨pb, eb, Fb⟩ := b5 i (by omega)
    obtain ⟨_, _, _, _, oa, _⟩ := Fa.ob
    rw [e_X6_areEqual_2]
    simp only [k.2.2, k'.2.2, bS, g0, vF, len_r a4 (by omega), iZ_nat, a4, b4]
    rw [if_neg (by rw [iZ_le (by omega) (by omega)]; omega), iZ_clampN (by omega), if_neg (nob (iZ_n0 (by omega)) (by omega)), if_neg (nob (iZ_n0 (by omega)) (by omega))]
    simp only [ea, eb, rfS, vF, bS, oa, same_s Fa Fb, vI]
    by_cases hz : sP s r i = sP s r' i
    · rw [if_pos hz, if_neg i10, z_p1]
      refine ih (i + 1) (by omega) (fun j z => ?_)
      by_cases e : j = i
      · subst e; exact hz
      · exact hj j (by omega)
    · rw [if_neg hz, if_pos rfl, cT0, c00, if_neg (fun z => hz (z i (by omega)))]
abbrev qRx (a b c d : Qn) : Prop := a.1 * d.1 = c.1 * b.1 ∧ a.2.1 * d.2.1 * (c.2.2 * b.2.2) = c.2.1 * b.2.1 * (a.2.2 * d.2.2)
theorem prop_l {A : Nat} {s : Sx} {r p q r' p' q' t : Nat} {rf : Nat → Option Nat} (hr : r < sR s) (hr' : r' < sR s) (he : sL s r = sL s r') (ht : t < sL s r) : ∀ (d i : Nat) (M : me_M) (vs : Nat → Nat) (vf ff : Nat → Option Nat) (lf df : Nat → Int32), d + i = sL s r → PG M A s vs vf rf ff lf df → Rq M A rf r p q → Rq M A rf r' p' q' → (∀ j, j < i → qRx (sP s r j) (sP s r t) (sP s r' j) (sP s r' t)) →
    Ac M A (sm T_X6_areInProportion (27, [(0, .ref A), (1, .ref p), (2, .ref p'), (3, .int (iZ t)), (4, .int (iZ i))], [], M, 0, 0)) ((if ∀ j, j < sL s r → qRx (sP s r j) (sP s r t) (sP s r' j) (sP s r' t) then 1 else 0), s) := by
  intro d
  induction d with
  | zero =>
    intro i M vs vf ff lf df hd h k k' hj
    obtain ⟨a1, a2, a3, pf, a4, a5⟩ := h.at hr k
    rw [e_X6_areInProportion_27]
    simp only [k.2.2, bS, g0, vF, len_r a4 (by omega), iZ_nat]
    rw [if_pos (by rw [iZ_le (by omega) (by omega)]; omega), cT1, c00, if_pos (fun j z => hj j (by omega))]
    exact ⟨M, rfl, ⟨vs, vf, rf, ff, lf, df, h⟩, GF.refl _ _⟩
  | succ d ih =>
    intro i M vs vf ff lf df hd h k k' hj
    have hD := h.rk.dm
    obtain ⟨a1, a2, a3, pf, a4, a5⟩ := h.at hr k
    obtain ⟨b1, b2, b3, pf', b4, b5⟩ := h.at hr' k'
    obtain ⟨pa, ea, Fa⟩ := a5 i (by omega)
    obtain ⟨pb, eb, Fb⟩ := a5 t (by omega)
    obtain ⟨pc, ec, Fc⟩ := b5 i (by omega)
    obtain ⟨pd, ed, Fd⟩ := b5 t (by omega)
    haveI : Decidable (qRat (sP s r i) (sP s r t) (sP s r' i) (sP s r' t)) := inferInstanceAs (Decidable (qRx (sP s r i) (sP s r t) (sP s r' i) (sP s r' t)))
    obtain ⟨N, f, R⟩ := ratio_s h.rk Fa Fb Fc Fd
    obtain ⟨⟨ws, hw⟩, kN, _⟩ := R
    have hNg := h.fk hw kN
    rw [e_X6_areInProportion_27]
    simp only [k.2.2, k'.2.2, bS, g0, vF, len_r a4 (by omega), iZ_nat, a4, b4, h.o, pf0, h.rk.o]
    rw [if_neg (by rw [iZ_le (by omega) (by omega)]; omega), iZ_clampN (by omega : i < 2147483648), iZ_clampN (by omega : t < 2147483648), if_neg (nob (iZ_n0 (by omega)) (by omega)), if_neg (nob (iZ_n0 (by omega)) (by omega)), if_neg (nob (iZ_n0 (by omega)) (by omega)), if_neg (nob (iZ_n0 (by omega)) (by omega))]
    simp only [ea, eb, ec, ed, rfS, f, bS, vI]
    by_cases hz : qRat (sP s r i) (sP s r t) (sP s r' i) (sP s r' t)
    · rw [if_pos hz, if_neg i10, z_p1]
      refine Ac.trans kN.gf (ih (i + 1) N ws vf ff lf df (by omega) hNg (k.fk hD kN) (k'.fk hD kN) (fun j z => ?_))
      by_cases e : j = i
      · subst e; exact hz
      · exact hj j (by omega)
    · rw [if_neg hz, if_pos rfl, cT0, c00, if_neg (fun z => hz (z i (by omega)))]
      exact ⟨N, rfl, ⟨ws, vf, rf, ff, lf, df, hNg⟩, kN.gf⟩
/-- whether two ROWS are alike, or in proportion -/
def tAl (s : Sx) (x y w : Int32) : Int32 × Sx := if isA s x y ∧ isV 2 w then ((if w = 0 then (if ∀ j, j < sL s x.toNatClampNeg → sP s x.toNatClampNeg j = sP s y.toNatClampNeg j then 1 else 0) else if ld (sP s x.toNatClampNeg) (sL s x.toNatClampNeg) 0 = ld (sP s y.toNatClampNeg) (sL s y.toNatClampNeg) 0 then (if ld (sP s x.toNatClampNeg) (sL s x.toNatClampNeg) 0 = -1 then 1 else if ∀ j, j < sL s x.toNatClampNeg → qRx (sP s x.toNatClampNeg j) (sP s x.toNatClampNeg (ld (sP s x.toNatClampNeg) (sL s x.toNatClampNeg) 0).toNat) (sP s y.toNatClampNeg j) (sP s y.toNatClampNeg (ld (sP s x.toNatClampNeg) (sL s x.toNatClampNeg) 0).toNat) then 1 else 0) else 0), s) else (-2, s)
theorem al_60 {M : me_M} {x : Int32} (h : x = 0 ∨ x = 1) : sm T_X6_alike (60, [], [.int x], M, 0, 0) = some (some (.int x), M) := by
  rw [e_X6_alike_60]
  rcases h with rfl | rfl
  · rw [if_pos rfl, c00]
  · rw [if_neg i10, c00]
theorem i01 {P : Prop} [Decidable P] : (if P then (1 : Int32) else 0) = 0 ∨ (if P then (1 : Int32) else 0) = 1 := by
  by_cases h : P
  · rw [if_pos h]; exact Or.inr rfl
  · rw [if_neg h]; exact Or.inl rfl
theorem Nf.s0 {q : Qn} (h : Nf q) (h0 : q.1 = 0) : q.2.1 = 0 := h.2.1.mp h0
theorem rat_z {a b c d : Qn} (ha : a.1 = 0) (hc : c.1 = 0) (ha2 : a.2.1 = 0) (hc2 : c.2.1 = 0) : qRx a b c d := ⟨by rw [ha, hc, Int.zero_mul, Int.zero_mul], by rw [ha2, hc2, Nat.zero_mul, Nat.zero_mul, Nat.zero_mul, Nat.zero_mul]⟩
theorem rat_e {a c : Qn} : qRx a a c c := ⟨Int.mul_comm _ _, by rw [Nat.mul_comm a.2.1, Nat.mul_comm c.2.2]⟩
theorem propo_s {M : me_M} {A : Nat} {s : Sx} {vs : Nat → Nat} {vf rf ff : Nat → Option Nat} {lf df : Nat → Int32} {r p q r' p' q' : Nat} (h : PG M A s vs vf rf ff lf df) (hr : r < sR s) (hr' : r' < sR s) (he : sL s r = sL s r') (k : Rq M A rf r p q) (k' : Rq M A rf r' p' q') :
    Ac M A (f_X6_areInProportion [.ref A, .ref p, .ref p'] M) ((if ld (sP s r) (sL s r) 0 = ld (sP s r') (sL s r') 0 then (if ld (sP s r) (sL s r) 0 = -1 then 1 else if ∀ j, j < sL s r → qRx (sP s r j) (sP s r (ld (sP s r) (sL s r) 0).toNat) (sP s r' j) (sP s r' (ld (sP s r) (sL s r) 0).toNat) then 1 else 0) else 0), s) := by
  have hP : PF M A s := ⟨vs, vf, rf, ff, lf, df, h⟩
  obtain ⟨a1, a2, a3, pf, a4, a5⟩ := h.at hr k
  obtain ⟨b1, b2, b3, pf', b4, b5⟩ := h.at hr' k'
  have hb : -1 ≤ ld (sP s r) (sL s r) 0 ∧ ld (sP s r) (sL s r) 0 < 100 := by rcases ld_b (sP s r) (sL s r) 0 with e | ⟨t, e, t1, t2, t3⟩ <;> omega
  have hb' : -1 ≤ ld (sP s r') (sL s r') 0 ∧ ld (sP s r') (sL s r') 0 < 100 := by rcases ld_b (sP s r') (sL s r') 0 with e | ⟨t, e, t1, t2, t3⟩ <;> omega
  rw [e_X6_areInProportion]
  simp only [k.2.2, k'.2.2, bS, first_s h hr k, first_s h hr' k', vI]
  by_cases hl : ld (sP s r) (sL s r) 0 = ld (sP s r') (sL s r') 0
  · rw [if_pos (by rw [hl]), if_pos hl]
    by_cases hm : ld (sP s r) (sL s r) 0 = -1
    · rw [if_pos (by rw [hm]; rfl), if_pos hm, cT1, c00]
      exact ⟨M, rfl, hP, GF.refl _ _⟩
    · rw [if_neg (by rw [show (-1 : Int32) = iZ (-1) from rfl, iZ_eq (by omega) (by omega)]; exact hm), if_neg hm]
      rcases ld_b (sP s r) (sL s r) 0 with e | ⟨t, e, t1, t2, t3⟩
      · exact absurd e hm
      · rw [e, z_p1, Int.toNat_natCast]
        refine prop_l hr hr' he (by omega) (sL s r - (t + 1)) (t + 1) M vs vf ff lf df (by omega) h k k' (fun j z => ?_)
        by_cases ej : j = t
        · subst ej; exact rat_e
        · have za := ld_z (sP s r) (sL s r) 0 j (by omega) (by omega) (Or.inr (by omega))
          have zb := ld_z (sP s r') (sL s r') 0 j (by omega) (by omega) (Or.inr (by omega))
          obtain ⟨_, _, Fa⟩ := a5 j (by omega)
          obtain ⟨_, _, Fb⟩ := b5 j (by omega)
          exact rat_z za zb (Fa.2.1.s0 za) (Fb.2.1.s0 zb)
  · rw [if_neg (by rw [iZ_eq (by omega) (by omega)]; exact hl), if_neg hl, cT0, c00]
    exact ⟨M, rfl, hP, GF.refl _ _⟩
theorem alikeV_s {M : me_M} {A : Nat} {s : Sx} {x y w : Int32} (h : PF M A s) : Ac M A (f_X6_alike [.ref A, .int x, .int y, .int w] M) (tAl s x y w) := by
  have hP := h
  obtain ⟨vs, vf, rf, ff, lf, df, h⟩ := h
  have hm := h.m
  obtain ⟨W, e, w1, w2, t⟩ := i_rep w
  rw [e_X6_alike]
  simp only [h.o, bS, areAsLong_s h, vI, h.rr, pf3, vF]
  by_cases ha : isA s x y
  · rw [if_pos ha, if_neg i10]
    by_cases hw0 : W < 0
    · rw [if_pos (by rw [e, z_0, iZ_lt (by omega) (by omega)]; exact hw0), show tAl s x y w = (-2, s) from if_neg (fun z => by have := z.2.1; omega)]
      exact ⟨M, c00, hP, GF.refl _ _⟩
    · rw [if_neg (by rw [e, z_0, iZ_lt (by omega) (by omega)]; exact hw0)]
      by_cases hw1 : W ≤ 1
      · rw [if_pos (by rw [e, z_1, iZ_le (by omega) (by omega)]; exact hw1), show tAl s x y w = _ from if_pos ⟨ha, by constructor <;> omega⟩]
        have hx := ha.1.lt (by omega)
        have hy := ha.2.1.lt (by omega)
        obtain ⟨p, q, K⟩ := h.row hx
        obtain ⟨p', q', K'⟩ := h.row hy
        by_cases hz : w = 0
        · have f := equal_l h hx hy ha.2.2 K K' (sL s x.toNatClampNeg) 0 (by omega) (fun j z => absurd z (by omega))
          have f2 : f_X6_areEqual [.ref A, .ref p, .ref p'] M = _ := (e_X6_areEqual A p p' M).trans f
          rw [if_pos hz, if_neg (ha.1.no hm (by omega)), if_neg (ha.2.1.no hm (by omega)), if_pos hz]
          simp only [K.1, K'.1, rfS, bS, f2, vI]
          rw [al_60 i01]
          exact ⟨M, rfl, hP, GF.refl _ _⟩
        · obtain ⟨N, f, P, G⟩ := propo_s h hx hy ha.2.2 K K'
          rw [if_neg hz, if_neg (ha.1.no hm (by omega)), if_neg (ha.2.1.no hm (by omega)), if_neg hz]
          simp only [K.1, K'.1, rfS, bS, f, vI]
          rw [al_60 (by split; split; exact Or.inr rfl; exact i01; exact Or.inl rfl)]
          exact ⟨N, rfl, P, G⟩
      · rw [if_neg (by rw [e, z_1, iZ_le (by omega) (by omega)]; exact hw1), show tAl s x y w = (-2, s) from if_neg (fun z => by have := z.2.2; omega)]
        exact ⟨M, c00, hP, GF.refl _ _⟩
  · rw [if_neg ha, if_pos rfl, show tAl s x y w = (-2, s) from if_neg (fun z => ha z.1)]
    exact ⟨M, c00, hP, GF.refl _ _⟩
def tCo (s : Sx) (x : Int32) : Int32 × Sx := (if x.toInt = 0 then iZ (sN s) else if x.toInt = 1 then iZ (sR s) else if x.toInt = 2 then iZ (cs (sV s) (sN s)) else if x.toInt = 3 then iZ (sW s) else if x.toInt = 4 then iZ (gl (sV s) (sN s)) else -2, s)
theorem countV_s {M : me_M} {A : Nat} {s : Sx} {x : Int32} (h : PF M A s) : Ac M A (f_X6_count [.ref A, .int x] M) (tCo s x) := by
  refine ⟨M, ?_, h, GF.refl _ _⟩
  obtain ⟨vs, vf, rf, ff, lf, df, h⟩ := h
  rw [e_X6_count, e_X6_count_1]
  unfold tCo
  obtain ⟨X, hX⟩ : ∃ X : Int, x.toInt = X := ⟨_, rfl⟩
  simp only [hX]
  by_cases h1 : X < 0 ∨ 4 < X
  · rw [if_pos h1, e_X6_count_61, c00, if_neg (by omega), if_neg (by omega), if_neg (by omega), if_neg (by omega), if_neg (by omega)]
  · rw [if_neg h1]
    have hc : X = 0 ∨ X = 1 ∨ X = 2 ∨ X = 3 ∨ X = 4 := by omega
    rcases hc with rfl | rfl | rfl | rfl | rfl
    · show sm T_X6_count (36, _, _, M, 0, 0) = _
      rw [e_X6_count_36]
      simp only [h.o, bS, pf5, vI]
      exact c00
    · show sm T_X6_count (41, _, _, M, 0, 0) = _
      rw [e_X6_count_41]
      simp only [h.o, bS, pf6, vI]
      exact c00
    · show sm T_X6_count (46, _, _, M, 0, 0) = _
      rw [e_X6_count_46]
      simp only [h.o, bS, pf7, vI]
      exact c00
    · show sm T_X6_count (51, _, _, M, 0, 0) = _
      rw [e_X6_count_51]
      simp only [h.o, bS, pf8, vI]
      exact c00
    · show sm T_X6_count (56, _, _, M, 0, 0) = _
      rw [e_X6_count_56]
      simp only [h.o, bS, pf9, vI]
      exact c00
def tLt (s : Sx) (x : Int32) : Int32 × Sx := (if isV (sT s) x then iZ (sC s x.toNatClampNeg) else -1, s)
theorem letterV_s {M : me_M} {A : Nat} {s : Sx} {x : Int32} (h : PF M A s) : Ac M A (f_X6_letter [.ref A, .int x] M) (tLt s x) := by
  refine ⟨M, ?_, h, GF.refl _ _⟩
  obtain ⟨vs, vf, rf, ff, lf, df, h⟩ := h
  have hT := h.T
  obtain ⟨X, e, b1, b2, t⟩ := i_rep x
  rw [e_X6_letter]
  show _ = some (some (Value.int (if isV (sT s) x then iZ (sC s x.toNatClampNeg) else -1)), M)
  by_cases h1 : X < 0
  · rw [if_pos (by rw [e, z_0, iZ_lt (by omega) (by omega)]; exact h1), c00, if_neg (fun h => by have := h.1; omega)]
  · rw [if_neg (by rw [e, z_0, iZ_lt (by omega) (by omega)]; exact h1)]
    simp only [h.o, bS, pf1, vF, h.od, g0, g1, vI, h.il]
    by_cases h2 : X < sT s
    · have hv : isV (sT s) x := by constructor <;> omega
      rw [if_neg (by rw [e, iZ_le (by omega) (by omega)]; omega), if_neg (hv.no hT (by omega)), c00, if_pos hv, h.C _ (hv.lt (by omega))]
    · rw [if_pos (by rw [e, iZ_le (by omega) (by omega)]; omega), c00, if_neg (fun h => by have := h.2; omega)]
def tCl (s : Sx) : Int32 × Sx := (iZ (sN s), ((0, sV s), (0, sL s, sP s), 0, (0, sC s)))
/-- the letters told anew -/
theorem PG.lt {M : me_M} {A : Nat} {s : Sx} {vs : Nat → Nat} {vf rf ff : Nat → Option Nat} {lf df lf' df' : Nat → Int32} (h : PG M A s vs vf rf ff lf df) {s' : Sx} (e1 : s'.1 = s.1) (e2 : s'.2.1 = s.2.1) (e3 : sW s' = sW s) (hT : sT s' ≤ 216) (hC : ∀ j, j < sT s' → lf' j = iZ (sC s' j)) :
    PG (me_set (me_set (me_set M (A + 33) (.inl (2, 216, .inl lf'))) (A + 34) (.inl (2, 216, .inl df'))) (A + 32) (.inr (0, [.ref (A + 33), .int (iZ (sT s')), .ref (A + 34)]))) A s' vs vf rf ff lf' df' := by
  have hD := h.rk.dm
  have k1 : Sf M (me_set M (A + 33) (.inl (2, 216, .inl lf'))) := Sf.sb h.il
  have i2 : me_int (me_set M (A + 33) (.inl (2, 216, .inl lf'))) 2 (A + 34) = some (216, df) := (mi_ne _ _ _ _ _ (by omega)).trans h.ig
  have k2 : Sf M (me_set (me_set M (A + 33) (.inl (2, 216, .inl lf'))) (A + 34) (.inl (2, 216, .inl df'))) := k1.trans (Sf.sb i2)
  have o3 : me_obj (me_set (me_set M (A + 33) (.inl (2, 216, .inl lf'))) (A + 34) (.inl (2, 216, .inl df'))) 0 (A + 32) = some [.ref (A + 33), .int (iZ (sT s)), .ref (A + 34)] := ((mo_ne _ _ _ _ _ (by omega)).trans (mo_ne _ _ _ _ _ (by omega))).trans h.od
  have k3 := k2.trans (Sf.so (x := .inr (0, [.ref (A + 33), .int (iZ (sT s')), .ref (A + 34)])) o3 (by omega))
  have d1 : Dm (me_set M (A + 33) (.inl (2, 216, .inl lf'))) := hD.set (mi_lt hD h.il)
  have d2 : Dm (me_set (me_set M (A + 33) (.inl (2, 216, .inl lf'))) (A + 34) (.inl (2, 216, .inl df'))) := d1.set (mi_lt d1 i2)
  have d3 := d2.set (x := .inr (0, [.ref (A + 33), .int (iZ (sT s')), .ref (A + 34)])) (mo_lt d2 o3)
  have n1 : sN s' = sN s := by unfold sN; rw [e1]
  have n2 : sV s' = sV s := by unfold sV; rw [e1]
  have n3 : sR s' = sR s := by unfold sR; rw [e2]
  have n4 : sL s' = sL s := by unfold sL; rw [e2]
  have n5 : sP s' = sP s := by unfold sP; rw [e2]
  refine ⟨h.rk.sf k3 d3, ?_, mo_set _ _ _ _, ?_, ?_, ?_, ?_, ?_, by rw [n1]; exact h.n, by rw [n3]; exact h.m, by rw [n1, n2]; exact h.V.sf k3, ?_, hT, hC⟩
  · rw [mo_ne _ _ _ _ _ (by omega), mo_ne _ _ _ _ _ (by omega), mo_ne _ _ _ _ _ (by omega), n1, n2, n3, e3]; exact h.o
  · rw [mi_ne _ _ _ _ _ (by omega), mi_ne _ _ _ _ _ (by omega), mi_set]
  · rw [mi_ne _ _ _ _ _ (by omega), mi_set]
  · rw [rr_ne _ _ _ _ _ (by omega), rr_ne _ _ _ _ _ (by omega), rr_ne _ _ _ _ _ (by omega)]; exact h.rv
  · rw [rr_ne _ _ _ _ _ (by omega), rr_ne _ _ _ _ _ (by omega), rr_ne _ _ _ _ _ (by omega)]; exact h.rr
  · rw [rr_ne _ _ _ _ _ (by omega), rr_ne _ _ _ _ _ (by omega), rr_ne _ _ _ _ _ (by omega)]; exact h.rf
  · rw [n3, n4, n5]
    exact h.R.sf hD k3 (fun x hx _ => by rw [set_ne (by omega), set_ne (by omega), set_ne (by omega)])
theorem lt_gf {M : me_M} {A : Nat} {x y z : me_E} : GF M (me_set (me_set (me_set M (A + 33) x) (A + 34) y) (A + 32) z) A := ((GF.set (by omega)).trans (GF.set (by omega))).trans (GF.set (by omega))
theorem clearV_s {M : me_M} {A : Nat} {s : Sx} (h : PF M A s) : Ac M A (f_X6_clear [.ref A] M) (tCl s) := by
  obtain ⟨vs, vf, rf, ff, lf, df, h⟩ := h
  have P1 := h.so' (s' := ((0, sV s), (0, sL s, sP s), 0, s.2.2.2)) (by show 0 ≤ 240; omega) (by show 0 ≤ 20; omega) (fun i hi => absurd hi (Nat.not_lt_zero i)) (by
    obtain ⟨rp, ra, h1, h2⟩ := h.R
    exact ⟨rp, ra, fun i hi => absurd hi (Nat.not_lt_zero i), fun i j hi => absurd hi (Nat.not_lt_zero i)⟩) rfl
  have P2 := P1.lt (lf' := lf) (df' := df) (s' := (tCl s).2) rfl rfl rfl (by show 0 ≤ 216; omega) (fun j hj => absurd hj (Nat.not_lt_zero j))
  rw [set_self (me_int_eq P1.il), set_self (me_int_eq P1.ig)] at P2
  refine ⟨_, ?_, ⟨vs, vf, rf, ff, lf, df, P2⟩, (GF.set (by omega)).trans (GF.set (by omega))⟩
  rw [e_X6_clear]
  simp only [h.o, bS, pf5, vI, pl5, ps5, mo_set, pl6, ps6, pl7, ps7, pl8, ps8, pl9, ps9, set_set, pf1, vF, mo_ne _ _ _ _ _ (show A + 32 ≠ A by omega), h.od]
  exact (if_pos (show 1 < 3 by omega)).trans c00
