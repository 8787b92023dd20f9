/-! class and reference beside each other: neither touches the other's cells -/
def OT (M : me_M) (A : Nat) : Prop := ∀ p, A + 38 ≤ p → p ≤ A + 50 → (∀ ci fs, me_obj M ci p = some fs → ci = 7) ∧ ∀ kd, me_ref M kd p = none
theorem ot_o {M : me_M} {A ci p : Nat} {fs : List Value} (ho : OT M A) (e : me_obj M ci p = some fs) (hc : ci ≠ 7) : p < A + 38 ∨ A + 50 < p := by
  by_cases hp : A + 38 ≤ p
  · by_cases hq : p ≤ A + 50
    · exact absurd ((ho p hp hq).1 ci fs e) hc
    · omega
  · omega
theorem ot_r {M : me_M} {A kd p : Nat} {g : Nat × (Nat → Option Nat)} (ho : OT M A) (e : me_ref M kd p = some g) : p < A + 38 ∨ A + 50 < p := by
  by_cases hp : A + 38 ≤ p
  · by_cases hq : p ≤ A + 50
    · have := (ho p hp hq).2 kd
      rw [this] at e
      cases e
    · omega
  · omega
theorem PF.ot {M M' : me_M} {A : Nat} {s : Sx} (h : PF M A s) (ho : OT M A) (hl : A + 51 ≤ M.1) (h1 : M.1 ≤ M'.1) (hk : ∀ p, (p < A + 38 ∨ A + 50 < p) → M'.2 p = M.2 p) : PF M' A s := by
  obtain ⟨vs, vf, rf, ff, lf, df, h⟩ := h
  have hD := h.rk.dm
  have kw : ∀ {w c v : Nat}, Wh M w c v → Wh M' w c v := by
    intro w c v hw
    obtain ⟨s1, f1, hw'⟩ := hw
    refine Wh.kp ⟨s1, f1, hw'⟩ (hk _ (ot_o ho hw'.1 (by decide))) (hk _ ?_)
    by_cases q1 : A + 38 ≤ w + 1
    · by_cases q2 : w + 1 ≤ A + 50
      · exfalso
        by_cases q3 : w = A + 37
        · have e2 := me_ref_eq h.rf
          rw [← q3, me_obj_eq hw'.1] at e2
          cases e2
        · exact absurd ((ho w (by omega) (by omega)).1 5 _ hw'.1) (by decide)
      · omega
    · omega
  have kf : ∀ {p : Nat} {q : Qn}, Fx M (A + 1) p q → Fx M' (A + 1) p q := by
    intro p q hf
    obtain ⟨h1, h2, h3, a, b, ca, cb, h4, h5, h6, h7, h8⟩ := hf
    exact ⟨h1, h2, h3, a, b, ca, cb, (mo_of (hk _ (ot_o ho h4 (by decide)))).trans h4, kw h5, kw h6, h7, h8⟩
  have kv : ∀ {vf : Nat → Option Nat} {n : Nat} {vals : Nat → Qn}, VF M (A + 1) vf n vals → VF M' (A + 1) vf n vals := by
    intro vf n vals hv i hi
    obtain ⟨p, e1, e2⟩ := hv i hi
    exact ⟨p, e1, kf e2⟩
  have dm' : Dm M' := by
    intro q x e
    by_cases q1 : A + 38 ≤ q ∧ q ≤ A + 50
    · omega
    · rw [hk q (by omega)] at e
      have := hD q x e
      omega
  obtain ⟨x', y', v1, v2, v3, c3, c4, c5, c6, e1, e2, e3, e4, e5⟩ := h.rk.eu
  refine ⟨vs, vf, rf, ff, lf, df, ⟨dm', (mo_of (hk _ (ot_o ho h.rk.o (by decide)))).trans h.rk.o, ⟨x', y', v1, v2, v3, c3, c4, c5, c6, e1, (mo_of (hk _ (ot_o ho e2 (by decide)))).trans e2, kw e3, kw e4, kw e5⟩, fun i hi => kw (h.rk.w hi), kw h.rk.one, (mo_of (hk _ (ot_o ho h.rk.zo (by decide)))).trans h.rk.zo, kw h.rk.z0⟩, (mo_of (hk _ (Or.inl (by omega)))).trans h.o, (mo_of (hk _ (Or.inl (by omega)))).trans h.od, (mi_of (hk _ (Or.inl (by omega)))).trans h.il, (mi_of (hk _ (Or.inl (by omega)))).trans h.ig, (mr_of (hk _ (Or.inl (by omega)))).trans h.rv, (mr_of (hk _ (Or.inl (by omega)))).trans h.rr, (mr_of (hk _ (Or.inl (by omega)))).trans h.rf, h.n, h.m, kv h.V, ?_, h.T, h.C⟩
  obtain ⟨rp, ra, g1, g2⟩ := h.R
  refine ⟨rp, ra, fun i hi => ?_, g2⟩
  obtain ⟨k1, k2, k3, k4, k5, k6, pf, k7, k8⟩ := g1 i hi
  exact ⟨k1, k2, k3, (mo_of (hk _ (ot_o ho k4 (by decide)))).trans k4, k5, k6, pf, (mr_of (hk _ (ot_r ho k7))).trans k7, kv k8⟩
theorem MF.kp {M M' : me_M} {B : Nat} {th : Int32} {s : Sx} (h : MF M B th s) (k : ∀ p, B ≤ p → p ≤ B + 11 → M'.2 p = M.2 p) : MF M' B th s := by
  obtain ⟨reg, sg, S, sz, wf, h⟩ := h
  obtain ⟨⟨r1, n1, ⟨⟨t, tl, o⟩, i1, i2⟩, hR⟩, sf, t1, t2'⟩ := h.ms
  obtain ⟨ff, hff⟩ := h.i11
  obtain ⟨S4, S5, S6, S7, S8⟩ := h.st
  exact ⟨reg, sg, S, sz, wf, ⟨⟨r1, n1, ⟨⟨t, tl, (mo_of (k _ (by omega) (by omega))).trans o⟩, (mi_of (k _ (by omega) (by omega))).trans i1, (mi_of (k _ (by omega) (by omega))).trans i2⟩, hR⟩, sf, (mi_of (k _ (by omega) (by omega))).trans t1, t2'⟩, (mo_of (k _ (by omega) (by omega))).trans h.o, ⟨(mi_of (k _ (by omega) (by omega))).trans S4, (mi_of (k _ (by omega) (by omega))).trans S5, (mi_of (k _ (by omega) (by omega))).trans S6, (mi_of (k _ (by omega) (by omega))).trans S7, (mi_of (k _ (by omega) (by omega))).trans S8⟩, (mi_of (k _ (by omega) (by omega))).trans h.i9, (mi_of (k _ (by omega) (by omega))).trans h.i10, ⟨ff, (mi_of (k _ (by omega) (by omega))).trans hff⟩, h.r18, h.n, h.m, h.V, h.R, h.T, h.C⟩
theorem ot_i {M : me_M} {p n : Nat} {f : Nat → Int32} (h : me_int M 0 p = some (n, f)) : (∀ ci fs, me_obj M ci p = some fs → ci = 7) ∧ ∀ kd, me_ref M kd p = none := by
  have e := me_int_eq h
  refine ⟨fun ci fs k => ?_, fun kd => ?_⟩
  · rw [me_obj_eq k] at e
    cases e
  · cases hr : me_ref M kd p with
    | none => rfl
    | some g =>
      obtain ⟨m, f2⟩ := g
      rw [me_ref_eq hr] at e
      cases e
theorem ot_of {M : me_M} {A : Nat} {th : Int32} {s : Sx} {g : Nat → Int64} (h : MF M (A + 38) th s) (hd : M.2 (A + 50) = some (.inl (1, 1, .inr (.inl g)))) : OT M A := by
  obtain ⟨reg, sg, S, sz, wf, h⟩ := h
  obtain ⟨⟨r1, n1, ⟨⟨t, tl, o⟩, i1, i2⟩, hR⟩, sf, t1, t2'⟩ := h.ms
  obtain ⟨ff, hff⟩ := h.i11
  obtain ⟨S4, S5, S6, S7, S8⟩ := h.st
  have i9 := h.i9
  have i10' := h.i10
  have oB := me_obj_eq h.o
  intro p h1 h2
  rcases (show p = A + 38 ∨ p = A + 38 + 1 ∨ p = A + 38 + 2 ∨ p = A + 38 + 3 ∨ p = A + 38 + 4 ∨ p = A + 38 + 5 ∨ p = A + 38 + 6 ∨ p = A + 38 + 7 ∨ p = A + 38 + 8 ∨ p = A + 38 + 9 ∨ p = A + 38 + 10 ∨ p = A + 38 + 11 ∨ p = A + 50 by omega) with e | e | e | e | e | e | e | e | e | e | e | e | e
  · rw [e]
    refine ⟨fun ci fs k => ?_, fun kd => ?_⟩
    · rw [me_obj_eq k] at oB
      injection oB with oB
      injection oB with oB
      injection oB
    · cases hr : me_ref M kd (A + 38) with
      | none => rfl
      | some g =>
        obtain ⟨m, f2⟩ := g
        rw [me_ref_eq hr] at oB
        cases oB
  · rw [e]; exact ot_i i1
  · rw [e]; exact ot_i i2
  · rw [e]; exact ot_i t1
  · rw [e]; exact ot_i S4
  · rw [e]; exact ot_i S5
  · rw [e]; exact ot_i S6
  · rw [e]; exact ot_i S7
  · rw [e]; exact ot_i S8
  · rw [e]; exact ot_i i9
  · rw [e]; exact ot_i i10'
  · rw [e]; exact ot_i hff
  · rw [e]
    refine ⟨fun ci fs k => ?_, fun kd => ?_⟩
    · rw [me_obj_eq k] at hd
      cases hd
    · cases hr : me_ref M kd (A + 50) with
      | none => rfl
      | some g =>
        obtain ⟨m, f2⟩ := g
        rw [me_ref_eq hr] at hd
        cases hd
/-- the law's state: the class's object at A, the reference's behind it, the long that wrappers fill; the class may be one call ahead -/
def LM (M : me_M) (A : Nat) (s s' : Sx) : Prop := PF M A s' ∧ (∃ th, MF M (A + 38) th s) ∧ (∃ g : Nat → Int64, M.2 (A + 50) = some (.inl (1, 1, .inr (.inl g)))) ∧ A + 51 ≤ M.1
theorem LM.gf {M M' : me_M} {A : Nat} {s t u : Sx} (h : LM M A s t) (P : PF M' A u) (k : GF M M' A) : LM M' A s u ∧ M'.2 (A + 50) = M.2 (A + 50) := by
  obtain ⟨h1, ⟨th, h2⟩, ⟨g, h3⟩, h4⟩ := h
  have ho := ot_of h2 h3
  have ht : ∀ p, A + 38 ≤ p → p ≤ A + 50 → M'.2 p = M.2 p := fun p a b => k.2 p (by omega) (Or.inr a) ((ho p a b).2 3)
  exact ⟨⟨P, ⟨th, h2.kp (fun p a b => ht p a (by omega))⟩, ⟨g, (ht _ (by omega) (by omega)).trans h3⟩, Nat.le_trans h4 k.1⟩, ht _ (by omega) (by omega)⟩
theorem LM.ac {M : me_M} {A : Nat} {s : Sx} {r : Option sm_R} {t : Int32 × Sx} (h : LM M A s s) (k : Ac M A r t) : ∃ M' : me_M, r = some (some (.int t.1), M') ∧ LM M' A s t.2 := by
  obtain ⟨M', e, P, g⟩ := k
  exact ⟨M', e, (h.gf P g).1⟩
theorem LM.fb {M M' : me_M} {A : Nat} {s u : Sx} {th : Int32} (h : LM M A s u) (F : FB M M' (A + 38)) (m : MF M' (A + 38) th u) : LM M' A u u ∧ M'.2 (A + 50) = M.2 (A + 50) := by
  obtain ⟨h1, ⟨th', h2⟩, ⟨g, h3⟩, h4⟩ := h
  have e : M'.2 (A + 50) = M.2 (A + 50) := F.2 _ (Or.inr (by omega))
  exact ⟨⟨h1.ot (ot_of h2 h3) h4 (Nat.le_of_eq F.1.symm) (fun p hp => F.2 p (by omega)), ⟨th, m⟩, ⟨g, e.trans h3⟩, by rw [F.1]; exact h4⟩, e⟩
theorem LM.am {M : me_M} {A : Nat} {s : Sx} {r : Option sm_R} {th : Int32} {t : Int32 × Sx} (h : LM M A s t.2) (k : Am M (A + 38) r th t) : ∃ M' : me_M, r = some (some (.int t.1), M') ∧ LM M' A t.2 t.2 ∧ MF M' (A + 38) th t.2 ∧ M'.2 (A + 50) = M.2 (A + 50) := by
  obtain ⟨M', e, P, F⟩ := k
  obtain ⟨a, b⟩ := h.fb F P
  exact ⟨M', e, a, P, b⟩
theorem LM.set {M : me_M} {A : Nat} {s u : Sx} {g : Nat → Int64} (h : LM M A s u) : LM (me_set M (A + 50) (.inl (1, 1, .inr (.inl g)))) A s u := by
  obtain ⟨h1, ⟨th, h2⟩, ⟨g', h3⟩, h4⟩ := h
  exact ⟨h1.ot (ot_of h2 h3) h4 (Nat.le_refl _) (fun p hp => set_ne (by omega)), ⟨th, h2.kp (fun p _ _ => set_ne (by omega))⟩, ⟨g, set_eq _ _ _⟩, h4⟩
theorem LM.up {M : me_M} {A N : Nat} {s u : Sx} (h : LM M A s u) (hN : M.1 ≤ N) : LM (N, M.2) A s u := by
  obtain ⟨h1, ⟨th, h2⟩, ⟨g', h3⟩, h4⟩ := h
  exact ⟨h1.ot (M' := (N, M.2)) (ot_of h2 h3) h4 hN (fun p hp => rfl), ⟨th, h2.kp (fun p _ _ => rfl)⟩, ⟨g', h3⟩, Nat.le_trans h4 hN⟩
theorem LM.oA {M : me_M} {A : Nat} {s u : Sx} (h : LM M A s u) : ∃ fs, me_obj M 6 A = some fs := by
  obtain ⟨⟨vs, vf, rf, ff, lf, df, h⟩, -⟩ := h
  exact ⟨_, h.o⟩
theorem LM.oB {M : me_M} {A : Nat} {s u : Sx} (h : LM M A s u) : ∃ fs, me_obj M 7 (A + 38) = some fs := by
  obtain ⟨-, ⟨th, ⟨reg, sg, S, sz, wf, h⟩⟩, -⟩ := h
  exact ⟨_, h.o⟩
theorem thrown_s {M : me_M} {B : Nat} {th : Int32} {s : Sx} (h : MF M B th s) : f_X7_thrown [.ref B] M = some (some (.int th), M) := by
  obtain ⟨reg, sg, S, sz, wf, h⟩ := h
  rw [e_X7_thrown]
  simp only [h.o, bS, mf0, vI]
  exact c00
