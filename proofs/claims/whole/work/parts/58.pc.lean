/-! ROWS -/
def uR (s : Sx) (r : Nat) (g : Nat → Qn) : Sx := (s.1, (sR s, sL s, fun i => if i = r then g else sP s i), s.2.2)
def Rq (M : me_M) (A : Nat) (rf : Nat → Option Nat) (r p q : Nat) : Prop := rf r = some p ∧ A + 38 ≤ p ∧ me_obj M 4 p = some [.ref q]
theorem Rq.fk {M M' : me_M} {A r p q : Nat} {rf : Nat → Option Nat} (h : Rq M A rf r p q) (hD : Dm M) (k : FK M M' (A + 1)) : Rq M' A rf r p q := ⟨h.1, h.2.1, ob_fk h.2.2 (Or.inr (by have := h.2.1; omega)) hD k⟩
theorem Rq.set {M : me_M} {A r p q a : Nat} {x : me_E} {rf : Nat → Option Nat} (h : Rq M A rf r p q) (ha : a < A + 38) : Rq (me_set M a x) A rf r p q := ⟨h.1, h.2.1, by rw [mo_ne _ _ _ _ _ (by have := h.2.1; omega)]; exact h.2.2⟩
theorem PG.row {M : me_M} {A : Nat} {s : Sx} {vs : Nat → Nat} {vf rf ff : Nat → Option Nat} {lf df : Nat → Int32} (h : PG M A s vs vf rf ff lf df) {r : Nat} (hr : r < sR s) : ∃ p q : Nat, Rq M A rf r p q := by
  obtain ⟨rp, ra, h1, _⟩ := h.R
  obtain ⟨k1, k2, k3, k4, _⟩ := h1 r hr
  exact ⟨rp r, ra r, k1, k2, k4⟩
theorem PG.at {M : me_M} {A : Nat} {s : Sx} {vs : Nat → Nat} {vf rf ff : Nat → Option Nat} {lf df : Nat → Int32} (h : PG M A s vs vf rf ff lf df) {r p q : Nat} (hr : r < sR s) (k : Rq M A rf r p q) : A + 38 ≤ q ∧ 1 ≤ sL s r ∧ sL s r ≤ 10 ∧ ∃ pf : Nat → Option Nat, me_ref M 3 q = some (sL s r, pf) ∧ VF M (A + 1) pf (sL s r) (sP s r) := by
  obtain ⟨rp, ra, h1, _⟩ := h.R
  obtain ⟨k1, k2, k3, k4, k5, k6, pf, k7, k8⟩ := h1 r hr
  have e1 : rp r = p := by have := k1.symm.trans k.1; injection this
  rw [e1, k.2.2] at k4
  injection k4 with k4
  injection k4 with k4 _
  injection k4 with k4
  rw [← k4] at k3 k7
  exact ⟨k3, k5, k6, pf, k7, k8⟩
theorem RF.put {M : me_M} {A nr : Nat} {rf pf' : Nat → Option Nat} {rn : Nat → Nat} {rw : Nat → Nat → Qn} {g : Nat → Qn} (h : RF M A rf nr rn rw) {r p q : Nat} (hr : r < nr) (k : Rq M A rf r p q) (hV : VF M (A + 1) pf' (rn r) g) :
    RF (me_set M q (.inl (3, rn r, .inr (.inr (.inr (.inr pf')))))) A rf nr rn (fun i => if i = r then g else rw i) ∧ Sf M (me_set M q (.inl (3, rn r, .inr (.inr (.inr (.inr pf')))))) ∧ A + 38 ≤ q ∧ ∃ pf : Nat → Option Nat, me_ref M 3 q = some (rn r, pf) := by
  obtain ⟨rp, ra, h1, h2⟩ := h
  obtain ⟨k1, k2, k3, k4, k5, k6, pf, k7, k8⟩ := h1 r hr
  have e1 : rp r = p := by have := k1.symm.trans k.1; injection this
  have e2 : q = ra r := by
    have e3 := k4
    rw [e1, k.2.2] at e3
    injection e3 with e3
    injection e3 with e3 _
    injection e3
  subst e2
  have kS : Sf M (me_set M (ra r) (.inl (3, rn r, .inr (.inr (.inr (.inr pf')))))) := Sf.sr k7
  refine ⟨⟨rp, ra, ?_, h2⟩, kS, k3, pf, k7⟩
  intro i hi
  by_cases e : i = r
  · subst e
    refine ⟨k1, k2, k3, ?_, k5, k6, pf', rr_set _ _ _ _ _, ?_⟩
    · rw [mo_ne _ _ _ _ _ (by intro e; rw [e] at k4; have a1 := me_obj_eq k4; have a2 := me_ref_eq k7; rw [a1] at a2; simp at a2)]
      exact k4
    · show VF _ _ _ _ (if i = i then g else rw i)
      rw [if_pos rfl]
      exact hV.sf kS
  · obtain ⟨l1, l2, l3, l4, l5, l6, pl, l7, l8⟩ := h1 i hi
    refine ⟨l1, l2, l3, ?_, l5, l6, pl, ?_, ?_⟩
    · rw [mo_ne _ _ _ _ _ (by intro e; rw [e] at l4; have a1 := me_obj_eq l4; have a2 := me_ref_eq k7; rw [a1] at a2; simp at a2)]
      exact l4
    · rw [rr_ne _ _ _ _ _ (fun e' => e (h2 i r hi hr e'))]
      exact l7
    · show VF _ _ _ _ (if i = r then g else rw i)
      rw [if_neg e]
      exact l8.sf kS
theorem PG.put {M : me_M} {A : Nat} {s : Sx} {vs : Nat → Nat} {vf rf ff : Nat → Option Nat} {lf df : Nat → Int32} (h : PG M A s vs vf rf ff lf df) {r p q : Nat} {pf' : Nat → Option Nat} {g : Nat → Qn} (hr : r < sR s) (k : Rq M A rf r p q) (hV : VF M (A + 1) pf' (sL s r) g) :
    PG (me_set M q (.inl (3, sL s r, .inr (.inr (.inr (.inr pf')))))) A (uR s r g) vs vf rf ff lf df ∧ GF M (me_set M q (.inl (3, sL s r, .inr (.inr (.inr (.inr pf')))))) A := by
  have hD := h.rk.dm
  obtain ⟨h1, h2, h3, pf, h4⟩ := h.R.put hr k hV
  refine ⟨⟨h.rk.sf h2 (hD.set (rr_lt hD h4)), ?_, ?_, ?_, ?_, ?_, ?_, ?_, h.n, h.m, h.V.sf h2, h1, h.T, h.C⟩, GF.sr h4⟩
  · rw [mo_ne _ _ _ _ _ (by omega)]; exact h.o
  · rw [mo_ne _ _ _ _ _ (by omega)]; exact h.od
  · rw [mi_ne _ _ _ _ _ (by omega)]; exact h.il
  · rw [mi_ne _ _ _ _ _ (by omega)]; exact h.ig
  · rw [rr_ne _ _ _ _ _ (by omega)]; exact h.rv
  · rw [rr_ne _ _ _ _ _ (by omega)]; exact h.rr
  · rw [rr_ne _ _ _ _ _ (by omega)]; exact h.rf
/-- the room for fresh places told anew -/
theorem PG.fr {M : me_M} {A : Nat} {s : Sx} {vs : Nat → Nat} {vf rf ff ff' : Nat → Option Nat} {lf df : Nat → Int32} (h : PG M A s vs vf rf ff lf df) : PG (me_set M (A + 37) (.inl (3, 10, .inr (.inr (.inr (.inr ff')))))) A s vs vf rf ff' lf df ∧ Sf M (me_set M (A + 37) (.inl (3, 10, .inr (.inr (.inr (.inr ff')))))) ∧ GF M (me_set M (A + 37) (.inl (3, 10, .inr (.inr (.inr (.inr ff')))))) A := by
  have hD := h.rk.dm
  have k : Sf M (me_set M (A + 37) (.inl (3, 10, .inr (.inr (.inr (.inr ff')))))) := Sf.sr h.rf
  refine ⟨⟨h.rk.sf k (hD.set (rr_lt hD h.rf)), ?_, ?_, ?_, ?_, ?_, ?_, rr_set _ _ _ _ _, h.n, h.m, h.V.sf k, h.R.sf hD k (fun x hx _ => set_ne (by omega)), h.T, h.C⟩, k, GF.set (by omega)⟩
  · rw [mo_ne _ _ _ _ _ (by omega)]; exact h.o
  · rw [mo_ne _ _ _ _ _ (by omega)]; exact h.od
  · rw [mi_ne _ _ _ _ _ (by omega)]; exact h.il
  · rw [mi_ne _ _ _ _ _ (by omega)]; exact h.ig
  · rw [rr_ne _ _ _ _ _ (by omega)]; exact h.rv
  · rw [rr_ne _ _ _ _ _ (by omega)]; exact h.rr
abbrev isP (s : Sx) (x k : Int32) : Prop := isV (sR s) x ∧ isV (sL s x.toNatClampNeg) k
abbrev isA (s : Sx) (x y : Int32) : Prop := isV (sR s) x ∧ isV (sR s) y ∧ sL s x.toNatClampNeg = sL s y.toNatClampNeg
theorem isPlace_s {M : me_M} {A : Nat} {s : Sx} {vs : Nat → Nat} {vf rf ff : Nat → Option Nat} {lf df : Nat → Int32} {x k : Int32} (h : PG M A s vs vf rf ff lf df) : f_X6_isPlace [.ref A, .int x, .int k] M = some (some (.int (if isP s x k then 1 else 0)), M) := by
  have hm := h.m
  obtain ⟨X, e, b1, b2, t⟩ := i_rep k
  rw [e_X6_isPlace]
  simp only [h.o, bS, isRow_s h.o h.m, vI, h.rr, pf3, vF]
  by_cases hx : isV (sR s) x
  · rw [if_pos hx, if_neg i10, if_neg (hx.no hm (by omega))]
    obtain ⟨p, q, K⟩ := h.row (hx.lt (by omega))
    obtain ⟨a1, a2, a3, pf, a4, a5⟩ := h.at (hx.lt (by omega)) K
    simp only [K.1, rfS, vF, bS, K.2.2, g0, len_r a4 (by omega), iZ_nat]
    by_cases h1 : X < 0
    · rw [if_pos (by rw [e, z_0, iZ_lt (by omega) (by omega)]; exact h1), cT0, c00, if_neg (fun h => by have := h.2.1; omega)]
    · rw [if_neg (by rw [e, z_0, iZ_lt (by omega) (by omega)]; exact h1)]
      by_cases h2 : X < sL s x.toNatClampNeg
      · rw [if_neg (by rw [e, iZ_le (by omega) (by omega)]; omega), cT1, c00, if_pos ⟨hx, by constructor <;> omega⟩]
      · rw [if_pos (by rw [e, iZ_le (by omega) (by omega)]; omega), cT0, c00, if_neg (fun h => by have := h.2.2; omega)]
  · rw [if_neg hx, if_pos rfl, cT0, c00, if_neg (fun k => hx k.1)]
theorem areAsLong_s {M : me_M} {A : Nat} {s : Sx} {vs : Nat → Nat} {vf rf ff : Nat → Option Nat} {lf df : Nat → Int32} {x y : Int32} (h : PG M A s vs vf rf ff lf df) : f_X6_areAsLong [.ref A, .int x, .int y] M = some (some (.int (if isA s x y then 1 else 0)), M) := by
  have hm := h.m
  rw [e_X6_areAsLong]
  simp only [h.o, bS, isRow_s h.o h.m, vI, h.rr, pf3, vF]
  by_cases hx : isV (sR s) x
  · rw [if_pos hx, if_neg i10, if_neg (hx.no hm (by omega))]
    by_cases hy : isV (sR s) y
    · rw [if_pos hy, if_neg i10]
      obtain ⟨p, q, K⟩ := h.row (hx.lt (by omega))
      obtain ⟨a1, a2, a3, pf, a4, a5⟩ := h.at (hx.lt (by omega)) K
      obtain ⟨p', q', K'⟩ := h.row (hy.lt (by omega))
      obtain ⟨c1, c2, c3, pf', c4, c5⟩ := h.at (hy.lt (by omega)) K'
      simp only [K.1, rfS, vF, bS, K.2.2, g0, len_r a4 (by omega), iZ_nat]
      rw [if_neg (hy.no hm (by omega))]
      simp only [K'.1, rfS, vF, bS, K'.2.2, g0, len_r c4 (by omega), iZ_nat]
      by_cases he : sL s x.toNatClampNeg = sL s y.toNatClampNeg
      · rw [if_pos (by rw [he]), cT1, c00, if_pos ⟨hx, hy, he⟩]
      · rw [if_neg (by rw [iZ_eq (by omega) (by omega)]; omega), cT0, c00, if_neg (fun k => he k.2.2)]
    · rw [if_neg hy, if_pos rfl, cT0, c00, if_neg (fun k => hy k.2.1)]
  · rw [if_neg hx, if_pos rfl, cT0, c00, if_neg (fun k => hx k.1)]
def tPu (s : Sx) (x k v : Int32) : Int32 × Sx := if isP s x k ∧ isV (sN s) v then (1, uR s x.toNatClampNeg (fun j => if j = k.toNatClampNeg then sV s v.toNatClampNeg else sP s x.toNatClampNeg j)) else (-2, s)
theorem putV_s {M : me_M} {A : Nat} {s : Sx} {x k v : Int32} (h : PF M A s) : Ac M A (f_X6_put [.ref A, .int x, .int k, .int v] M) (tPu s x k v) := by
  have hP := h
  obtain ⟨vs, vf, rf, ff, lf, df, h⟩ := h
  have hm := h.m
  have hn := h.n
  rw [e_X6_put]
  simp only [h.o, bS, isPlace_s h, isValue_s h.o h.n, vI, h.rr, h.rv, pf2, pf3, vF]
  by_cases hk : isP s x k
  · rw [if_pos hk, if_neg i10]
    by_cases hv : isV (sN s) v
    · rw [if_pos hv, if_neg i10, if_neg (hk.1.no hm (by omega)), show tPu s x k v = _ from if_pos ⟨hk, hv⟩]
      have hx := hk.1.lt (by omega)
      obtain ⟨p, q, K⟩ := h.row hx
      obtain ⟨a1, a2, a3, pf, a4, a5⟩ := h.at hx K
      obtain ⟨pv, e1, F1⟩ := h.val hv
      obtain ⟨_, _, _, _, oa, _⟩ := F1.ob
      simp only [K.1, rfS, vF, bS, K.2.2, g0, e1, a4, vN]
      rw [if_neg (hv.no hn (by omega)), if_neg (hk.2.no (Nat.le_refl _) (by omega)), okx oa, cond_true, c00]
      have V' : VF M (A + 1) (va_up pf k.toNatClampNeg (some pv)) (sL s x.toNatClampNeg) (fun j => if j = k.toNatClampNeg then sV s v.toNatClampNeg else sP s x.toNatClampNeg j) := by
        intro i hi
        by_cases e : i = k.toNatClampNeg
        · subst e
          exact ⟨pv, va_up_self _ _ _, by show Fx M (A + 1) pv (if k.toNatClampNeg = k.toNatClampNeg then sV s v.toNatClampNeg else _); rw [if_pos rfl]; exact F1⟩
        · obtain ⟨p', z1, z2⟩ := a5 i hi
          exact ⟨p', by rw [va_up_ne _ _ e]; exact z1, by show Fx M (A + 1) p' (if i = k.toNatClampNeg then _ else sP s x.toNatClampNeg i); rw [if_neg e]; exact z2⟩
      obtain ⟨P, G⟩ := h.put hx K V'
      exact ⟨_, rfl, ⟨vs, vf, rf, ff, lf, df, P⟩, G⟩
    · rw [if_neg hv, if_pos rfl, show tPu s x k v = (-2, s) from if_neg (fun z => hv z.2)]
      exact ⟨M, c00, hP, GF.refl _ _⟩
  · rw [if_neg hk, if_pos rfl, show tPu s x k v = (-2, s) from if_neg (fun z => hk z.1)]
    exact ⟨M, c00, hP, GF.refl _ _⟩
def tTa (s : Sx) (x k : Int32) : Int32 × Sx := if isP s x k then (if sN s = 240 then (-3, s) else kp s (sP s x.toNatClampNeg k.toNatClampNeg)) else (-2, s)
theorem takeV_s {M : me_M} {A : Nat} {s : Sx} {x k : Int32} (h : PF M A s) : Ac M A (f_X6_take [.ref A, .int x, .int k] M) (tTa s x k) := by
  have hP := h
  obtain ⟨vs, vf, rf, ff, lf, df, h⟩ := h
  have hm := h.m
  have hn := h.n
  rw [e_X6_take]
  simp only [h.o, bS, isPlace_s h, isFull_s h.o h.n, vI, h.rr, pf3, vF]
  by_cases hk : isP s x k
  · rw [if_pos hk, if_neg i10, show tTa s x k = if sN s = 240 then (-3, s) else kp s (sP s x.toNatClampNeg k.toNatClampNeg) from if_pos hk]
    by_cases hf : sN s = 240
    · rw [show (if sN s = 240 then (1 : Int32) else 0) = 1 from if_pos hf, if_neg i10, if_pos hf]
      exact ⟨M, c00, hP, GF.refl _ _⟩
    · rw [show (if sN s = 240 then (1 : Int32) else 0) = 0 from if_neg hf, if_pos rfl, if_neg hf, if_neg (hk.1.no hm (by omega))]
      have hx := hk.1.lt (by omega)
      obtain ⟨p, q, K⟩ := h.row hx
      obtain ⟨a1, a2, a3, pf, a4, a5⟩ := h.at hx K
      obtain ⟨pv, e1, F1⟩ := a5 _ (hk.2.lt (by omega))
      obtain ⟨L, f, P, G⟩ := keep_s hP (by omega) (Or.inl ⟨F1.2.2.1, pv, rfl, F1⟩)
      simp only [K.1, rfS, vF, bS, K.2.2, g0, a4]
      rw [if_neg (hk.2.no (Nat.le_refl _) (by omega))]
      simp only [e1, rfS, f, bS, vI]
      exact ⟨L, c00, P, G⟩
  · rw [if_neg hk, if_pos rfl, show tTa s x k = (-2, s) from if_neg hk]
    exact ⟨M, c00, hP, GF.refl _ _⟩
