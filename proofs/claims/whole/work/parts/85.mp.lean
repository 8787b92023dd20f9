/-! the reference: ROWS -/
theorem place_g {M : me_M} {r k : Nat} : f_X7_place [.int (iZ r), .int (iZ k)] M = some (some (.int (iZ ((240 + 10 * r + k : Nat) : Int))), M) := by
  rw [e_X7_place, c00, show (240 : Int32) = iZ 240 from rfl, show (10 : Int32) = iZ 10 from rfl, iZ_mul, iZ_add, iZ_add]
  congr 4
theorem z440 (k : Nat) : (440 : Int32) + iZ (k : Int) = iZ ((440 + k : Nat) : Int) := by
  rw [show (440 : Int32) = iZ 440 from rfl, iZ_add]; congr 1
theorem isPlaceM_s {M : me_M} {B : Nat} {th : Int32} {s : Sx} {reg : Nat → Nat} {sg : Nat → Int} {S : Sto} {sz wf : Nat → Int32} {x k : Int32} (h : MG M B th s reg sg S sz wf) : f_X7_isPlace [.ref B, .int x, .int k] M = some (some (.int (if isP s x k then 1 else 0)), M) := by
  have hm := h.m
  obtain ⟨X, e, b1, b2, t⟩ := i_rep k
  rw [e_X7_isPlace]
  simp only [h.o, bS, isRowM_s h.ob h.m, vI, mf11, vF, h.i9]
  by_cases hx : isV (sR s) x
  · rw [if_pos hx, if_neg i10, if_neg (hx.no hm (by omega))]
    obtain ⟨r, r1, r2, r3⟩ := hx.ix (by omega)
    obtain ⟨a1, a2, a3, a4⟩ := h.R r r1
    simp only [r3, a3]
    by_cases h1 : X < 0
    · rw [if_pos (by rw [e, z_0, iZ_lt (by omega) (by omega)]; exact h1), cT0, c00, if_neg (fun h => by have := h.2.1; omega)]
    · rw [if_neg (by rw [e, z_0, iZ_lt (by omega) (by omega)]; exact h1)]
      by_cases h2' : X < sL s r
      · rw [if_neg (by rw [e, iZ_le (by omega) (by omega)]; omega), cT1, c00, if_pos ⟨hx, by rw [r3]; constructor <;> omega⟩]
      · rw [if_pos (by rw [e, iZ_le (by omega) (by omega)]; omega), cT0, c00, if_neg (fun h => by have := h.2.2; rw [r3] at this; omega)]
  · rw [if_neg hx, if_pos rfl, cT0, c00, if_neg (fun k => hx k.1)]
theorem areAlongM_s {M : me_M} {B : Nat} {th : Int32} {s : Sx} {reg : Nat → Nat} {sg : Nat → Int} {S : Sto} {sz wf : Nat → Int32} {x y : Int32} (h : MG M B th s reg sg S sz wf) : f_X7_areAlong [.ref B, .int x, .int y] M = some (some (.int (if isA s x y then 1 else 0)), M) := by
  have hm := h.m
  rw [e_X7_areAlong]
  simp only [h.o, bS, isRowM_s h.ob h.m, vI, mf11, vF, h.i9]
  by_cases hx : isV (sR s) x
  · rw [if_pos hx, if_neg i10, if_neg (hx.no hm (by omega))]
    by_cases hy : isV (sR s) y
    · rw [if_pos hy, if_neg i10, if_neg (hy.no hm (by omega))]
      obtain ⟨r, r1, r2, r3⟩ := hx.ix (by omega)
      obtain ⟨a1, a2, a3, a4⟩ := h.R r r1
      obtain ⟨r', r1', r2', r3'⟩ := hy.ix (by omega)
      obtain ⟨a1', a2', a3', a4'⟩ := h.R r' r1'
      simp only [r3, r3', a3, a3']
      by_cases he : sL s r = sL s r'
      · rw [if_pos (by rw [he]), cT1, c00, if_pos ⟨hx, hy, by rw [r3, r3']; exact he⟩]
      · rw [if_neg (by rw [iZ_eq (by omega) (by omega)]; omega), cT0, c00, if_neg (fun k => he (by have := k.2.2; rw [r3, r3'] at this; exact this))]
    · rw [if_neg hy, if_pos rfl, cT0, c00, if_neg (fun k => hy k.2.1)]
  · rw [if_neg hx, if_pos rfl, cT0, c00, if_neg (fun k => hx k.1)]
/-- the state told by another that says the same -/
theorem MG.ext {M : me_M} {B : Nat} {th : Int32} {s : Sx} {reg : Nat → Nat} {sg : Nat → Int} {S : Sto} {sz wf : Nat → Int32} {s' : Sx} (h : MG M B th s reg sg S sz wf) (e1 : s'.1 = s.1) (e2 : sR s' = sR s) (e3 : sL s' = sL s) (e4 : s'.2.2 = s.2.2) (e5 : ∀ r k, r < sR s → k < sL s r → sP s' r k = sP s r k) : MG M B th s' reg sg S sz wf := by
  have n1 : sN s' = sN s := by unfold sN; rw [e1]
  have n2 : sV s' = sV s := by unfold sV; rw [e1]
  have n3 : sW s' = sW s := by unfold sW; rw [e4]
  have n4 : sT s' = sT s := by unfold sT; rw [e4]
  have n5 : sC s' = sC s := by unfold sC; rw [e4]
  refine ⟨h.ms, ?_, h.st, h.i9, h.i10, h.i11, h.r18, by rw [n1]; exact h.n, by rw [e2]; exact h.m, by rw [n1, n2]; exact h.V, ?_, by rw [n4]; exact h.T, by rw [n4, n5]; exact h.C⟩
  · unfold OB
    rw [n1, e2, n3, n4]
    exact h.o
  · rw [e2, e3]
    intro r hr
    obtain ⟨a, b, c, d⟩ := h.R r hr
    exact ⟨a, b, c, fun k hk => by rw [e5 r k hr hk]; exact d k hk⟩
def SvR (M M' : me_M) (B v : Nat) (th : Int32) (s : Sx) (q : Qn) (S S' : Sto) (sz wf : Nat → Int32) (reg : Nat → Nat) (sg : Nat → Int) : Prop := FB M M' B ∧ Kq S' v q ∧ (∀ (u : Nat) (q' : Qn), u ≠ v → Kq S u q' → Kq S' u q') ∧ ∀ s' : Sx, sN s' = sN s → sR s' = sR s → sW s' = sW s → sT s' = sT s → (∀ i, i < sN s → Kq S' i (sV s' i)) → (∀ r, r < sR s → RM S' sz r (sL s' r) (sP s' r)) → (∀ j, j < sT s → wf j = iZ (sC s' j)) → MG M' B th s' reg sg S' sz wf
/-- what is kept outside of VALUES and ROWS leaves the state -/
theorem SvR.new {M M' : me_M} {B v : Nat} {th : Int32} {s : Sx} {reg : Nat → Nat} {sg : Nat → Int} {S : Sto} {sz wf : Nat → Int32} {q : Qn} {S' : Sto} (h : MG M B th s reg sg S sz wf) (k : SvR M M' B v th s q S S' sz wf reg sg) (hv : 440 ≤ v) : MG M' B th s reg sg S' sz wf := by
  have hn := h.n
  have hm := h.m
  refine k.2.2.2 s rfl rfl rfl rfl (fun i hi => k.2.2.1 i _ (by omega) (h.V i hi)) (fun r hr => ?_) h.C
  obtain ⟨a, b, c, d⟩ := h.R r hr
  exact ⟨a, b, c, fun j hj => k.2.2.1 _ _ (by omega) (d j hj)⟩
/-- one PLACE told anew -/
theorem SvR.pl {M M' : me_M} {B r k : Nat} {th : Int32} {s : Sx} {reg : Nat → Nat} {sg : Nat → Int} {S : Sto} {sz wf : Nat → Int32} {reg' : Nat → Nat} {sg' : Nat → Int} {q : Qn} {S' : Sto} (h : MG M B th s reg sg S sz wf) (hr : r < sR s) (hk : k < sL s r) (c : SvR M M' B (240 + 10 * r + k) th s q S S' sz wf reg' sg') : MG M' B th (uR s r (fun j => if j = k then q else sP s r j)) reg' sg' S' sz wf := by
  have hn := h.n
  have hm := h.m
  refine c.2.2.2 _ rfl rfl rfl rfl (fun i hi => c.2.2.1 i _ (by omega) (h.V i hi)) (fun r' hr' => ?_) h.C
  obtain ⟨a, b, c3, d⟩ := h.R r' hr'
  obtain ⟨a', b', c3', d'⟩ := h.R r hr
  refine ⟨a, b, c3, fun j hj => ?_⟩
  have hj' : j < sL s r' := hj
  show Kq S' (240 + 10 * r' + j) ((if r' = r then (fun j => if j = k then q else sP s r j) else sP s r') j)
  by_cases e : r' = r
  · subst e
    rw [if_pos rfl]
    show Kq S' (240 + 10 * r' + j) (if j = k then q else sP s r' j)
    by_cases e2 : j = k
    · subst e2
      rw [if_pos rfl]
      exact c.2.1
    · rw [if_neg e2]
      exact c.2.2.1 _ _ (by omega) (d j hj)
  · rw [if_neg e]
    exact c.2.2.1 _ _ (by omega) (d j hj)
theorem save_r {M : me_M} {B f v : Nat} {th : Int32} {s : Sx} {reg : Nat → Nat} {sg : Nat → Int} {S : Sto} {sz wf : Nat → Int32} {q : Qn} (h : MG M B th s reg sg S sz wf) (hf : f < 4) (hv : v < 450) (hq : Fq reg sg f q) (hF : Fits q) (hN : Nf q) :
    ∃ (M' : me_M) (S' : Sto), f_X7_save [.ref B, .int (iZ v), .int (iZ f)] M = some (none, M') ∧ SvR M M' B v th s q S S' sz wf reg sg := by
  obtain ⟨M', S', f1, F, k1, k2, k3⟩ := save_mg h hf hv hq hF hN
  exact ⟨M', S', f1, F, k1, k2, k3⟩
theorem same_r {M : me_M} {B u v : Nat} {th : Int32} {s : Sx} {reg : Nat → Nat} {sg : Nat → Int} {S : Sto} {sz wf : Nat → Int32} {q : Qn} (h : MG M B th s reg sg S sz wf) (hu : u < 450) (hv : v < 450) (hq : Kq S u q) :
    ∃ (M' : me_M) (S' : Sto), f_X7_same [.ref B, .int (iZ v), .int (iZ u)] M = some (none, M') ∧ SvR M M' B v th s q S S' sz wf (up (up reg 0 q.2.1) 1 q.2.2) (us sg 0 q.1) := by
  obtain ⟨M1, f1, m1, F1⟩ := load_mg (f := 0) (v := u) h (by omega) hu hq
  have f1' : f_X7_load [.ref B, .int (0 : Int32), .int (iZ u)] M = _ := f1
  obtain ⟨M2, S2, f2, F2, k1, k2, k3⟩ := save_r (f := 0) (v := v) m1 (by omega) hv (Fq.ld _ _ 0 _) hq.2.1 hq.1
  have f2' : f_X7_save [.ref B, .int (iZ v), .int (0 : Int32)] M1 = _ := f2
  refine ⟨M2, S2, ?_, F1.fb.trans F2, k1, k2, k3⟩
  rw [e_X7_same, h.i0, f1']
  simp only [bS, cNn]
  rw [m1.i0, f2']
  simp only [bS, cNn]
  exact c00
theorem putM_g {M : me_M} {B : Nat} {th : Int32} {s : Sx} {x k v : Int32} (h : MF M B th s) : Am M B (f_X7_put_ [.ref B, .int x, .int k, .int v] M) 0 (tPu s x k v) := by
  obtain ⟨reg, sg, S, sz, wf, h⟩ := h
  have hn := h.n
  have hm := h.m
  have m := h.th (th' := 0)
  have F : FB M (me_set M B (.inr (7, mfo B 0 s))) B := FB.set (by omega)
  rw [e_X7_put_]
  simp only [h.o, bS, ml0, mt0]
  obtain ⟨N, hN⟩ : ∃ N, N = me_set M B (.inr (7, mfo B 0 s)) := ⟨_, rfl⟩
  have hN' : N = me_set M B (.inr (7, [.int 0, .ref (B + 1), .ref (B + 2), .ref (B + 3), .ref (B + 4), .ref (B + 5), .ref (B + 6), .ref (B + 7), .ref (B + 8), .int (iZ (sN s)), .int (iZ (sR s)), .ref (B + 9), .int (iZ (sW s)), .ref (B + 10), .int (iZ (sT s)), .ref (B + 11)])) := hN
  rw [← hN] at m F
  rw [← hN']
  simp only [m.o, bS, isPlaceM_s m, isValueM_s m.ob m.n, vI]
  refine Am.trans F ?_
  by_cases hk : isP s x k
  · rw [if_pos hk, if_neg i10]
    by_cases hv : isV (sN s) v
    · rw [if_pos hv, if_neg i10, show tPu s x k v = _ from if_pos ⟨hk, hv⟩]
      obtain ⟨r, r1, r2, r3⟩ := hk.1.ix (by omega)
      obtain ⟨a1, a2, a3, a4⟩ := m.R r r1
      have hk2 := hk.2
      rw [r3] at hk2
      obtain ⟨j, j1, j2, j3⟩ := hk2.ix (by omega)
      obtain ⟨i, i1, i2, i3⟩ := hv.ix (by omega)
      obtain ⟨M1, S1, f1, c1⟩ := same_r (u := i) (v := 240 + 10 * r + j) m (by omega) (by omega) (m.V i i1)
      rw [r3, j3, i3, r2, j2, i2, place_g]
      simp only [bS, vI]
      rw [m.i0, f1]
      simp only [bS, cNn]
      exact ⟨M1, c00, ⟨_, _, S1, sz, wf, c1.pl m r1 j1⟩, c1.1⟩
    · rw [if_neg hv, if_pos rfl, c00, show tPu s x k v = (-2, s) from if_neg (fun z => hv z.2)]
      exact Am.val ⟨reg, sg, S, sz, wf, m⟩
  · rw [if_neg hk, if_pos rfl, c00, show tPu s x k v = (-2, s) from if_neg (fun z => hk z.1)]
    exact Am.val ⟨reg, sg, S, sz, wf, m⟩
theorem takeM_g {M : me_M} {B : Nat} {th : Int32} {s : Sx} {x k : Int32} (h : MF M B th s) : Am M B (f_X7_take [.ref B, .int x, .int k] M) 0 (tTa s x k) := by
  obtain ⟨reg, sg, S, sz, wf, h⟩ := h
  have hn := h.n
  have hm := h.m
  have m := h.th (th' := 0)
  have F : FB M (me_set M B (.inr (7, mfo B 0 s))) B := FB.set (by omega)
  rw [e_X7_take]
  simp only [h.o, bS, ml0, mt0]
  obtain ⟨N, hN⟩ : ∃ N, N = me_set M B (.inr (7, mfo B 0 s)) := ⟨_, rfl⟩
  have hN' : N = me_set M B (.inr (7, [.int 0, .ref (B + 1), .ref (B + 2), .ref (B + 3), .ref (B + 4), .ref (B + 5), .ref (B + 6), .ref (B + 7), .ref (B + 8), .int (iZ (sN s)), .int (iZ (sR s)), .ref (B + 9), .int (iZ (sW s)), .ref (B + 10), .int (iZ (sT s)), .ref (B + 11)])) := hN
  rw [← hN] at m F
  rw [← hN']
  simp only [m.o, bS, isPlaceM_s m, vI, mf9]
  refine Am.trans F ?_
  by_cases hk : isP s x k
  · rw [if_pos hk, if_neg i10, show tTa s x k = if sN s = 240 then (-3, s) else kp s (sP s x.toNatClampNeg k.toNatClampNeg) from if_pos hk]
    by_cases hf : sN s = 240
    · rw [if_pos (by rw [hf]; rfl), c00, if_pos hf]
      exact Am.val ⟨reg, sg, S, sz, wf, m⟩
    · rw [if_neg (by rw [show (240 : Int32) = iZ 240 from rfl, iZ_eq (by omega) (by omega)]; omega), if_neg hf]
      obtain ⟨r, r1, r2, r3⟩ := hk.1.ix (by omega)
      obtain ⟨a1, a2, a3, a4⟩ := m.R r r1
      have hk2 := hk.2
      rw [r3] at hk2
      obtain ⟨j, j1, j2, j3⟩ := hk2.ix (by omega)
      have Ka := a4 j j1
      obtain ⟨M1, f1, m1, F1⟩ := load_mg (f := 0) (v := 240 + 10 * r + j) m (by omega) (by omega) Ka
      have f1' : f_X7_load [.ref B, .int (0 : Int32), .int (iZ ((240 + 10 * r + j : Nat) : Int))] N = _ := f1
      have c := comes_g m1 (by omega) (Fq.ld _ _ 0 _) Ka.1
      rw [fi_p Ka.2.1] at c
      rw [r3, j3, r2, j2, place_g]
      simp only [bS, vI]
      rw [m.i0, f1']
      simp only [bS, cNn]
      rw [m1.i0]
      exact Am.trans F1.fb c.ret
  · rw [if_neg hk, if_pos rfl, c00, show tTa s x k = (-2, s) from if_neg hk]
    exact Am.val ⟨reg, sg, S, sz, wf, m⟩
/-! becomes -/
theorem uR_uR (s : Sx) (r : Nat) (g g' : Nat → Qn) : uR (uR s r g) r g' = uR s r g' := by
  unfold uR
  show (s.1, (sR s, sL s, fun i => if i = r then g' else if i = r then g else sP s i), s.2.2) = _
  congr 4
  funext i
  by_cases e : i = r
  · rw [if_pos e, if_pos e]
  · rw [if_neg e, if_neg e, if_neg e]
theorem becomes_l {B r : Nat} {th : Int32} {s : Sx} {sz wf : Nat → Int32} {g : Nat → Qn} (hr : r < sR s) : ∀ (d k : Nat) (M : me_M) (reg : Nat → Nat) (sg : Nat → Int) (S : Sto), d + k = sL s r → MG M B th (uR s r (fun j => if j < k then g j else sP s r j)) reg sg S sz wf → (∀ j, j < sL s r → Kq S (440 + j) (g j)) →
    Am M B (sm T_X7_becomes (11, [(0, .ref B), (1, .int (iZ r)), (3, .int (iZ k))], [], M, 0, 0)) th (1, uR s r g) := by
  intro d
  induction d with
  | zero =>
    intro k M reg sg S hd h hg
    have hm := h.m
    have hm' : sR s ≤ 20 := hm
    obtain ⟨a1, a2, a3, a4⟩ := h.R r hr
    have a2' : sL s r ≤ 10 := a2
    have a3' : sz r = iZ (sL s r) := a3
    have e : k = sL s r := by omega
    rw [e_X7_becomes_11]
    simp only [h.o, bS, mf11, vF, h.i9]
    rw [iZ_clampN (by omega), if_neg (nob (iZ_n0 (by omega)) (by omega))]
    simp only [a3']
    rw [if_pos (by rw [iZ_le (by omega) (by omega)]; omega), c00]
    refine Am.val ⟨reg, sg, S, sz, wf, h.ext rfl rfl rfl rfl ?_⟩
    intro r' k' hr' hk'
    have hk2 : k' < sL s r' := hk'
    show (if r' = r then g else sP s r') k' = (if r' = r then (fun j => if j < k then g j else sP s r j) else sP s r') k'
    by_cases e2 : r' = r
    · subst e2
      rw [if_pos rfl, if_pos rfl]
      show g k' = if k' < k then g k' else _
      rw [if_pos (by omega)]
    · rw [if_neg e2, if_neg e2]
  | succ d ih =>
    intro k M reg sg S hd h hg
    have hm := h.m
    have hm' : sR s ≤ 20 := hm
    obtain ⟨a1, a2, a3, a4⟩ := h.R r hr
    have a2' : sL s r ≤ 10 := a2
    have a3' : sz r = iZ (sL s r) := a3
    obtain ⟨M1, S1, f1, c1⟩ := same_r (u := 440 + k) (v := 240 + 10 * r + k) h (by omega) (by omega) (hg k (by omega))
    have m1 := c1.pl h hr (show k < sL s r by omega)
    rw [uR_uR] at m1
    have ef : (fun j => if j = k then g k else sP (uR s r (fun j => if j < k then g j else sP s r j)) r j) = (fun j => if j < k + 1 then g j else sP s r j) := by
      funext j
      have e1 : sP (uR s r (fun j => if j < k then g j else sP s r j)) r j = if j < k then g j else sP s r j := by
        show (if r = r then (fun j => if j < k then g j else sP s r j) else sP s r) j = _
        rw [if_pos rfl]
      rw [e1]
      by_cases e2 : j = k
      · subst e2
        rw [if_pos rfl, if_pos (by omega)]
      · rw [if_neg e2]
        by_cases e3 : j < k
        · rw [if_pos e3, if_pos (by omega)]
        · rw [if_neg e3, if_neg (by omega)]
    rw [ef] at m1
    rw [e_X7_becomes_11]
    simp only [h.o, bS, mf11, vF, h.i9]
    rw [iZ_clampN (by omega), if_neg (nob (iZ_n0 (by omega)) (by omega))]
    simp only [a3']
    rw [if_neg (by rw [iZ_le (by omega) (by omega)]; omega), place_g]
    simp only [bS, vI]
    rw [h.i0, z440, f1]
    simp only [bS, cNn]
    rw [z_p1]
    exact Am.trans c1.1 (ih (k + 1) M1 _ _ S1 (by omega) m1 (fun j hj => c1.2.2.1 _ _ (by omega) (hg j hj)))
theorem becomes_p {M : me_M} {B r : Nat} {th : Int32} {s : Sx} {reg : Nat → Nat} {sg : Nat → Int} {S : Sto} {sz wf : Nat → Int32} {g : Nat → Qn} (h : MG M B th s reg sg S sz wf) (hr : r < sR s) (hg : ∀ j, j < sL s r → Kq S (440 + j) (g j)) : Am M B (f_X7_becomes [.ref B, .int (iZ r), .int (1 : Int32)] M) th (1, uR s r g) := by
  rw [e_X7_becomes, if_neg i10]
  refine becomes_l hr (sL s r) 0 M reg sg S (by omega) (h.ext rfl rfl rfl rfl ?_) hg
  intro r' k' _ _
  show (if r' = r then (fun j => if j < 0 then g j else sP s r j) else sP s r') k' = sP s r' k'
  by_cases e2 : r' = r
  · subst e2
    rw [if_pos rfl]
    show (if k' < 0 then _ else sP s r' k') = _
    rw [if_neg (by omega)]
  · rw [if_neg e2]
theorem becomes_n {M : me_M} {B r : Nat} {th : Int32} {s : Sx} (h : MF M B th s) : Am M B (f_X7_becomes [.ref B, .int (iZ r), .int (0 : Int32)] M) th (-4, wd s) := by
  rw [e_X7_becomes, if_pos rfl, h.i0]
  exact (wideM_s h).ret
