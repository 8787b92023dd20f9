/-! of, part, limb, whole -/
theorem ofM_g {M : me_M} {B : Nat} {th : Int32} {s : Sx} {x y : Int32} (h : MF M B th s) : Am M B (f_X7_of [.ref B, .int x, .int y] M) 0 (tOf s x y) := by
  obtain ⟨Y, e, y1, y2, t⟩ := i_rep y
  obtain ⟨reg, sg, S, sz, wf, h⟩ := h
  have hn := h.n
  have hm := h.m
  have m := h.th (th' := 0)
  have F : FB M (me_set M B (.inr (7, mfo B 0 s))) B := FB.set (by omega)
  rw [e_X7_of]
  simp only [h.o, bS, ml0, mt0]
  obtain ⟨N, hN⟩ : ∃ N, N = me_set M B (.inr (7, mfo B 0 s)) := ⟨_, rfl⟩
  have hN' : N = me_set M B (.inr (7, [.int 0, .ref (B + 1), .ref (B + 2), .ref (B + 3), .ref (B + 4), .ref (B + 5), .ref (B + 6), .ref (B + 7), .ref (B + 8), .int (iZ (sN s)), .int (iZ (sR s)), .ref (B + 9), .int (iZ (sW s)), .ref (B + 10), .int (iZ (sT s)), .ref (B + 11)])) := hN
  rw [← hN] at m F
  rw [← hN']
  simp only [m.o, bS, isValueM_s m.ob m.n, vI]
  refine Am.trans F ?_
  by_cases hx : isV (sN s) x
  · rw [if_pos hx, if_neg i10]
    by_cases h1 : Y < 0
    · rw [if_pos (by rw [e, z_0, iZ_lt (by omega) (by omega)]; exact h1), c00, show tOf s x y = (-2, s) from if_neg (fun z => by have := z.2.1; omega)]
      exact Am.val ⟨reg, sg, S, sz, wf, m⟩
    · rw [if_neg (by rw [e, z_0, iZ_lt (by omega) (by omega)]; exact h1)]
      by_cases h4' : Y ≤ 4
      · rw [if_pos (by rw [e, show (4 : Int32) = iZ 4 from rfl, iZ_le (by omega) (by omega)]; exact h4'), show tOf s x y = _ from if_pos ⟨hx, by constructor <;> omega⟩]
        obtain ⟨i, i1, i2, i3⟩ := hx.ix (by omega)
        have Ka := m.V i i1
        obtain ⟨M1, f1, m1, F1⟩ := load_mg (f := 1) (v := i) m (by omega) (by omega) Ka
        have f1' : f_X7_load [.ref B, .int (1 : Int32), .int (iZ i)] N = _ := f1
        have m1 : MG M1 B 0 s (up (up reg 2 (sV s i).2.1) 3 (sV s i).2.2) (us sg 1 (sV s i).1) S sz wf := m1
        rw [i3, i2, f1', t]
        simp only [bS, cNn]
        rw [e_X7_of_32, t]
        refine Am.trans F1.fb ?_
        have r2 : up (up reg 2 (sV s i).2.1) 3 (sV s i).2.2 2 = (sV s i).2.1 := by rw [up_n _ _ (by omega), up_s]
        have r3 : up (up reg 2 (sV s i).2.1) 3 (sV s i).2.2 3 = (sV s i).2.2 := up_s _ _ _
        have hc : Y = 0 ∨ Y = 1 ∨ Y = 2 ∨ Y = 3 ∨ Y = 4 := by omega
        rcases hc with rfl | rfl | rfl | rfl | rfl
        · rw [if_neg (by omega), if_pos rfl]
          show Am M1 B (sm T_X7_of (64, _, _, M1, 0, 0)) 0 _
          obtain ⟨M2, f2, m2, F2⟩ := small_g (v := i) m1 (by omega) Ka
          rw [e_X7_of_64, m1.i0, f2]
          simp only [bS, vI]
          have hS1 : qS1 (sV s i) = 0 ∨ qS1 (sV s i) = 1 := by unfold qS1; split; exact Or.inr rfl; exact Or.inl rfl
          rcases hS1 with k | k
          · rw [k, if_pos (by rfl), c00]
            exact ⟨M2, rfl, ⟨_, _, S, sz, wf, m2⟩, F2.fb⟩
          · rw [k, if_neg (by decide), c00]
            exact ⟨M2, rfl, ⟨_, _, S, sz, wf, m2⟩, F2.fb⟩
        · rw [if_neg (by omega), if_neg (by decide), if_pos rfl]
          show Am M1 B (sm T_X7_of (78, _, _, M1, 0, 0)) 0 _
          obtain ⟨_, sf, s1, s2⟩ := m1.ms
          rw [e_X7_of_78]
          simp only [m1.o, bS, mf3, vF, s1]
          rw [if_neg (nob n1 (by decide)), c00, cl1, s2 1 (by omega), us_s]
          exact Am.val ⟨_, _, S, sz, wf, m1⟩
        · rw [if_neg (by omega), if_neg (by decide), if_neg (by decide), if_pos rfl]
          show Am M1 B (sm T_X7_of (85, _, _, M1, 0, 0)) 0 _
          have fb : f_X7_bits [.ref B, .int (2 : Int32)] M1 = _ := bits_g (x := 2) m1.ms.1 (by omega)
          rw [e_X7_of_85, m1.i0, fb, r2]
          simp only [bS, vI]
          rw [c00]
          exact Am.val ⟨_, _, S, sz, wf, m1⟩
        · rw [if_neg (by omega), if_neg (by decide), if_neg (by decide), if_neg (by decide), if_pos rfl]
          show Am M1 B (sm T_X7_of (91, _, _, M1, 0, 0)) 0 _
          have fb : f_X7_bits [.ref B, .int (3 : Int32)] M1 = _ := bits_g (x := 3) m1.ms.1 (by omega)
          rw [e_X7_of_91, m1.i0, fb, r3]
          simp only [bS, vI]
          rw [c00]
          exact Am.val ⟨_, _, S, sz, wf, m1⟩
        · rw [if_pos (by omega), if_neg (by decide), if_neg (by decide), if_neg (by decide), if_neg (by decide), e_X7_of_97, m1.i0]
          have fb : f_X7_compare [.ref B, .int (3 : Int32), .int (18 : Int32)] M1 = _ := cmp_g (x := 3) (y := 18) m1.ms.1 (by omega) (by omega)
          rw [fb, r3, m1.r18]
          simp only [bS, vI]
          by_cases k : (sV s i).2.2 = 1
          · rw [if_pos (cmp_z.mpr k), c00, if_pos k]
            exact Am.val ⟨_, _, S, sz, wf, m1⟩
          · rw [if_neg (fun z => k (cmp_z.mp z)), c00, if_neg k]
            exact Am.val ⟨_, _, S, sz, wf, m1⟩
      · rw [if_neg (by rw [e, show (4 : Int32) = iZ 4 from rfl, iZ_le (by omega) (by omega)]; exact h4'), c00, show tOf s x y = (-2, s) from if_neg (fun z => by have := z.2.2; omega)]
        exact Am.val ⟨reg, sg, S, sz, wf, m⟩
  · rw [if_neg hx, if_pos rfl, c00, show tOf s x y = (-2, s) from if_neg (fun k => hx k.1)]
    exact Am.val ⟨reg, sg, S, sz, wf, m⟩
/-! part -/
abbrev fitL (v : Nat) (its : Int) : Prop := v < 9223372036854775808 ∨ (its < 0 ∧ v = 9223372036854775808)
/-- the size and the sign that part speaks of -/
def paN (q : Qn) (p : Int32) : Nat := if p = 0 then q.2.1 else q.2.2
def paS (q : Qn) (p : Int32) : Int := if p = 0 then q.1 else 1
def paT (s : Sx) (x p : Int32) : Int32 := if isV (sN s) x ∧ isV 2 p then (if fitL (paN (sV s x.toNatClampNeg) p) (paS (sV s x.toNatClampNeg) p) then 0 else 2) else 1
def paV (s : Sx) (x p : Int32) : Int64 := if paS (sV s x.toNatClampNeg) p < 0 then -lZ (paN (sV s x.toNatClampNeg) p) else lZ (paN (sV s x.toNatClampNeg) p)
theorem throw_l {M : me_M} {B : Nat} {th : Int32} {s : Sx} {reg : Nat → Nat} {sg : Nat → Int} {S : Sto} {sz wf : Nat → Int32} {k : Int32} (h : MG M B th s reg sg S sz wf) : ∃ M' : me_M, (((f_X7_throwing [.ref B, .int k] M).bind fun r1 => r1.1.bind fun v2 => (v_int v2).bind fun y3 => if 0 ≤ 0 ∧ 0 ≤ 0 then (some (some (.long y3.toInt64), r1.2) : Option sm_R) else none) = some (some (.long 0), M')) ∧ MF M' B k s ∧ FB M M' B := by
  obtain ⟨M', f, P, F⟩ := throwing_g (k := k) h
  refine ⟨M', ?_, P, F⟩
  rw [f]
  simp only [bS, vI]
  exact c00
/-- an answer that is a long -/
def Al (M : me_M) (B : Nat) (r : Option sm_R) (th : Int32) (v : Int64) (s : Sx) : Prop := ∃ (M' : me_M) (w : Int64), r = some (some (.long w), M') ∧ MF M' B th s ∧ FB M M' B ∧ (th = 0 → w = v)
theorem Al.trans {M N : me_M} {B : Nat} {r : Option sm_R} {th : Int32} {v : Int64} {s : Sx} (h : FB M N B) (k : Al N B r th v s) : Al M B r th v s := by
  obtain ⟨L, w, e, p, g, z⟩ := k
  exact ⟨L, w, e, p, h.trans g, z⟩
theorem partM_g {M : me_M} {B : Nat} {th : Int32} {s : Sx} {x p : Int32} (h : MF M B th s) : Al M B (f_X7_part [.ref B, .int x, .int p] M) (paT s x p) (paV s x p) s := by
  obtain ⟨P, e, p1, p2, t⟩ := i_rep p
  obtain ⟨reg, sg, S, sz, wf, h⟩ := h
  have hn := h.n
  have hm := h.m
  have m := h.th (th' := 0)
  have F : FB M (me_set M B (.inr (7, mfo B 0 s))) B := FB.set (by omega)
  rw [e_X7_part]
  simp only [h.o, bS, ml0, mt0]
  obtain ⟨N, hN⟩ : ∃ N, N = me_set M B (.inr (7, mfo B 0 s)) := ⟨_, rfl⟩
  have hN' : N = me_set M B (.inr (7, [.int 0, .ref (B + 1), .ref (B + 2), .ref (B + 3), .ref (B + 4), .ref (B + 5), .ref (B + 6), .ref (B + 7), .ref (B + 8), .int (iZ (sN s)), .int (iZ (sR s)), .ref (B + 9), .int (iZ (sW s)), .ref (B + 10), .int (iZ (sT s)), .ref (B + 11)])) := hN
  rw [← hN] at m F
  rw [← hN']
  simp only [m.o, bS, isValueM_s m.ob m.n, vI]
  refine Al.trans F ?_
  have bad : ¬ (isV (sN s) x ∧ isV 2 p) → Al N B (sm T_X7_part (22, [(0, .ref B)], [], N, 0, 0)) (paT s x p) (paV s x p) s := by
    intro hb
    rw [show paT s x p = 1 from if_neg hb, e_X7_part_22, m.i0]
    obtain ⟨M', f, P', F'⟩ := throw_l (k := 1) m
    exact ⟨M', 0, f, P', F', fun z => absurd z (by decide)⟩
  by_cases hx : isV (sN s) x
  · rw [if_pos hx, if_neg i10]
    by_cases h1 : P < 0
    · rw [if_pos (by rw [e, z_0, iZ_lt (by omega) (by omega)]; exact h1)]
      exact bad (fun z => by have := z.2.1; omega)
    · rw [if_neg (by rw [e, z_0, iZ_lt (by omega) (by omega)]; exact h1)]
      by_cases h2' : P ≤ 1
      · rw [if_pos (by rw [e, z_1, iZ_le (by omega) (by omega)]; exact h2')]
        have hp : isV 2 p := by constructor <;> omega
        obtain ⟨i, i1, i2, i3⟩ := hx.ix (by omega)
        have Ka := m.V i i1
        have k1 := Ka.1.1
        obtain ⟨M1, f1, m1, F1⟩ := load_mg (f := 1) (v := i) m (by omega) (by omega) Ka
        have f1' : f_X7_load [.ref B, .int (1 : Int32), .int (iZ i)] N = _ := f1
        have m1 : MG M1 B 0 s (up (up reg 2 (sV s i).2.1) 3 (sV s i).2.2) (us sg 1 (sV s i).1) S sz wf := m1
        have r2 : up (up reg 2 (sV s i).2.1) 3 (sV s i).2.2 2 = (sV s i).2.1 := by rw [up_n _ _ (by omega), up_s]
        have r3 : up (up reg 2 (sV s i).2.1) 3 (sV s i).2.2 3 = (sV s i).2.2 := up_s _ _ _
        obtain ⟨_, sf, s1, s2⟩ := m1.ms
        have c1 : sf 1 = iZ (sV s i).1 := by rw [s2 1 (by omega), us_s]
        rw [i2, f1']
        simp only [bS, cNn]
        refine Al.trans F1.fb ?_
        have eT : paT s (iZ (i : Int)) p = if fitL (paN (sV s i) p) (paS (sV s i) p) then 0 else 2 := by
          rw [← i2]
          unfold paT
          rw [if_pos ⟨hx, hp⟩, i3]
        have eV : paV s (iZ (i : Int)) p = if paS (sV s i) p < 0 then -lZ (paN (sV s i) p) else lZ (paN (sV s i) p) := by
          rw [← i2]
          unfold paV
          rw [i3]
        rw [eT, eV]
        -- from 55 on, at one register
        have s55 : ∀ (g : Nat) (sgn : Int), g < 19 → -2 ≤ sgn → sgn ≤ 2 → (up (up reg 2 (sV s i).2.1) 3 (sV s i).2.2) g = paN (sV s i) p → sgn = paS (sV s i) p → Al M1 B (sm T_X7_part (55, [(0, .ref B), (2, .int p), (3, .int (iZ g))], [.int (iZ sgn), .int (iZ g), .ref B], M1, 0, 0)) (if fitL (paN (sV s i) p) (paS (sV s i) p) then 0 else 2) (if paS (sV s i) p < 0 then -lZ (paN (sV s i) p) else lZ (paN (sV s i) p)) s := by
          intro g sgn hg l1 l2 eg es
          rw [e_X7_part_55, m1.i0, isLong_g m1.ms.1 hg l1 l2, eg, es]
          simp only [bS, vI]
          by_cases hf : fitL (paN (sV s i) p) (paS (sV s i) p)
          · have hb : paN (sV s i) p < 18446744073709551616 := by rcases hf with q | q <;> omega
            have fl := low_g (x := g) m1.ms.1 hg (by rw [eg]; exact hb)
            rw [eg] at fl
            rw [if_pos hf, if_neg i10, if_pos hf, e_X7_part_90, m1.i0, fl]
            simp only [bS, vL, m1.o, mf3, vF, s1, cl1, c1]
            rw [c00]
            by_cases hp0 : p = 0
            · rw [if_pos hp0, if_neg (nob n1 (by decide))]
              have e9 : paS (sV s i) p = (sV s i).1 := if_pos hp0
              by_cases hs : 0 ≤ (sV s i).1
              · rw [if_pos (by rw [z_0, iZ_le (by omega) (by omega)]; exact hs), if_neg (by omega)]
                exact ⟨M1, _, rfl, ⟨_, _, S, sz, wf, m1⟩, FB.refl _ _, fun _ => rfl⟩
              · rw [if_neg (by rw [z_0, iZ_le (by omega) (by omega)]; exact hs), c00, if_pos (by omega)]
                exact ⟨M1, _, rfl, ⟨_, _, S, sz, wf, m1⟩, FB.refl _ _, fun _ => rfl⟩
            · have e9 : paS (sV s i) p = 1 := if_neg hp0
              rw [if_neg hp0, if_neg (by omega)]
              exact ⟨M1, _, rfl, ⟨_, _, S, sz, wf, m1⟩, FB.refl _ _, fun _ => rfl⟩
          · rw [if_neg hf, if_pos rfl, if_neg hf, m1.i0]
            obtain ⟨M', f, P', F'⟩ := throw_l (k := 2) m1
            exact ⟨M', 0, f, P', F', fun z => absurd z (by decide)⟩
        by_cases hp0 : p = 0
        · rw [if_pos hp0]
          simp only [m1.o, bS, mf3, vF, s1, cl1, c1]
          rw [if_neg (nob n1 (by decide))]
          have e2 : (2 : Int32) + p = iZ ((2 : Nat) : Int) := by rw [hp0]; rfl
          rw [e2]
          exact s55 2 (sV s i).1 (by omega) (by omega) (by omega) (by rw [r2]; exact (if_pos hp0).symm) (if_pos hp0).symm
        · rw [if_neg hp0]
          have e1 : P = 1 := by
            rcases Int.lt_or_le P 1 with q | q
            · exact absurd (by rw [e, show P = 0 by omega]; rfl) hp0
            · omega
          have e2 : (2 : Int32) + p = iZ ((3 : Nat) : Int) := by rw [e, e1]; rfl
          rw [e2]
          exact s55 3 1 (by omega) (by omega) (by omega) (by rw [r3]; exact (if_neg hp0).symm) (if_neg hp0).symm
      · rw [if_neg (by rw [e, z_1, iZ_le (by omega) (by omega)]; exact h2')]
        exact bad (fun z => by have := z.2.2; omega)
  · rw [if_neg hx, if_pos rfl]
    exact bad (fun z => hx z.1)
/-! limb -/
def liT (s : Sx) (x p k : Int32) : Int32 := if isV (sN s) x ∧ isV 2 p then (if isV ((bl (paN (sV s x.toNatClampNeg) p) + 31) / 32) k then 0 else 2) else 1
def liV (s : Sx) (x p k : Int32) : Int32 := iZ ((paN (sV s x.toNatClampNeg) p / 2 ^ (32 * k.toNatClampNeg) % 4294967296 : Nat) : Int)
/-- an answer that is an int, where nothing was thrown -/
def Ai (M : me_M) (B : Nat) (r : Option sm_R) (th : Int32) (v : Int32) (s : Sx) : Prop := ∃ (M' : me_M) (w : Int32), r = some (some (.int w), M') ∧ MF M' B th s ∧ FB M M' B ∧ (th = 0 → w = v)
theorem Ai.trans {M N : me_M} {B : Nat} {r : Option sm_R} {th : Int32} {v : Int32} {s : Sx} (h : FB M N B) (k : Ai N B r th v s) : Ai M B r th v s := by
  obtain ⟨L, w, e, p, g, z⟩ := k
  exact ⟨L, w, e, p, h.trans g, z⟩
theorem dg_32 (v k : Nat) : dg 16 v (2 * k) + dg 16 v (2 * k + 1) * 65536 = v / 2 ^ (32 * k) % 4294967296 := by
  unfold dg
  rw [show 16 * (2 * k) = 32 * k by omega, show 16 * (2 * k + 1) = 32 * k + 16 by omega, Nat.pow_add, ← Nat.div_div_eq_div_mul, show (2 : Nat) ^ 16 = 65536 by decide]
  omega
theorem shl16 {x : Nat} (h : x < 65536) : iZ (x : Int) <<< ((16 : Int32) &&& 31) = iZ ((2 ^ 16 * x : Nat) : Int) := by
  rw [show (16 : Int32) = iZ ((16 : Nat) : Int) from rfl, iZ_shl (by omega) (by omega), Nat.mul_comm x]
theorem or16 {a b : Nat} (ha : a < 65536) (hb : b < 65536) : iZ (b : Int) ||| iZ ((2 ^ 16 * a : Nat) : Int) = iZ ((2 ^ 16 * a + b : Nat) : Int) := by
  rw [Int32.or_comm]
  exact iZ_or (r := 16) (by omega) (by omega)
theorem limbM_g {M : me_M} {B : Nat} {th : Int32} {s : Sx} {x p k : Int32} (h : MF M B th s) : Ai M B (f_X7_limb [.ref B, .int x, .int p, .int k] M) (liT s x p k) (liV s x p k) s := by
  obtain ⟨P, e, p1, p2, t⟩ := i_rep p
  obtain ⟨K, ek, k1', k2', tk⟩ := i_rep k
  obtain ⟨reg, sg, S, sz, wf, h⟩ := h
  have hn := h.n
  have hm := h.m
  have m := h.th (th' := 0)
  have F : FB M (me_set M B (.inr (7, mfo B 0 s))) B := FB.set (by omega)
  rw [e_X7_limb]
  simp only [h.o, bS, ml0, mt0]
  obtain ⟨N, hN⟩ : ∃ N, N = me_set M B (.inr (7, mfo B 0 s)) := ⟨_, rfl⟩
  have hN' : N = me_set M B (.inr (7, [.int 0, .ref (B + 1), .ref (B + 2), .ref (B + 3), .ref (B + 4), .ref (B + 5), .ref (B + 6), .ref (B + 7), .ref (B + 8), .int (iZ (sN s)), .int (iZ (sR s)), .ref (B + 9), .int (iZ (sW s)), .ref (B + 10), .int (iZ (sT s)), .ref (B + 11)])) := hN
  rw [← hN] at m F
  rw [← hN']
  simp only [m.o, bS, isValueM_s m.ob m.n, vI]
  refine Ai.trans F ?_
  have bad : ¬ (isV (sN s) x ∧ isV 2 p) → Ai N B (sm T_X7_limb (22, [(0, .ref B)], [], N, 0, 0)) (liT s x p k) (liV s x p k) s := by
    intro hb
    rw [show liT s x p k = 1 from if_neg hb, e_X7_limb_22, m.i0]
    obtain ⟨M', f, P', F'⟩ := (throwing_g (k := 1) m).ret
    exact ⟨M', 0, f, P', F', fun z => absurd z (by decide)⟩
  by_cases hx : isV (sN s) x
  · rw [if_pos hx, if_neg i10]
    by_cases h1 : P < 0
    · rw [if_pos (by rw [e, z_0, iZ_lt (by omega) (by omega)]; exact h1)]
      exact bad (fun z => by have := z.2.1; omega)
    · rw [if_neg (by rw [e, z_0, iZ_lt (by omega) (by omega)]; exact h1)]
      by_cases h2' : P ≤ 1
      · rw [if_pos (by rw [e, z_1, iZ_le (by omega) (by omega)]; exact h2')]
        have hp : isV 2 p := by constructor <;> omega
        obtain ⟨i, i1, i2, i3⟩ := hx.ix (by omega)
        have Ka := m.V i i1
        obtain ⟨M1, f1, m1, F1⟩ := load_mg (f := 1) (v := i) m (by omega) (by omega) Ka
        have f1' : f_X7_load [.ref B, .int (1 : Int32), .int (iZ i)] N = _ := f1
        have m1 : MG M1 B 0 s (up (up reg 2 (sV s i).2.1) 3 (sV s i).2.2) (us sg 1 (sV s i).1) S sz wf := m1
        rw [i2, f1']
        simp only [bS, cNn]
        refine Ai.trans F1.fb ?_
        obtain ⟨g, hg, eg, e2⟩ : ∃ g : Nat, g < 19 ∧ (up (up reg 2 (sV s i).2.1) 3 (sV s i).2.2) g = paN (sV s i) p ∧ (2 : Int32) + p = iZ (g : Int) := by
          by_cases hp0 : p = 0
          · exact ⟨2, by omega, by rw [up_n _ _ (by omega), up_s]; exact (if_pos hp0).symm, by rw [hp0]; rfl⟩
          · have e1 : P = 1 := by
              rcases Int.lt_or_le P 1 with q | q
              · exact absurd (by rw [e, show P = 0 by omega]; rfl) hp0
              · omega
            exact ⟨3, by omega, by rw [up_s]; exact (if_neg hp0).symm, by rw [e, e1]; rfl⟩
        have lb : bl (paN (sV s i) p) ≤ 2560 := by
          rw [← eg]
          obtain ⟨rf, nf, _, hR⟩ := m1.ms.1
          exact (hR g hg).bl_le
        have eT : liT s (iZ (i : Int)) p k = if isV ((bl (paN (sV s i) p) + 31) / 32) k then 0 else 2 := by
          rw [← i2]
          unfold liT
          rw [if_pos ⟨hx, hp⟩, i3]
        have eV : liV s (iZ (i : Int)) p k = iZ ((paN (sV s i) p / 2 ^ (32 * k.toNatClampNeg) % 4294967296 : Nat) : Int) := by
          rw [← i2]
          unfold liV
          rw [i3]
        rw [eT, eV, e2]
        have b59 : ¬ isV ((bl (paN (sV s i) p) + 31) / 32) k → Ai M1 B (sm T_X7_limb (59, [(0, .ref B)], [], M1, 0, 0)) (if isV ((bl (paN (sV s i) p) + 31) / 32) k then 0 else 2) (iZ ((paN (sV s i) p / 2 ^ (32 * k.toNatClampNeg) % 4294967296 : Nat) : Int)) s := by
          intro hb
          rw [if_neg hb, e_X7_limb_59, m1.i0]
          obtain ⟨M', f, P', F'⟩ := (throwing_g (k := 2) m1).ret
          exact ⟨M', 0, f, P', F', fun z => absurd z (by decide)⟩
        by_cases hk : K < 0
        · rw [if_pos (by rw [ek, z_0, iZ_lt (by omega) (by omega)]; exact hk)]
          exact b59 (fun z => by have := z.1; omega)
        · rw [if_neg (by rw [ek, z_0, iZ_lt (by omega) (by omega)]; exact hk), m1.i0, bits_g m1.ms.1 hg, eg]
          simp only [bS, vI]
          have ed : (iZ ((bl (paN (sV s i) p) : Nat) : Int) + (31 : Int32)) / (32 : Int32) = iZ (((bl (paN (sV s i) p) + 31) / 32 : Nat) : Int) := by
            rw [show (31 : Int32) = iZ ((31 : Nat) : Int) from rfl, z_pi]
            exact iZ_div (b := 32) (by omega) (by omega) (by omega)
          rw [if_neg (by decide : ¬ (32 : Int32) = 0), ed]
          by_cases hk2 : K < (((bl (paN (sV s i) p) + 31) / 32 : Nat) : Int)
          · have hv : isV ((bl (paN (sV s i) p) + 31) / 32) k := by constructor <;> omega
            rw [if_pos (by rw [ek, iZ_lt (by omega) (by omega)]; exact hk2), if_pos hv]
            obtain ⟨j, j1, j2, j3⟩ := hv.ix (by omega)
            obtain ⟨rf, nf, hL, hR⟩ := m1.ms.1
            have RXg := hR g hg
            rw [eg] at RXg
            have ex : (2 : Int32) * iZ (j : Int) + 1 = iZ ((2 * j + 1 : Nat) : Int) := z21 j
            have d1 := dg_16 (paN (sV s i) p) (2 * j)
            have d2 := dg_16 (paN (sV s i) p) (2 * j + 1)
            rw [j2, ex, z2, m1.i0, at_g hL hg RXg (by omega)]
            simp only [bS, vI]
            rw [m1.i0, at_g hL hg RXg (by omega)]
            simp only [bS, vI]
            rw [shl16 d2, or16 d2 d1, c00, ← j2, j3, ← dg_32]
            refine ⟨M1, _, rfl, ⟨_, _, S, sz, wf, m1⟩, FB.refl _ _, fun _ => ?_⟩
            rw [show 2 ^ 16 * dg 16 (paN (sV s i) p) (2 * j + 1) + dg 16 (paN (sV s i) p) (2 * j) = dg 16 (paN (sV s i) p) (2 * j) + dg 16 (paN (sV s i) p) (2 * j + 1) * 65536 by omega]
          · rw [if_neg (by rw [ek, iZ_lt (by omega) (by omega)]; exact hk2)]
            exact b59 (fun z => by have := z.2; omega)
      · rw [if_neg (by rw [e, z_1, iZ_le (by omega) (by omega)]; exact h2')]
        exact bad (fun z => by have := z.2.2; omega)
  · rw [if_neg hx, if_pos rfl]
    exact bad (fun z => hx z.1)
