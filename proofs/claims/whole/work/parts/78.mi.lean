/-! the reference: its object, and the NUMBERS that it keeps -/
theorem mf0 (x0 x1 x2 x3 x4 x5 x6 x7 x8 x9 x10 x11 x12 x13 x14 x15 : Value) : [x0, x1, x2, x3, x4, x5, x6, x7, x8, x9, x10, x11, x12, x13, x14, x15][0]? = some x0 := rfl
theorem mf1 (x0 x1 x2 x3 x4 x5 x6 x7 x8 x9 x10 x11 x12 x13 x14 x15 : Value) : [x0, x1, x2, x3, x4, x5, x6, x7, x8, x9, x10, x11, x12, x13, x14, x15][1]? = some x1 := rfl
theorem mf2 (x0 x1 x2 x3 x4 x5 x6 x7 x8 x9 x10 x11 x12 x13 x14 x15 : Value) : [x0, x1, x2, x3, x4, x5, x6, x7, x8, x9, x10, x11, x12, x13, x14, x15][2]? = some x2 := rfl
theorem mf3 (x0 x1 x2 x3 x4 x5 x6 x7 x8 x9 x10 x11 x12 x13 x14 x15 : Value) : [x0, x1, x2, x3, x4, x5, x6, x7, x8, x9, x10, x11, x12, x13, x14, x15][3]? = some x3 := rfl
theorem mf4 (x0 x1 x2 x3 x4 x5 x6 x7 x8 x9 x10 x11 x12 x13 x14 x15 : Value) : [x0, x1, x2, x3, x4, x5, x6, x7, x8, x9, x10, x11, x12, x13, x14, x15][4]? = some x4 := rfl
theorem mf5 (x0 x1 x2 x3 x4 x5 x6 x7 x8 x9 x10 x11 x12 x13 x14 x15 : Value) : [x0, x1, x2, x3, x4, x5, x6, x7, x8, x9, x10, x11, x12, x13, x14, x15][5]? = some x5 := rfl
theorem mf6 (x0 x1 x2 x3 x4 x5 x6 x7 x8 x9 x10 x11 x12 x13 x14 x15 : Value) : [x0, x1, x2, x3, x4, x5, x6, x7, x8, x9, x10, x11, x12, x13, x14, x15][6]? = some x6 := rfl
theorem mf7 (x0 x1 x2 x3 x4 x5 x6 x7 x8 x9 x10 x11 x12 x13 x14 x15 : Value) : [x0, x1, x2, x3, x4, x5, x6, x7, x8, x9, x10, x11, x12, x13, x14, x15][7]? = some x7 := rfl
theorem mf8 (x0 x1 x2 x3 x4 x5 x6 x7 x8 x9 x10 x11 x12 x13 x14 x15 : Value) : [x0, x1, x2, x3, x4, x5, x6, x7, x8, x9, x10, x11, x12, x13, x14, x15][8]? = some x8 := rfl
theorem mf9 (x0 x1 x2 x3 x4 x5 x6 x7 x8 x9 x10 x11 x12 x13 x14 x15 : Value) : [x0, x1, x2, x3, x4, x5, x6, x7, x8, x9, x10, x11, x12, x13, x14, x15][9]? = some x9 := rfl
theorem mf10 (x0 x1 x2 x3 x4 x5 x6 x7 x8 x9 x10 x11 x12 x13 x14 x15 : Value) : [x0, x1, x2, x3, x4, x5, x6, x7, x8, x9, x10, x11, x12, x13, x14, x15][10]? = some x10 := rfl
theorem mf11 (x0 x1 x2 x3 x4 x5 x6 x7 x8 x9 x10 x11 x12 x13 x14 x15 : Value) : [x0, x1, x2, x3, x4, x5, x6, x7, x8, x9, x10, x11, x12, x13, x14, x15][11]? = some x11 := rfl
theorem mf12 (x0 x1 x2 x3 x4 x5 x6 x7 x8 x9 x10 x11 x12 x13 x14 x15 : Value) : [x0, x1, x2, x3, x4, x5, x6, x7, x8, x9, x10, x11, x12, x13, x14, x15][12]? = some x12 := rfl
theorem mf13 (x0 x1 x2 x3 x4 x5 x6 x7 x8 x9 x10 x11 x12 x13 x14 x15 : Value) : [x0, x1, x2, x3, x4, x5, x6, x7, x8, x9, x10, x11, x12, x13, x14, x15][13]? = some x13 := rfl
theorem mf14 (x0 x1 x2 x3 x4 x5 x6 x7 x8 x9 x10 x11 x12 x13 x14 x15 : Value) : [x0, x1, x2, x3, x4, x5, x6, x7, x8, x9, x10, x11, x12, x13, x14, x15][14]? = some x14 := rfl
theorem mf15 (x0 x1 x2 x3 x4 x5 x6 x7 x8 x9 x10 x11 x12 x13 x14 x15 : Value) : [x0, x1, x2, x3, x4, x5, x6, x7, x8, x9, x10, x11, x12, x13, x14, x15][15]? = some x15 := rfl
theorem mt0 (x0 x1 x2 x3 x4 x5 x6 x7 x8 x9 x10 x11 x12 x13 x14 x15 z : Value) : [x0, x1, x2, x3, x4, x5, x6, x7, x8, x9, x10, x11, x12, x13, x14, x15].set 0 z = [z, x1, x2, x3, x4, x5, x6, x7, x8, x9, x10, x11, x12, x13, x14, x15] := rfl
theorem ml0 {α : Type} {x0 x1 x2 x3 x4 x5 x6 x7 x8 x9 x10 x11 x12 x13 x14 x15 : Value} {a b : α} : (if 0 < [x0, x1, x2, x3, x4, x5, x6, x7, x8, x9, x10, x11, x12, x13, x14, x15].length then a else b) = a := if_pos (show 0 < 16 by omega)
theorem mt9 (x0 x1 x2 x3 x4 x5 x6 x7 x8 x9 x10 x11 x12 x13 x14 x15 z : Value) : [x0, x1, x2, x3, x4, x5, x6, x7, x8, x9, x10, x11, x12, x13, x14, x15].set 9 z = [x0, x1, x2, x3, x4, x5, x6, x7, x8, z, x10, x11, x12, x13, x14, x15] := rfl
theorem ml9 {α : Type} {x0 x1 x2 x3 x4 x5 x6 x7 x8 x9 x10 x11 x12 x13 x14 x15 : Value} {a b : α} : (if 9 < [x0, x1, x2, x3, x4, x5, x6, x7, x8, x9, x10, x11, x12, x13, x14, x15].length then a else b) = a := if_pos (show 9 < 16 by omega)
theorem mt10 (x0 x1 x2 x3 x4 x5 x6 x7 x8 x9 x10 x11 x12 x13 x14 x15 z : Value) : [x0, x1, x2, x3, x4, x5, x6, x7, x8, x9, x10, x11, x12, x13, x14, x15].set 10 z = [x0, x1, x2, x3, x4, x5, x6, x7, x8, x9, z, x11, x12, x13, x14, x15] := rfl
theorem ml10 {α : Type} {x0 x1 x2 x3 x4 x5 x6 x7 x8 x9 x10 x11 x12 x13 x14 x15 : Value} {a b : α} : (if 10 < [x0, x1, x2, x3, x4, x5, x6, x7, x8, x9, x10, x11, x12, x13, x14, x15].length then a else b) = a := if_pos (show 10 < 16 by omega)
theorem mt12 (x0 x1 x2 x3 x4 x5 x6 x7 x8 x9 x10 x11 x12 x13 x14 x15 z : Value) : [x0, x1, x2, x3, x4, x5, x6, x7, x8, x9, x10, x11, x12, x13, x14, x15].set 12 z = [x0, x1, x2, x3, x4, x5, x6, x7, x8, x9, x10, x11, z, x13, x14, x15] := rfl
theorem ml12 {α : Type} {x0 x1 x2 x3 x4 x5 x6 x7 x8 x9 x10 x11 x12 x13 x14 x15 : Value} {a b : α} : (if 12 < [x0, x1, x2, x3, x4, x5, x6, x7, x8, x9, x10, x11, x12, x13, x14, x15].length then a else b) = a := if_pos (show 12 < 16 by omega)
theorem mt14 (x0 x1 x2 x3 x4 x5 x6 x7 x8 x9 x10 x11 x12 x13 x14 x15 z : Value) : [x0, x1, x2, x3, x4, x5, x6, x7, x8, x9, x10, x11, x12, x13, x14, x15].set 14 z = [x0, x1, x2, x3, x4, x5, x6, x7, x8, x9, x10, x11, x12, x13, z, x15] := rfl
theorem ml14 {α : Type} {x0 x1 x2 x3 x4 x5 x6 x7 x8 x9 x10 x11 x12 x13 x14 x15 : Value} {a b : α} : (if 14 < [x0, x1, x2, x3, x4, x5, x6, x7, x8, x9, x10, x11, x12, x13, x14, x15].length then a else b) = a := if_pos (show 14 < 16 by omega)
def mfo (B : Nat) (th : Int32) (s : Sx) : List Value := [.int th, .ref (B + 1), .ref (B + 2), .ref (B + 3), .ref (B + 4), .ref (B + 5), .ref (B + 6), .ref (B + 7), .ref (B + 8), .int (iZ (sN s)), .int (iZ (sR s)), .ref (B + 9), .int (iZ (sW s)), .ref (B + 10), .int (iZ (sT s)), .ref (B + 11)]
def OB (M : me_M) (B : Nat) (th : Int32) (s : Sx) : Prop := me_obj M 7 B = some [.int th, .ref (B + 1), .ref (B + 2), .ref (B + 3), .ref (B + 4), .ref (B + 5), .ref (B + 6), .ref (B + 7), .ref (B + 8), .int (iZ (sN s)), .int (iZ (sR s)), .ref (B + 9), .int (iZ (sW s)), .ref (B + 10), .int (iZ (sT s)), .ref (B + 11)]
def ST (M : me_M) (B : Nat) (ss ab am bb bm : Nat → Int32) : Prop := me_int M 0 (B + 4) = some (450, ss) ∧ me_int M 0 (B + 5) = some (14400, ab) ∧ me_int M 0 (B + 6) = some (450, am) ∧ me_int M 0 (B + 7) = some (14400, bb) ∧ me_int M 0 (B + 8) = some (450, bm)
theorem OB.fs {M M' : me_M} {B : Nat} {th : Int32} {s : Sx} (h : OB M B th s) (k : FS M M' B) : OB M' B th s := (mo_of (k.2 _ (by omega) (by omega) (by omega))).trans h
theorem ST.fs {M M' : me_M} {B : Nat} {ss ab am bb bm : Nat → Int32} (h : ST M B ss ab am bb bm) (k : FS M M' B) : ST M' B ss ab am bb bm := ⟨(mi_of (k.2 _ (by omega) (by omega) (by omega))).trans h.1, (mi_of (k.2 _ (by omega) (by omega) (by omega))).trans h.2.1, (mi_of (k.2 _ (by omega) (by omega) (by omega))).trans h.2.2.1, (mi_of (k.2 _ (by omega) (by omega) (by omega))).trans h.2.2.2.1, (mi_of (k.2 _ (by omega) (by omega) (by omega))).trans h.2.2.2.2⟩
/-- one kept size -/
def SA (ab am : Nat → Int32) (v n : Nat) : Prop := ∃ s : Nat, am v = iZ s ∧ s ≤ 32 ∧ Sz 16 n s ∧ ∀ j, j < s → ab (32 * v + j) = iZ (dg 16 n j)
def Sv (ss ab am bb bm : Nat → Int32) (v : Nat) (q : Qn) : Prop := ss v = iZ q.1 ∧ SA ab am v q.2.1 ∧ SA bb bm v q.2.2
theorem ix32 (v j : Nat) : (32 : Int32) * iZ (v : Int) + iZ (j : Int) = iZ ((32 * v + j : Nat) : Int) := by
  rw [show (32 : Int32) = iZ 32 from rfl, iZ_mul, iZ_add]; congr 1
theorem load_16 {M : me_M} {B f v n s : Nat} {th : Int32} {st : Sx} {ss ab am bb bm rf nf : Nat → Int32} (h : Lo M B rf nf) (hO : OB M B th st) (hS : ST M B ss ab am bb bm) (hf : f < 4) (hv : v < 450) (e1 : am v = iZ s) (e2 : s ≤ 32) (e3 : ∀ j, j < s → ab (32 * v + j) = iZ (dg 16 n j)) : ∀ (d k : Nat) (g : Nat → Int32), d + k = s → Ot g rf (2 * f) → (∀ j, j < k → g (160 * (2 * f) + j) = iZ (dg 16 n j)) →
    ∃ g' : Nat → Int32, sm T_X7_load (16, [(0, .ref B), (1, .int (iZ f)), (2, .int (iZ v)), (3, .int (iZ k))], [], mA M (B + 1) 3040 g, 0, 0) = sm T_X7_load (75, [(0, .ref B), (1, .int (iZ f)), (2, .int (iZ v)), (3, .int (0 : Int32))], [], me_set (mA M (B + 1) 3040 g') (B + 2) (.inl (0, 19, .inl (upd nf (2 * f + 1) (bm v)))), 0, 0) ∧ Ot g' rf (2 * f) ∧ ∀ j, j < s → g' (160 * (2 * f) + j) = iZ (dg 16 n j) := by
  intro d
  induction d with
  | zero =>
    intro k g hd hg hk
    have e : k = s := by omega
    subst e
    have o := hO.fs (FM.a (g := g)).fs
    have t := hS.fs (FM.a (g := g)).fs
    obtain ⟨_, h1, h2⟩ := h.a g
    have cv := iZ_clampN (n := v) (by omega)
    have cf := iZ_clampN (n := 2 * f + 1) (by omega)
    refine ⟨g, ?_, hg, hk⟩
    rw [e_X7_load_16]
    unfold OB at o
    simp only [o, bS, mf2, mf6, mf8, vF, t.2.2.1, t.2.2.2.2, h2, cv, e1, z21, cf]
    rw [if_neg (nob (iZ_n0 (by omega)) (by omega)), if_pos (Int32.le_refl _), if_neg (nob (iZ_n0 (by omega)) (by omega)), if_neg (nob (iZ_n0 (by omega)) (by omega))]
  | succ d ih =>
    intro k g hd hg hk
    have o := hO.fs (FM.a (g := g)).fs
    have t := hS.fs (FM.a (g := g)).fs
    obtain ⟨_, h1, h2⟩ := h.a g
    have cv := iZ_clampN (n := v) (by omega)
    have eM : ∀ q, me_set (mA M (B + 1) 3040 g) (B + 1) (.inl (0, 3040, .inl q)) = mA M (B + 1) 3040 q := fun q => set_set _ _ _ _
    rw [e_X7_load_16]
    unfold OB at o
    simp only [o, bS, mf1, mf5, mf6, vF, t.2.1, t.2.2.1, h1, cv, e1, z2, ix16, ix32, eM]
    rw [if_neg (nob (iZ_n0 (by omega)) (by omega)), if_neg (by rw [iZ_le (by omega) (by omega)]; omega), iZ_clampN (by omega : 32 * v + k < 2147483648), if_neg (nob (iZ_n0 (by omega)) (by omega)), iZ_clampN (by omega : 160 * (2 * f) + k < 2147483648), if_neg (nob (iZ_n0 (by omega)) (by omega)), e3 k (by omega), z_p1]
    refine ih (k + 1) _ (by omega) (hg.upd (by omega)) (fun j hj => ?_)
    by_cases e : j = k
    · subst e; rw [upd_s]
    · rw [upd_n _ _ (by omega)]; exact hk j (by omega)
theorem load_75 {M : me_M} {B f v n s : Nat} {th : Int32} {st : Sx} {ss ab am bb bm rf nf sf : Nat → Int32} (h : Lo M B rf nf) (hO : OB M B th st) (hS : ST M B ss ab am bb bm) (h3' : me_int M 0 (B + 3) = some (4, sf)) (hf : f < 4) (hv : v < 450) (e1 : bm v = iZ s) (e2 : s ≤ 32) (e3 : ∀ j, j < s → bb (32 * v + j) = iZ (dg 16 n j)) : ∀ (d k : Nat) (g : Nat → Int32), d + k = s → Ot g rf (2 * f + 1) → (∀ j, j < k → g (160 * (2 * f + 1) + j) = iZ (dg 16 n j)) →
    ∃ g' : Nat → Int32, sm T_X7_load (75, [(0, .ref B), (1, .int (iZ f)), (2, .int (iZ v)), (3, .int (iZ k))], [], mA M (B + 1) 3040 g, 0, 0) = some (none, me_set (mA M (B + 1) 3040 g') (B + 3) (.inl (0, 4, .inl (upd sf f (ss v))))) ∧ Ot g' rf (2 * f + 1) ∧ ∀ j, j < s → g' (160 * (2 * f + 1) + j) = iZ (dg 16 n j) := by
  intro d
  induction d with
  | zero =>
    intro k g hd hg hk
    have e : k = s := by omega
    subst e
    have o := hO.fs (FM.a (g := g)).fs
    have t := hS.fs (FM.a (g := g)).fs
    have s3 : me_int (mA M (B + 1) 3040 g) 0 (B + 3) = some (4, sf) := (mA_ne (by omega)).trans h3'
    have cv := iZ_clampN (n := v) (by omega)
    have cf := iZ_clampN (n := f) (by omega)
    refine ⟨g, ?_, hg, hk⟩
    rw [e_X7_load_75]
    unfold OB at o
    simp only [o, bS, mf3, mf4, mf8, vF, t.1, t.2.2.2.2, s3, cv, e1, cf]
    rw [if_neg (nob (iZ_n0 (by omega)) (by omega)), if_pos (Int32.le_refl _), if_neg (nob (iZ_n0 (by omega)) (by omega)), if_neg (nob (iZ_n0 (by omega)) (by omega)), c00]
  | succ d ih =>
    intro k g hd hg hk
    have o := hO.fs (FM.a (g := g)).fs
    have t := hS.fs (FM.a (g := g)).fs
    obtain ⟨_, h1, h2⟩ := h.a g
    have cv := iZ_clampN (n := v) (by omega)
    have eM : ∀ q, me_set (mA M (B + 1) 3040 g) (B + 1) (.inl (0, 3040, .inl q)) = mA M (B + 1) 3040 q := fun q => set_set _ _ _ _
    rw [e_X7_load_75]
    unfold OB at o
    simp only [o, bS, mf1, mf7, mf8, vF, t.2.2.2.1, t.2.2.2.2, h1, cv, e1, z21, ix16, ix32, eM]
    rw [if_neg (nob (iZ_n0 (by omega)) (by omega)), if_neg (by rw [iZ_le (by omega) (by omega)]; omega), iZ_clampN (by omega : 32 * v + k < 2147483648), if_neg (nob (iZ_n0 (by omega)) (by omega)), iZ_clampN (by omega : 160 * (2 * f + 1) + k < 2147483648), if_neg (nob (iZ_n0 (by omega)) (by omega)), e3 k (by omega), z_p1]
    refine ih (k + 1) _ (by omega) (hg.upd (by omega)) (fun j hj => ?_)
    by_cases e : j = k
    · subst e; rw [upd_s]
    · rw [upd_n _ _ (by omega)]; exact hk j (by omega)
theorem load_g {M : me_M} {B f v : Nat} {th : Int32} {st : Sx} {ss ab am bb bm : Nat → Int32} {reg : Nat → Nat} {sg : Nat → Int} {q : Qn} (h : MS M B reg sg) (hO : OB M B th st) (hS : ST M B ss ab am bb bm) (hf : f < 4) (hv : v < 450) (hq : Sv ss ab am bb bm v q) :
    ∃ M' : me_M, f_X7_load [.ref B, .int (iZ f), .int (iZ v)] M = some (none, M') ∧ MS M' B (up (up reg (2 * f) q.2.1) (2 * f + 1) q.2.2) (us sg f q.1) ∧ FS M M' B := by
  obtain ⟨⟨rf, nf, hL, hR⟩, sf, t1, t2⟩ := h
  obtain ⟨q1, ⟨s, a1, a2, a3, a4⟩, ⟨s', c1, c2, c3, c4⟩⟩ := hq
  have o := hO
  unfold OB at o
  -- n of ABOVE
  have L1 := hL.n (upd nf (2 * f) (iZ s))
  have F1 : FM M (me_set M (B + 2) (.inl (0, 19, .inl (upd nf (2 * f) (iZ s))))) B := FM.n
  obtain ⟨N1, hN1⟩ : ∃ N1, N1 = me_set M (B + 2) (.inl (0, 19, .inl (upd nf (2 * f) (iZ s)))) := ⟨_, rfl⟩
  rw [← hN1] at L1 F1
  obtain ⟨g1', f1, O1, D1⟩ := load_16 (n := q.2.1) L1 (hO.fs F1.fs) (hS.fs F1.fs) hf hv a1 a2 a4 s 0 rf (by omega) (Ot.refl _ _) (fun j hj => absurd hj (by omega))
  rw [mA_self L1.2.1, c1] at f1
  have L2 := (L1.a g1').n (upd (upd nf (2 * f) (iZ s)) (2 * f + 1) (iZ s'))
  have F2 : FM M (me_set (mA N1 (B + 1) 3040 g1') (B + 2) (.inl (0, 19, .inl (upd (upd nf (2 * f) (iZ s)) (2 * f + 1) (iZ s'))))) B := (F1.trans FM.a).trans FM.n
  obtain ⟨N2, hN2⟩ : ∃ N2, N2 = me_set (mA N1 (B + 1) 3040 g1') (B + 2) (.inl (0, 19, .inl (upd (upd nf (2 * f) (iZ s)) (2 * f + 1) (iZ s')))) := ⟨_, rfl⟩
  rw [← hN2] at L2 F2 f1
  have s3 : me_int N2 0 (B + 3) = some (4, sf) := (mi_of (F2.2 _ (by omega) (by omega))).trans t1
  obtain ⟨g2', f2, O2, D2⟩ := load_75 (n := q.2.2) L2 (hO.fs F2.fs) (hS.fs F2.fs) s3 hf hv c1 c2 c4 s' 0 g1' (by omega) (Ot.refl _ _) (fun j hj => absurd hj (by omega))
  rw [mA_self L2.2.1, q1] at f2
  have P3 : RG (mA N2 (B + 1) 3040 g2') B (up (up reg (2 * f) q.2.1) (2 * f + 1) q.2.2) := by
    refine ⟨g2', _, L2.a g2', fun y hy => ?_⟩
    by_cases e1 : y = 2 * f + 1
    · subst e1
      rw [up_s]
      exact ⟨s', upd_s _ _ _, by omega, c3, D2⟩
    · rw [up_n _ _ e1]
      by_cases e2 : y = 2 * f
      · subst e2
        rw [up_s]
        exact ⟨s, (upd_n _ _ (by omega)).trans (upd_s _ _ _), by omega, a3, fun j hj => by rw [O2 _ (by omega)]; exact D1 j hj⟩
      · rw [up_n _ _ e2]
        exact ((hR y hy).o e2 O1 (upd_n _ _ e2)).o e1 O2 (upd_n _ _ e1)
  refine ⟨_, ?_, MS.sg P3 t2, (F2.trans FM.a).fs.trans FS.s3⟩
  have cv := iZ_clampN (n := v) (by omega)
  have cf := iZ_clampN (n := 2 * f) (by omega)
  rw [e_X7_load]
  simp only [o, bS, mf2, mf6, vF, hS.2.2.1, hL.2.2, cv, a1, z2, cf]
  rw [if_neg (nob (iZ_n0 (by omega)) (by omega)), if_neg (nob (iZ_n0 (by omega)) (by omega)), ← hN1]
  exact f1.trans f2
