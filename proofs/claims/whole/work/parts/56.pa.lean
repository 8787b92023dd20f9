theorem pf0 (x0 x1 x2 x3 x4 x5 x6 x7 x8 x9 : Value) : [x0, x1, x2, x3, x4, x5, x6, x7, x8, x9][0]? = some x0 := rfl
theorem pf1 (x0 x1 x2 x3 x4 x5 x6 x7 x8 x9 : Value) : [x0, x1, x2, x3, x4, x5, x6, x7, x8, x9][1]? = some x1 := rfl
theorem pf2 (x0 x1 x2 x3 x4 x5 x6 x7 x8 x9 : Value) : [x0, x1, x2, x3, x4, x5, x6, x7, x8, x9][2]? = some x2 := rfl
theorem pf3 (x0 x1 x2 x3 x4 x5 x6 x7 x8 x9 : Value) : [x0, x1, x2, x3, x4, x5, x6, x7, x8, x9][3]? = some x3 := rfl
theorem pf4 (x0 x1 x2 x3 x4 x5 x6 x7 x8 x9 : Value) : [x0, x1, x2, x3, x4, x5, x6, x7, x8, x9][4]? = some x4 := rfl
theorem pf5 (x0 x1 x2 x3 x4 x5 x6 x7 x8 x9 : Value) : [x0, x1, x2, x3, x4, x5, x6, x7, x8, x9][5]? = some x5 := rfl
theorem pf6 (x0 x1 x2 x3 x4 x5 x6 x7 x8 x9 : Value) : [x0, x1, x2, x3, x4, x5, x6, x7, x8, x9][6]? = some x6 := rfl
theorem pf7 (x0 x1 x2 x3 x4 x5 x6 x7 x8 x9 : Value) : [x0, x1, x2, x3, x4, x5, x6, x7, x8, x9][7]? = some x7 := rfl
theorem pf8 (x0 x1 x2 x3 x4 x5 x6 x7 x8 x9 : Value) : [x0, x1, x2, x3, x4, x5, x6, x7, x8, x9][8]? = some x8 := rfl
theorem pf9 (x0 x1 x2 x3 x4 x5 x6 x7 x8 x9 : Value) : [x0, x1, x2, x3, x4, x5, x6, x7, x8, x9][9]? = some x9 := rfl
theorem ps0 (x0 x1 x2 x3 x4 x5 x6 x7 x8 x9 z : Value) : [x0, x1, x2, x3, x4, x5, x6, x7, x8, x9].set 0 z = [z, x1, x2, x3, x4, x5, x6, x7, x8, x9] := rfl
theorem pl0 {α : Type} {x0 x1 x2 x3 x4 x5 x6 x7 x8 x9 : Value} {a b : α} : (if 0 < [x0, x1, x2, x3, x4, x5, x6, x7, x8, x9].length then a else b) = a := if_pos (show 0 < 10 by omega)
theorem ps1 (x0 x1 x2 x3 x4 x5 x6 x7 x8 x9 z : Value) : [x0, x1, x2, x3, x4, x5, x6, x7, x8, x9].set 1 z = [x0, z, x2, x3, x4, x5, x6, x7, x8, x9] := rfl
theorem pl1 {α : Type} {x0 x1 x2 x3 x4 x5 x6 x7 x8 x9 : Value} {a b : α} : (if 1 < [x0, x1, x2, x3, x4, x5, x6, x7, x8, x9].length then a else b) = a := if_pos (show 1 < 10 by omega)
theorem ps2 (x0 x1 x2 x3 x4 x5 x6 x7 x8 x9 z : Value) : [x0, x1, x2, x3, x4, x5, x6, x7, x8, x9].set 2 z = [x0, x1, z, x3, x4, x5, x6, x7, x8, x9] := rfl
theorem pl2 {α : Type} {x0 x1 x2 x3 x4 x5 x6 x7 x8 x9 : Value} {a b : α} : (if 2 < [x0, x1, x2, x3, x4, x5, x6, x7, x8, x9].length then a else b) = a := if_pos (show 2 < 10 by omega)
theorem ps3 (x0 x1 x2 x3 x4 x5 x6 x7 x8 x9 z : Value) : [x0, x1, x2, x3, x4, x5, x6, x7, x8, x9].set 3 z = [x0, x1, x2, z, x4, x5, x6, x7, x8, x9] := rfl
theorem pl3 {α : Type} {x0 x1 x2 x3 x4 x5 x6 x7 x8 x9 : Value} {a b : α} : (if 3 < [x0, x1, x2, x3, x4, x5, x6, x7, x8, x9].length then a else b) = a := if_pos (show 3 < 10 by omega)
theorem ps4 (x0 x1 x2 x3 x4 x5 x6 x7 x8 x9 z : Value) : [x0, x1, x2, x3, x4, x5, x6, x7, x8, x9].set 4 z = [x0, x1, x2, x3, z, x5, x6, x7, x8, x9] := rfl
theorem pl4 {α : Type} {x0 x1 x2 x3 x4 x5 x6 x7 x8 x9 : Value} {a b : α} : (if 4 < [x0, x1, x2, x3, x4, x5, x6, x7, x8, x9].length then a else b) = a := if_pos (show 4 < 10 by omega)
theorem ps5 (x0 x1 x2 x3 x4 x5 x6 x7 x8 x9 z : Value) : [x0, x1, x2, x3, x4, x5, x6, x7, x8, x9].set 5 z = [x0, x1, x2, x3, x4, z, x6, x7, x8, x9] := rfl
theorem pl5 {α : Type} {x0 x1 x2 x3 x4 x5 x6 x7 x8 x9 : Value} {a b : α} : (if 5 < [x0, x1, x2, x3, x4, x5, x6, x7, x8, x9].length then a else b) = a := if_pos (show 5 < 10 by omega)
theorem ps6 (x0 x1 x2 x3 x4 x5 x6 x7 x8 x9 z : Value) : [x0, x1, x2, x3, x4, x5, x6, x7, x8, x9].set 6 z = [x0, x1, x2, x3, x4, x5, z, x7, x8, x9] := rfl
theorem pl6 {α : Type} {x0 x1 x2 x3 x4 x5 x6 x7 x8 x9 : Value} {a b : α} : (if 6 < [x0, x1, x2, x3, x4, x5, x6, x7, x8, x9].length then a else b) = a := if_pos (show 6 < 10 by omega)
theorem ps7 (x0 x1 x2 x3 x4 x5 x6 x7 x8 x9 z : Value) : [x0, x1, x2, x3, x4, x5, x6, x7, x8, x9].set 7 z = [x0, x1, x2, x3, x4, x5, x6, z, x8, x9] := rfl
theorem pl7 {α : Type} {x0 x1 x2 x3 x4 x5 x6 x7 x8 x9 : Value} {a b : α} : (if 7 < [x0, x1, x2, x3, x4, x5, x6, x7, x8, x9].length then a else b) = a := if_pos (show 7 < 10 by omega)
theorem ps8 (x0 x1 x2 x3 x4 x5 x6 x7 x8 x9 z : Value) : [x0, x1, x2, x3, x4, x5, x6, x7, x8, x9].set 8 z = [x0, x1, x2, x3, x4, x5, x6, x7, z, x9] := rfl
theorem pl8 {α : Type} {x0 x1 x2 x3 x4 x5 x6 x7 x8 x9 : Value} {a b : α} : (if 8 < [x0, x1, x2, x3, x4, x5, x6, x7, x8, x9].length then a else b) = a := if_pos (show 8 < 10 by omega)
theorem ps9 (x0 x1 x2 x3 x4 x5 x6 x7 x8 x9 z : Value) : [x0, x1, x2, x3, x4, x5, x6, x7, x8, x9].set 9 z = [x0, x1, x2, x3, x4, x5, x6, x7, x8, z] := rfl
theorem pl9 {α : Type} {x0 x1 x2 x3 x4 x5 x6 x7 x8 x9 : Value} {a b : α} : (if 9 < [x0, x1, x2, x3, x4, x5, x6, x7, x8, x9].length then a else b) = a := if_pos (show 9 < 10 by omega)
theorem rr_set (M : me_M) (kd a n : Nat) (f : Nat → Option Nat) : me_ref (me_set M a (.inl (kd, n, .inr (.inr (.inr (.inr f)))))) kd a = some (n, f) := by simp [me_ref, me_set]
theorem rr_ne (M : me_M) (kd a q : Nat) (x : me_E) (h : q ≠ a) : me_ref (me_set M a x) kd q = me_ref M kd q := by simp [me_ref, me_set, h]
theorem len_r {M : me_M} {kd a n : Nat} {f : Nat → Option Nat} (h : me_ref M kd a = some (n, f)) (hk : kd < 5) : me_len M a = some n := by
  unfold me_len
  rw [me_ref_eq h]
  exact if_pos hk
theorem len_i {M : me_M} {kd a n : Nat} {f : Nat → Int32} (h : me_int M kd a = some (n, f)) (hk : kd < 5) : me_len M a = some n := by
  unfold me_len
  rw [me_int_eq h]
  exact if_pos hk
theorem rr_lt {M : me_M} (hD : Dm M) {kd q : Nat} {g : Nat × (Nat → Option Nat)} (h : me_ref M kd q = some g) : q < M.1 := by
  obtain ⟨n, f⟩ := g
  exact hD q _ (me_ref_eq h)
/-! the cells of Wholes, Fractions and the Reckoner are as they were -/
def Sf (M M' : me_M) : Prop := ∀ x, ((∃ ci fs, me_obj M ci x = some fs ∧ (ci = 1 ∨ ci = 2 ∨ ci = 3 ∨ ci = 5)) ∨ (∃ g, me_int M 0 x = some g)) → M'.2 x = M.2 x
theorem Sf.refl (M : me_M) : Sf M M := fun _ _ => rfl
theorem Sf.trans {M N L : me_M} (h : Sf M N) (k : Sf N L) : Sf M L := fun x hx => by
  have e := h x hx
  rw [← e]
  refine k x ?_
  rcases hx with ⟨ci, fs, h1, h2⟩ | ⟨g, h1⟩
  · exact Or.inl ⟨ci, fs, by rw [mo_of e]; exact h1, h2⟩
  · exact Or.inr ⟨g, by rw [mi_of e]; exact h1⟩
theorem Sf.ob {M M' : me_M} (h : Sf M M') {ci x : Nat} {fs : List Value} (ho : me_obj M ci x = some fs) (hc : ci = 1 ∨ ci = 2 ∨ ci = 3 ∨ ci = 5) : me_obj M' ci x = some fs := by
  rw [mo_of (h x (Or.inl ⟨ci, fs, ho, hc⟩))]
  exact ho
theorem Wh.sf {M M' : me_M} {w c v : Nat} (h : Wh M w c v) (k : Sf M M') : Wh M' w c v := by
  obtain ⟨s, f, h⟩ := h
  exact ⟨s, f, h.of (k w (Or.inl ⟨5, _, h.1, by omega⟩)) (k (w + 1) (Or.inr ⟨_, h.2.1⟩))⟩
theorem Fx.sf {M M' : me_M} {K p : Nat} {q : Qn} (h : Fx M K p q) (k : Sf M M') : Fx M' K p q := by
  obtain ⟨h1, h2, h3, a, b, ca, cb, h4, h5, h6, h7, h8⟩ := h
  exact ⟨h1, h2, h3, a, b, ca, cb, k.ob h4 (by omega), h5.sf k, h6.sf k, h7, h8⟩
theorem RK.sf {M M' : me_M} {K : Nat} {vs : Nat → Nat} (h : RK M K vs) (k : Sf M M') (hD : Dm M') : RK M' K vs := by
  obtain ⟨x', y', v1, v2, v3, c3, c4, c5, c6, e1, e2, e3, e4, e5⟩ := h.eu
  exact ⟨hD, k.ob h.o (by omega), ⟨x', y', v1, v2, v3, c3, c4, c5, c6, e1, k.ob e2 (by omega), e3.sf k, e4.sf k, e5.sf k⟩, fun i hi => (h.w hi).sf k, h.one.sf k, k.ob h.zo (by omega), h.z0.sf k⟩
theorem Sf.set {M : me_M} {a : Nat} {x e : me_E} (h : M.2 a = some e) (he : (∃ ci fs, e = .inr (ci, fs) ∧ (ci = 0 ∨ ci = 4 ∨ ci = 6)) ∨ (∃ kd n f, e = .inl (kd, n, .inr f)) ∨ (∃ n f, e = .inl (2, n, .inl f))) : Sf M (me_set M a x) := by
  intro y hy
  refine set_ne ?_
  intro hya
  subst hya
  rcases hy with ⟨ci, fs, h1, h2⟩ | ⟨⟨n, g⟩, h1⟩
  · have h3 := me_obj_eq h1
    rw [h3] at h
    injection h with h
    subst h
    rcases he with ⟨ci', fs', h4, h5⟩ | ⟨kd, n, f, h4⟩ | ⟨n, f, h4⟩
    · injection h4 with h4
      injection h4 with h4 _
      omega
    · injection h4
    · injection h4
  · have h3 := me_int_eq h1
    rw [h3] at h
    injection h with h
    subst h
    rcases he with ⟨ci', fs', h4, h5⟩ | ⟨kd, n, f, h4⟩ | ⟨n, f, h4⟩
    · injection h4
    · injection h4 with h4
      injection h4 with _ h4
      injection h4 with _ h4
      injection h4
    · injection h4 with h4
      injection h4 with h4 _
      omega
theorem Sf.so {M : me_M} {a ci : Nat} {fs : List Value} {x : me_E} (h : me_obj M ci a = some fs) (hc : ci = 0 ∨ ci = 4 ∨ ci = 6) : Sf M (me_set M a x) := Sf.set (me_obj_eq h) (Or.inl ⟨ci, fs, rfl, hc⟩)
theorem Sf.sr {M : me_M} {a kd : Nat} {g : Nat × (Nat → Option Nat)} {x : me_E} (h : me_ref M kd a = some g) : Sf M (me_set M a x) := by
  obtain ⟨n, f⟩ := g
  exact Sf.set (me_ref_eq h) (Or.inr (Or.inl ⟨kd, n, _, rfl⟩))
theorem Sf.sb {M : me_M} {a : Nat} {g : Nat × (Nat → Int32)} {x : me_E} (h : me_int M 2 a = some g) : Sf M (me_set M a x) := by
  obtain ⟨n, f⟩ := g
  exact Sf.set (me_int_eq h) (Or.inr (Or.inr ⟨n, f, rfl⟩))
theorem Sf.nw {M : me_M} {x : me_E} (hD : Dm M) : Sf M (me_new M x) := fun y hy => by
  refine new_ne ?_
  rcases hy with ⟨ci, fs, h1, _⟩ | ⟨g, h1⟩
  · exact mo_lt hD h1
  · exact mi_lt hD h1
/-! the class's state: VALUES, ROWS, wide calls, what is WRITTEN -/
abbrev Sx : Type := (Nat × (Nat → Qn)) × (Nat × (Nat → Nat) × (Nat → Nat → Qn)) × Nat × (Nat × (Nat → Nat))
def sN (s : Sx) : Nat := s.1.1
def sV (s : Sx) : Nat → Qn := s.1.2
def sR (s : Sx) : Nat := s.2.1.1
def sL (s : Sx) : Nat → Nat := s.2.1.2.1
def sP (s : Sx) : Nat → Nat → Qn := s.2.1.2.2
def sW (s : Sx) : Nat := s.2.2.1
def sT (s : Sx) : Nat := s.2.2.2.1
def sC (s : Sx) : Nat → Nat := s.2.2.2.2
/-- how many of the first n are SMALL -/
def qS1 (a : Qn) : Nat := if (a.2.1 < 9223372036854775808 ∨ (a.1 < 0 ∧ a.2.1 = 9223372036854775808)) ∧ a.2.2 < 9223372036854775808 then 1 else 0
def cs (f : Nat → Qn) : Nat → Nat
  | 0 => 0
  | n + 1 => cs f n + qS1 (f n)
/-- the greatest LENGTH of the first n -/
def gl (f : Nat → Qn) : Nat → Nat
  | 0 => 0
  | n + 1 => max (gl f n) (qLen (f n))
theorem cs_c {f g : Nat → Qn} {n : Nat} (h : ∀ i, i < n → f i = g i) : cs f n = cs g n := by
  induction n with
  | zero => rfl
  | succ n ih =>
    show cs f n + qS1 (f n) = cs g n + qS1 (g n)
    rw [ih (fun i hi => h i (by omega)), h n (by omega)]
theorem gl_c {f g : Nat → Qn} {n : Nat} (h : ∀ i, i < n → f i = g i) : gl f n = gl g n := by
  induction n with
  | zero => rfl
  | succ n ih =>
    show max (gl f n) (qLen (f n)) = max (gl g n) (qLen (g n))
    rw [ih (fun i hi => h i (by omega)), h n (by omega)]
def VF (M : me_M) (K : Nat) (vf : Nat → Option Nat) (n : Nat) (vals : Nat → Qn) : Prop := ∀ i, i < n → ∃ p : Nat, vf i = some p ∧ Fx M K p (vals i)
theorem VF.sf {M M' : me_M} {K n : Nat} {vf : Nat → Option Nat} {vals : Nat → Qn} (h : VF M K vf n vals) (k : Sf M M') : VF M' K vf n vals := fun i hi => by
  obtain ⟨p, h1, h2⟩ := h i hi
  exact ⟨p, h1, h2.sf k⟩
theorem VF.fk {M M' : me_M} {K n : Nat} {vf : Nat → Option Nat} {vals : Nat → Qn} (h : VF M K vf n vals) (hD : Dm M) (k : FK M M' K) : VF M' K vf n vals := fun i hi => by
  obtain ⟨p, h1, h2⟩ := h i hi
  exact ⟨p, h1, h2.fk hD k⟩
/-- one row: its object, its places -/
def RW (M : me_M) (A : Nat) (rf : Nat → Option Nat) (rp ra : Nat → Nat) (rn : Nat → Nat) (rw : Nat → Nat → Qn) (i : Nat) : Prop := rf i = some (rp i) ∧ A + 38 ≤ rp i ∧ A + 38 ≤ ra i ∧ me_obj M 4 (rp i) = some [.ref (ra i)] ∧ 1 ≤ rn i ∧ rn i ≤ 10 ∧ ∃ pf : Nat → Option Nat, me_ref M 3 (ra i) = some (rn i, pf) ∧ VF M (A + 1) pf (rn i) (rw i)
def RF (M : me_M) (A : Nat) (rf : Nat → Option Nat) (nr : Nat) (rn : Nat → Nat) (rw : Nat → Nat → Qn) : Prop := ∃ rp ra : Nat → Nat, (∀ i, i < nr → RW M A rf rp ra rn rw i) ∧ ∀ i j, i < nr → j < nr → ra i = ra j → i = j
theorem RW.sf {M M' : me_M} {A i : Nat} {rf : Nat → Option Nat} {rp ra rn : Nat → Nat} {rw : Nat → Nat → Qn} (h : RW M A rf rp ra rn rw i) (k : Sf M M') (ho : M'.2 (rp i) = M.2 (rp i)) (hr : M'.2 (ra i) = M.2 (ra i)) : RW M' A rf rp ra rn rw i := by
  obtain ⟨h1, h2, h3, h4, h5, h6, pf, h7, h8⟩ := h
  exact ⟨h1, h2, h3, by rw [mo_of ho]; exact h4, h5, h6, pf, by rw [mr_of hr]; exact h7, h8.sf k⟩
theorem RF.sf {M M' : me_M} {A nr : Nat} {rf : Nat → Option Nat} {rn : Nat → Nat} {rw : Nat → Nat → Qn} (h : RF M A rf nr rn rw) (hD : Dm M) (k : Sf M M') (ho : ∀ x, A + 38 ≤ x → x < M.1 → M'.2 x = M.2 x) : RF M' A rf nr rn rw := by
  obtain ⟨rp, ra, h1, h2⟩ := h
  refine ⟨rp, ra, fun i hi => ?_, h2⟩
  have h3 := h1 i hi
  obtain ⟨_, k2, k3, k4, _, _, pf, k7, _⟩ := h3
  exact (h1 i hi).sf k (ho _ k2 (mo_lt hD k4)) (ho _ k3 (rr_lt hD k7))
theorem RF.fk {M M' : me_M} {A nr : Nat} {rf : Nat → Option Nat} {rn : Nat → Nat} {rw : Nat → Nat → Qn} (h : RF M A rf nr rn rw) (hD : Dm M) (k : FK M M' (A + 1)) : RF M' A rf nr rn rw := by
  obtain ⟨rp, ra, h1, h2⟩ := h
  refine ⟨rp, ra, fun i hi => ?_, h2⟩
  obtain ⟨k1, k2, k3, k4, k5, k6, pf, k7, k8⟩ := h1 i hi
  exact ⟨k1, k2, k3, ob_fk k4 (Or.inr (by omega)) hD k, k5, k6, pf, by rw [mr_of (k.2 _ (rr_lt hD k7) (Or.inr (by omega)))]; exact k7, k8.fk hD k⟩
/-- the object's own fields -/
def pfo (A : Nat) (s : Sx) : List Value := [.ref (A + 1), .ref (A + 32), .ref (A + 35), .ref (A + 36), .ref (A + 37), .int (iZ (sN s)), .int (iZ (sR s)), .int (iZ (cs (sV s) (sN s))), .int (iZ (sW s)), .int (iZ (gl (sV s) (sN s)))]
def PG (M : me_M) (A : Nat) (s : Sx) (vs : Nat → Nat) (vf rf ff : Nat → Option Nat) (lf df : Nat → Int32) : Prop := RK M (A + 1) vs ∧ me_obj M 6 A = some [.ref (A + 1), .ref (A + 32), .ref (A + 35), .ref (A + 36), .ref (A + 37), .int (iZ (sN s)), .int (iZ (sR s)), .int (iZ (cs (sV s) (sN s))), .int (iZ (sW s)), .int (iZ (gl (sV s) (sN s)))] ∧ me_obj M 0 (A + 32) = some [.ref (A + 33), .int (iZ (sT s)), .ref (A + 34)] ∧ me_int M 2 (A + 33) = some (216, lf) ∧ me_int M 2 (A + 34) = some (216, df) ∧ me_ref M 3 (A + 35) = some (240, vf) ∧ me_ref M 4 (A + 36) = some (20, rf) ∧ me_ref M 3 (A + 37) = some (10, ff) ∧ sN s ≤ 240 ∧ sR s ≤ 20 ∧ VF M (A + 1) vf (sN s) (sV s) ∧ RF M A rf (sR s) (sL s) (sP s) ∧ sT s ≤ 216 ∧ ∀ j, j < sT s → lf j = iZ (sC s j)
def PF (M : me_M) (A : Nat) (s : Sx) : Prop := ∃ (vs : Nat → Nat) (vf rf ff : Nat → Option Nat) (lf df : Nat → Int32), PG M A s vs vf rf ff lf df
theorem PG.fk {M M' : me_M} {A : Nat} {s : Sx} {vs ws : Nat → Nat} {vf rf ff : Nat → Option Nat} {lf df : Nat → Int32} (h : PG M A s vs vf rf ff lf df) (hR : RK M' (A + 1) ws) (k : FK M M' (A + 1)) : PG M' A s ws vf rf ff lf df := by
  obtain ⟨h1, h2, h3, h4, h5, h6, h7, h8, h9, h10, h11, h12, h13, h14⟩ := h
  have hD := h1.dm
  refine ⟨hR, ob_fk h2 (Or.inl (by omega)) hD k, ob_fk h3 (Or.inr (by omega)) hD k, ?_, ?_, ?_, ?_, ?_, h9, h10, h11.fk hD k, h12.fk hD k, h13, h14⟩
  · rw [mi_of (k.2 _ (mi_lt hD h4) (Or.inr (by omega)))]; exact h4
  · rw [mi_of (k.2 _ (mi_lt hD h5) (Or.inr (by omega)))]; exact h5
  · rw [mr_of (k.2 _ (rr_lt hD h6) (Or.inr (by omega)))]; exact h6
  · rw [mr_of (k.2 _ (rr_lt hD h7) (Or.inr (by omega)))]; exact h7
  · rw [mr_of (k.2 _ (rr_lt hD h8) (Or.inr (by omega)))]; exact h8
