/-! the reference: its state -/
abbrev Sto : Type := (Nat → Int32) × (Nat → Int32) × (Nat → Int32) × (Nat → Int32) × (Nat → Int32)
def STT (M : me_M) (B : Nat) (S : Sto) : Prop := ST M B S.1 S.2.1 S.2.2.1 S.2.2.2.1 S.2.2.2.2
def Kq (S : Sto) (v : Nat) (q : Qn) : Prop := Nf q ∧ Fits q ∧ Sv S.1 S.2.1 S.2.2.1 S.2.2.2.1 S.2.2.2.2 v q
def RM (S : Sto) (sz : Nat → Int32) (r n : Nat) (p : Nat → Qn) : Prop := 1 ≤ n ∧ n ≤ 10 ∧ sz r = iZ n ∧ ∀ k, k < n → Kq S (240 + 10 * r + k) (p k)
def MG (M : me_M) (B : Nat) (th : Int32) (s : Sx) (reg : Nat → Nat) (sg : Nat → Int) (S : Sto) (sz wf : Nat → Int32) : Prop := MS M B reg sg ∧ OB M B th s ∧ STT M B S ∧ me_int M 0 (B + 9) = some (20, sz) ∧ me_int M 0 (B + 10) = some (400, wf) ∧ (∃ ff : Nat → Int32, me_int M 0 (B + 11) = some (400, ff)) ∧ reg 18 = 1 ∧ sN s ≤ 240 ∧ sR s ≤ 20 ∧ (∀ i, i < sN s → Kq S i (sV s i)) ∧ (∀ r, r < sR s → RM S sz r (sL s r) (sP s r)) ∧ sT s ≤ 400 ∧ ∀ j, j < sT s → wf j = iZ (sC s j)
def MF (M : me_M) (B : Nat) (th : Int32) (s : Sx) : Prop := ∃ (reg : Nat → Nat) (sg : Nat → Int) (S : Sto) (sz wf : Nat → Int32), MG M B th s reg sg S sz wf
def FB (M M' : me_M) (B : Nat) : Prop := M'.1 = M.1 ∧ ∀ p, (p < B ∨ B + 11 < p) → M'.2 p = M.2 p
theorem FB.refl (M : me_M) (B : Nat) : FB M M B := ⟨rfl, fun _ _ => rfl⟩
theorem FB.trans {M N L : me_M} {B : Nat} (h : FB M N B) (k : FB N L B) : FB M L B := ⟨k.1.trans h.1, fun p a => (k.2 p a).trans (h.2 p a)⟩
theorem FA.fb {M M' : me_M} {B : Nat} (h : FA M M' B) : FB M M' B := ⟨h.1, fun p a => h.2 p (by omega)⟩
theorem FS.fb {M M' : me_M} {B : Nat} (h : FS M M' B) : FB M M' B := h.fa.fb
theorem FB.set {M : me_M} {B a : Nat} {x : me_E} (h : B ≤ a ∧ a ≤ B + 11) : FB M (me_set M a x) B := ⟨rfl, fun p hp => set_ne (by omega)⟩
theorem MG.ms {M : me_M} {B : Nat} {th : Int32} {s : Sx} {reg : Nat → Nat} {sg : Nat → Int} {S : Sto} {sz wf : Nat → Int32} (h : MG M B th s reg sg S sz wf) : MS M B reg sg := h.1
theorem MG.o {M : me_M} {B : Nat} {th : Int32} {s : Sx} {reg : Nat → Nat} {sg : Nat → Int} {S : Sto} {sz wf : Nat → Int32} (h : MG M B th s reg sg S sz wf) : me_obj M 7 B = some [.int th, .ref (B + 1), .ref (B + 2), .ref (B + 3), .ref (B + 4), .ref (B + 5), .ref (B + 6), .ref (B + 7), .ref (B + 8), .int (iZ (sN s)), .int (iZ (sR s)), .ref (B + 9), .int (iZ (sW s)), .ref (B + 10), .int (iZ (sT s)), .ref (B + 11)] := h.2.1
theorem MG.ob {M : me_M} {B : Nat} {th : Int32} {s : Sx} {reg : Nat → Nat} {sg : Nat → Int} {S : Sto} {sz wf : Nat → Int32} (h : MG M B th s reg sg S sz wf) : OB M B th s := h.2.1
theorem MG.st {M : me_M} {B : Nat} {th : Int32} {s : Sx} {reg : Nat → Nat} {sg : Nat → Int} {S : Sto} {sz wf : Nat → Int32} (h : MG M B th s reg sg S sz wf) : STT M B S := h.2.2.1
theorem MG.i9 {M : me_M} {B : Nat} {th : Int32} {s : Sx} {reg : Nat → Nat} {sg : Nat → Int} {S : Sto} {sz wf : Nat → Int32} (h : MG M B th s reg sg S sz wf) : me_int M 0 (B + 9) = some (20, sz) := h.2.2.2.1
theorem MG.i10 {M : me_M} {B : Nat} {th : Int32} {s : Sx} {reg : Nat → Nat} {sg : Nat → Int} {S : Sto} {sz wf : Nat → Int32} (h : MG M B th s reg sg S sz wf) : me_int M 0 (B + 10) = some (400, wf) := h.2.2.2.2.1
theorem MG.i11 {M : me_M} {B : Nat} {th : Int32} {s : Sx} {reg : Nat → Nat} {sg : Nat → Int} {S : Sto} {sz wf : Nat → Int32} (h : MG M B th s reg sg S sz wf) : ∃ ff : Nat → Int32, me_int M 0 (B + 11) = some (400, ff) := h.2.2.2.2.2.1
theorem MG.r18 {M : me_M} {B : Nat} {th : Int32} {s : Sx} {reg : Nat → Nat} {sg : Nat → Int} {S : Sto} {sz wf : Nat → Int32} (h : MG M B th s reg sg S sz wf) : reg 18 = 1 := h.2.2.2.2.2.2.1
theorem MG.n {M : me_M} {B : Nat} {th : Int32} {s : Sx} {reg : Nat → Nat} {sg : Nat → Int} {S : Sto} {sz wf : Nat → Int32} (h : MG M B th s reg sg S sz wf) : sN s ≤ 240 := h.2.2.2.2.2.2.2.1
theorem MG.m {M : me_M} {B : Nat} {th : Int32} {s : Sx} {reg : Nat → Nat} {sg : Nat → Int} {S : Sto} {sz wf : Nat → Int32} (h : MG M B th s reg sg S sz wf) : sR s ≤ 20 := h.2.2.2.2.2.2.2.2.1
theorem MG.V {M : me_M} {B : Nat} {th : Int32} {s : Sx} {reg : Nat → Nat} {sg : Nat → Int} {S : Sto} {sz wf : Nat → Int32} (h : MG M B th s reg sg S sz wf) : ∀ i, i < sN s → Kq S i (sV s i) := h.2.2.2.2.2.2.2.2.2.1
theorem MG.R {M : me_M} {B : Nat} {th : Int32} {s : Sx} {reg : Nat → Nat} {sg : Nat → Int} {S : Sto} {sz wf : Nat → Int32} (h : MG M B th s reg sg S sz wf) : ∀ r, r < sR s → RM S sz r (sL s r) (sP s r) := h.2.2.2.2.2.2.2.2.2.2.1
theorem MG.T {M : me_M} {B : Nat} {th : Int32} {s : Sx} {reg : Nat → Nat} {sg : Nat → Int} {S : Sto} {sz wf : Nat → Int32} (h : MG M B th s reg sg S sz wf) : sT s ≤ 400 := h.2.2.2.2.2.2.2.2.2.2.2.1
theorem MG.C {M : me_M} {B : Nat} {th : Int32} {s : Sx} {reg : Nat → Nat} {sg : Nat → Int} {S : Sto} {sz wf : Nat → Int32} (h : MG M B th s reg sg S sz wf) : ∀ j, j < sT s → wf j = iZ (sC s j) := h.2.2.2.2.2.2.2.2.2.2.2.2
/-- the registers alone have changed -/
theorem MG.fs {M M' : me_M} {B : Nat} {th : Int32} {s : Sx} {reg reg' : Nat → Nat} {sg sg' : Nat → Int} {S : Sto} {sz wf : Nat → Int32} (h : MG M B th s reg sg S sz wf) (k : FS M M' B) (hm : MS M' B reg' sg') (h18 : reg' 18 = 1) : MG M' B th s reg' sg' S sz wf := by
  obtain ⟨ff, hf⟩ := h.i11
  exact ⟨hm, h.ob.fs k, h.st.fs k, (mi_of (k.2 _ (by omega) (by omega) (by omega))).trans h.i9, (mi_of (k.2 _ (by omega) (by omega) (by omega))).trans h.i10, ⟨ff, (mi_of (k.2 _ (by omega) (by omega) (by omega))).trans hf⟩, h18, h.n, h.m, h.V, h.R, h.T, h.C⟩
theorem MG.lq {M M' : me_M} {B f : Nat} {th : Int32} {s : Sx} {reg reg' : Nat → Nat} {sg sg' : Nat → Int} {S : Sto} {sz wf : Nat → Int32} {q : Qn} (h : MG M B th s reg sg S sz wf) (hf : f < 4) (k : Lq M M' B f reg reg' sg sg' q) : MG M' B th s reg' sg' S sz wf := h.fs k.2.1 k.1 ((k.2.2.2.1 18 (by omega) (by omega) (by omega)).trans h.r18)
/-- the object told anew -/
theorem MS.so {M : me_M} {B : Nat} {reg : Nat → Nat} {sg : Nat → Int} {t : Value} {tl : List Value} (h : MS M B reg sg) : MS (me_set M B (.inr (7, t :: .ref (B + 1) :: .ref (B + 2) :: .ref (B + 3) :: tl))) B reg sg := by
  obtain ⟨⟨rf, nf, ⟨_, h1, h2'⟩, hR⟩, sf, t1, t2⟩ := h
  exact ⟨⟨rf, nf, ⟨⟨t, tl, mo_set _ _ _ _⟩, (mi_ne _ _ _ _ _ (by omega)).trans h1, (mi_ne _ _ _ _ _ (by omega)).trans h2'⟩, hR⟩, sf, (mi_ne _ _ _ _ _ (by omega)).trans t1, t2⟩
theorem MG.so {M : me_M} {B : Nat} {th th' : Int32} {s s' : Sx} {reg : Nat → Nat} {sg : Nat → Int} {S : Sto} {sz wf : Nat → Int32} (h : MG M B th s reg sg S sz wf) (hn : sN s' ≤ 240) (hr : sR s' ≤ 20) (hV : ∀ i, i < sN s' → Kq S i (sV s' i)) (hR : ∀ r, r < sR s' → RM S sz r (sL s' r) (sP s' r)) (hT : sT s' ≤ 400) (hC : ∀ j, j < sT s' → wf j = iZ (sC s' j)) : MG (me_set M B (.inr (7, mfo B th' s'))) B th' s' reg sg S sz wf := by
  obtain ⟨ff, hf⟩ := h.i11
  obtain ⟨S4, S5, S6, S7, S8⟩ := h.st
  exact ⟨h.ms.so, mo_set _ _ _ _, ⟨(mi_ne _ _ _ _ _ (by omega)).trans S4, (mi_ne _ _ _ _ _ (by omega)).trans S5, (mi_ne _ _ _ _ _ (by omega)).trans S6, (mi_ne _ _ _ _ _ (by omega)).trans S7, (mi_ne _ _ _ _ _ (by omega)).trans S8⟩, (mi_ne _ _ _ _ _ (by omega)).trans h.i9, (mi_ne _ _ _ _ _ (by omega)).trans h.i10, ⟨ff, (mi_ne _ _ _ _ _ (by omega)).trans hf⟩, h.r18, hn, hr, hV, hR, hT, hC⟩
theorem MG.th {M : me_M} {B : Nat} {th th' : Int32} {s : Sx} {reg : Nat → Nat} {sg : Nat → Int} {S : Sto} {sz wf : Nat → Int32} (h : MG M B th s reg sg S sz wf) : MG (me_set M B (.inr (7, mfo B th' s))) B th' s reg sg S sz wf := h.so h.n h.m h.V h.R h.T h.C
theorem MG.i0 {M : me_M} {B : Nat} {th : Int32} {s : Sx} {reg : Nat → Nat} {sg : Nat → Int} {S : Sto} {sz wf : Nat → Int32} (h : MG M B th s reg sg S sz wf) {α : Type} (X : Option α) : ((me_obj M 7 B).bind fun _ => X) = X := h.ms.i0 X
/-- one NUMBER is kept: the store told anew, the state still of the old one -/
theorem save_mg {M : me_M} {B f v : Nat} {th : Int32} {s : Sx} {reg : Nat → Nat} {sg : Nat → Int} {S : Sto} {sz wf : Nat → Int32} {q : Qn} (h : MG M B th s reg sg S sz wf) (hf : f < 4) (hv : v < 450) (hq : Fq reg sg f q) (hF : Fits q) (hN : Nf q) :
    ∃ (M' : me_M) (S' : Sto), f_X7_save [.ref B, .int (iZ v), .int (iZ f)] M = some (none, M') ∧ FB M M' B ∧ Kq S' v q ∧ (∀ (u : Nat) (q' : Qn), u ≠ v → Kq S u q' → Kq S' u q') ∧
      ∀ s' : Sx, sN s' = sN s → sR s' = sR s → sW s' = sW s → sT s' = sT s → (∀ i, i < sN s → Kq S' i (sV s' i)) → (∀ r, r < sR s → RM S' sz r (sL s' r) (sP s' r)) → (∀ j, j < sT s → wf j = iZ (sC s' j)) → MG M' B th s' reg sg S' sz wf := by
  obtain ⟨M', ss', ab', am', bb', bm', f1, m1, o1, t1, k1, k2, F⟩ := save_g h.ms h.ob h.st hf hv hq hF
  obtain ⟨ff, hff⟩ := h.i11
  refine ⟨M', (ss', ab', am', bb', bm'), f1, F.fb, ⟨hN, hF, k1⟩, fun u q' hu hq' => ⟨hq'.1, hq'.2.1, k2 u q' hu hq'.2.2⟩, ?_⟩
  intro s' e1 e2 e3 e4 hV hR hC
  refine ⟨m1, ?_, t1, (mi_of (F.2 _ (by omega))).trans h.i9, (mi_of (F.2 _ (by omega))).trans h.i10, ⟨ff, (mi_of (F.2 _ (by omega))).trans hff⟩, h.r18, by rw [e1]; exact h.n, by rw [e2]; exact h.m, by rw [e1]; exact hV, by rw [e2]; exact hR, by rw [e4]; exact h.T, by rw [e4]; exact hC⟩
  unfold OB at o1 ⊢
  rw [e1, e2, e3, e4]
  exact o1
def Am (M : me_M) (B : Nat) (r : Option sm_R) (th : Int32) (t : Int32 × Sx) : Prop := ∃ M' : me_M, r = some (some (.int t.1), M') ∧ MF M' B th t.2 ∧ FB M M' B
theorem Am.trans {M N : me_M} {B : Nat} {r : Option sm_R} {th : Int32} {t : Int32 × Sx} (h : FB M N B) (k : Am N B r th t) : Am M B r th t := by
  obtain ⟨L, e, p, g⟩ := k
  exact ⟨L, e, p, h.trans g⟩
theorem Am.val {M : me_M} {B : Nat} {th : Int32} {s : Sx} {x : Int32} (h : MF M B th s) : Am M B (some (some (.int x), M)) th (x, s) := ⟨M, rfl, h, FB.refl _ _⟩
/-- the answer goes on -/
theorem Am.ret {M : me_M} {B : Nat} {r : Option sm_R} {th : Int32} {t : Int32 × Sx} (h : Am M B r th t) : Am M B (r.bind fun r1 => r1.1.bind fun v2 => (v_int v2).bind fun y3 => if 0 ≤ 0 ∧ 0 ≤ 0 then some (some (.int y3), r1.2) else none) th t := by
  obtain ⟨L, e, p, g⟩ := h
  refine ⟨L, ?_, p, g⟩
  rw [e]
  simp only [bS, vI]
  exact c00
theorem isValueM_s {M : me_M} {B : Nat} {th : Int32} {s : Sx} {x : Int32} (ho : OB M B th s) (hn : sN s ≤ 240) : f_X7_isValue [.ref B, .int x] M = some (some (.int (if isV (sN s) x then 1 else 0)), M) := by
  obtain ⟨X, e, b1, b2, t⟩ := i_rep x
  unfold OB at ho
  rw [e_X7_isValue]
  by_cases h1 : X < 0
  · rw [if_pos (by rw [e, z_0, iZ_lt (by omega) (by omega)]; exact h1), cz0, c00, if_neg (fun h => by have := h.1; omega)]
  · rw [if_neg (by rw [e, z_0, iZ_lt (by omega) (by omega)]; exact h1)]
    simp only [ho, bS, mf9, vI]
    by_cases h2 : X < sN s
    · rw [if_neg (by rw [e, iZ_le (by omega) (by omega)]; omega), cT1, c00, if_pos (by constructor <;> omega)]
    · rw [if_pos (by rw [e, iZ_le (by omega) (by omega)]; omega), cT0, c00, if_neg (fun h => by have := h.2; omega)]
theorem isRowM_s {M : me_M} {B : Nat} {th : Int32} {s : Sx} {x : Int32} (ho : OB M B th s) (hn : sR s ≤ 20) : f_X7_isRow [.ref B, .int x] M = some (some (.int (if isV (sR s) x then 1 else 0)), M) := by
  obtain ⟨X, e, b1, b2, t⟩ := i_rep x
  unfold OB at ho
  rw [e_X7_isRow]
  by_cases h1 : X < 0
  · rw [if_pos (by rw [e, z_0, iZ_lt (by omega) (by omega)]; exact h1), cz0, c00, if_neg (fun h => by have := h.1; omega)]
  · rw [if_neg (by rw [e, z_0, iZ_lt (by omega) (by omega)]; exact h1)]
    simp only [ho, bS, mf10, vI]
    by_cases h2 : X < sR s
    · rw [if_neg (by rw [e, iZ_le (by omega) (by omega)]; omega), cT1, c00, if_pos (by constructor <;> omega)]
    · rw [if_pos (by rw [e, iZ_le (by omega) (by omega)]; omega), cT0, c00, if_neg (fun h => by have := h.2; omega)]
theorem wideM_s {M : me_M} {B : Nat} {th : Int32} {s : Sx} (h : MF M B th s) : Am M B (f_X7_wide [.ref B] M) th (-4, wd s) := by
  obtain ⟨reg, sg, S, sz, wf, h⟩ := h
  refine ⟨me_set M B (.inr (7, mfo B th (wd s))), ?_, ⟨reg, sg, S, sz, wf, h.so h.n h.m h.V h.R h.T h.C⟩, FB.set (by omega)⟩
  rw [e_X7_wide]
  simp only [h.o, bS, mf12, vI, ml12, mt12, z_p1]
  exact c00
theorem comes_g {M : me_M} {B : Nat} {th : Int32} {s : Sx} {reg : Nat → Nat} {sg : Nat → Int} {S : Sto} {sz wf : Nat → Int32} {q : Qn} (h : MG M B th s reg sg S sz wf) (hN : sN s < 240) (hq : Fq reg sg 0 q) (nq : Nf q) : Am M B (f_X7_comes [.ref B, .int (fi q)] M) th (kp s q) := by
  rw [e_X7_comes]
  unfold fi kp
  by_cases hf : q.2.1 < 2 ^ 512 ∧ q.2.2 < 2 ^ 512
  · rw [if_pos hf, if_neg i10, if_pos hf]
    obtain ⟨M', S', f1, F1, k1, k2, K⟩ := save_mg (f := 0) (v := sN s) h (by omega) (by omega) hq hf nq
    have P1 := K s rfl rfl rfl rfl (fun i hi => k2 i _ (by omega) (h.V i hi)) (fun r hr => by
      obtain ⟨a, b, c, d⟩ := h.R r hr
      exact ⟨a, b, c, fun k hk => k2 _ _ (by omega) (d k hk)⟩) h.C
    have P2 := P1.so (th' := th) (s' := ((sN s + 1, fun i => if i = sN s then q else sV s i), s.2)) (by show sN s + 1 ≤ 240; omega) h.m (fun i hi => by
      show Kq S' i (if i = sN s then q else sV s i)
      have hi' : i < sN s + 1 := hi
      by_cases e : i = sN s
      · rw [if_pos e, e]; exact k1
      · rw [if_neg e]; exact P1.V i (by omega)) P1.R h.T h.C
    refine ⟨_, ?_, ⟨reg, sg, S', sz, wf, P2⟩, F1.trans (FB.set (by omega))⟩
    have f1' : f_X7_save [.ref B, .int (iZ (sN s)), .int (0 : Int32)] M = _ := f1
    simp only [h.o, bS, mf9, f1', cNn, P1.o, vI, ml9, mt9, mo_set, z_p1]
    refine c00.trans ?_
    rw [z_1, iZ_sub, show ((sN s + 1 : Nat) : Int) - 1 = (sN s : Int) by omega]
    rfl
  · rw [if_neg hf, if_pos rfl, if_neg hf, h.i0]
    exact (wideM_s ⟨reg, sg, S, sz, wf, h⟩).ret
