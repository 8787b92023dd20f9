/-- outside of one kept NUMBER -/
def O32 (g f : Nat → Int32) (v : Nat) : Prop := ∀ p, (p < 32 * v ∨ 32 * v + 32 ≤ p) → g p = f p
theorem O32.upd {g f : Nat → Int32} {v k : Nat} {x : Int32} (h : O32 g f v) (hk : k < 32) : O32 (upd g (32 * v + k) x) f v := fun p hp => by
  rw [upd_n _ _ (by omega)]
  exact h p hp
theorem SA.o {ab am g h : Nat → Int32} {u v n : Nat} (k : SA ab am u n) (hu : u ≠ v) (hO : O32 g ab v) (hm : h u = am u) : SA g h u n := by
  obtain ⟨s, a, b, c, d⟩ := k
  exact ⟨s, hm.trans a, b, c, fun j hj => by rw [hO _ (by omega)]; exact d j hj⟩
def FA (M M' : me_M) (B : Nat) : Prop := M'.1 = M.1 ∧ ∀ p, (p < B + 1 ∨ B + 8 < p) → M'.2 p = M.2 p
theorem FA.refl (M : me_M) (B : Nat) : FA M M B := ⟨rfl, fun _ _ => rfl⟩
theorem FA.trans {M N L : me_M} {B : Nat} (h : FA M N B) (k : FA N L B) : FA M L B := ⟨k.1.trans h.1, fun p a => (k.2 p a).trans (h.2 p a)⟩
theorem FS.fa {M M' : me_M} {B : Nat} (h : FS M M' B) : FA M M' B := ⟨h.1, fun p a => h.2 p (by omega) (by omega) (by omega)⟩
theorem FA.set {M : me_M} {B a : Nat} {x : me_E} (h : B < a ∧ a ≤ B + 8) : FA M (me_set M a x) B := ⟨rfl, fun p hp => set_ne (by omega)⟩
theorem save_16 {M : me_M} {B f v n s : Nat} {th : Int32} {st : Sx} {ab rf nf bm : Nat → Int32} (hO : OB M B th st) (h1 : me_int M 0 (B + 1) = some (3040, rf)) (h2' : me_int M 0 (B + 2) = some (19, nf)) (h5' : me_int M 0 (B + 5) = some (14400, ab)) (h8' : me_int M 0 (B + 8) = some (450, bm)) (hf : f < 4) (hv : v < 450) (e1 : nf (2 * f) = iZ s) (e2 : s ≤ 32) (e3 : ∀ j, j < s → rf (160 * (2 * f) + j) = iZ (dg 16 n j)) : ∀ (d k : Nat) (g : Nat → Int32), d + k = s → O32 g ab v → (∀ j, j < k → g (32 * v + j) = iZ (dg 16 n j)) →
    ∃ g' : Nat → Int32, sm T_X7_save (16, [(0, .ref B), (1, .int (iZ v)), (2, .int (iZ f)), (3, .int (iZ k))], [], mA M (B + 5) 14400 g, 0, 0) = sm T_X7_save (77, [(0, .ref B), (1, .int (iZ v)), (2, .int (iZ f)), (3, .int (0 : Int32))], [], me_set (mA M (B + 5) 14400 g') (B + 8) (.inl (0, 450, .inl (upd bm v (nf (2 * f + 1))))), 0, 0) ∧ O32 g' ab v ∧ ∀ j, j < s → g' (32 * v + j) = iZ (dg 16 n j) := by
  have cv := iZ_clampN (n := v) (by omega)
  have cf := iZ_clampN (n := 2 * f) (by omega)
  have cf1 := iZ_clampN (n := 2 * f + 1) (by omega)
  intro d
  induction d with
  | zero =>
    intro k g hd hg hk
    have e : k = s := by omega
    subst e
    have o : me_obj (mA M (B + 5) 14400 g) 7 B = _ := (mA_o (by omega)).trans hO
    have k2 : me_int (mA M (B + 5) 14400 g) 0 (B + 2) = _ := (mA_ne (by omega)).trans h2'
    have k8 : me_int (mA M (B + 5) 14400 g) 0 (B + 8) = _ := (mA_ne (by omega)).trans h8'
    refine ⟨g, ?_, hg, hk⟩
    rw [e_X7_save_16]
    simp only [o, bS, mf2, mf8, vF, k2, k8, z2, z21, z_p1, cf, cf1, cv, e1]
    rw [if_neg (nob (iZ_n0 (by omega)) (by omega)), if_pos (Int32.le_refl _), if_neg (nob (iZ_n0 (by omega)) (by omega)), if_neg (nob (iZ_n0 (by omega)) (by omega))]
  | succ d ih =>
    intro k g hd hg hk
    have o : me_obj (mA M (B + 5) 14400 g) 7 B = _ := (mA_o (by omega)).trans hO
    have k1 : me_int (mA M (B + 5) 14400 g) 0 (B + 1) = _ := (mA_ne (by omega)).trans h1
    have k2 : me_int (mA M (B + 5) 14400 g) 0 (B + 2) = _ := (mA_ne (by omega)).trans h2'
    have k5 : me_int (mA M (B + 5) 14400 g) 0 (B + 5) = _ := mA_i _ _ _ _
    have eM : ∀ q, me_set (mA M (B + 5) 14400 g) (B + 5) (.inl (0, 14400, .inl q)) = mA M (B + 5) 14400 q := fun q => set_set _ _ _ _
    rw [e_X7_save_16]
    simp only [o, bS, mf1, mf2, mf5, vF, k1, k2, k5, z2, cf, e1, ix16, ix32, eM]
    rw [if_neg (nob (iZ_n0 (by omega)) (by omega)), if_neg (by rw [iZ_le (by omega) (by omega)]; omega), iZ_clampN (by omega : 160 * (2 * f) + k < 2147483648), if_neg (nob (iZ_n0 (by omega)) (by omega)), iZ_clampN (by omega : 32 * v + k < 2147483648), if_neg (nob (iZ_n0 (by omega)) (by omega)), e3 k (by omega), z_p1]
    refine ih (k + 1) _ (by omega) (hg.upd (by omega)) (fun j hj => ?_)
    by_cases e : j = k
    · subst e; rw [upd_s]
    · rw [upd_n _ _ (by omega)]; exact hk j (by omega)
theorem save_77 {M : me_M} {B f v n s : Nat} {th : Int32} {st : Sx} {bb rf nf ss sf : Nat → Int32} (hO : OB M B th st) (h1 : me_int M 0 (B + 1) = some (3040, rf)) (h2' : me_int M 0 (B + 2) = some (19, nf)) (h7' : me_int M 0 (B + 7) = some (14400, bb)) (h3' : me_int M 0 (B + 3) = some (4, sf)) (h4' : me_int M 0 (B + 4) = some (450, ss)) (hf : f < 4) (hv : v < 450) (e1 : nf (2 * f + 1) = iZ s) (e2 : s ≤ 32) (e3 : ∀ j, j < s → rf (160 * (2 * f + 1) + j) = iZ (dg 16 n j)) : ∀ (d k : Nat) (g : Nat → Int32), d + k = s → O32 g bb v → (∀ j, j < k → g (32 * v + j) = iZ (dg 16 n j)) →
    ∃ g' : Nat → Int32, sm T_X7_save (77, [(0, .ref B), (1, .int (iZ v)), (2, .int (iZ f)), (3, .int (iZ k))], [], mA M (B + 7) 14400 g, 0, 0) = some (none, me_set (mA M (B + 7) 14400 g') (B + 4) (.inl (0, 450, .inl (upd ss v (sf f))))) ∧ O32 g' bb v ∧ ∀ j, j < s → g' (32 * v + j) = iZ (dg 16 n j) := by
  have cv := iZ_clampN (n := v) (by omega)
  have cf := iZ_clampN (n := f) (by omega)
  have cf1 := iZ_clampN (n := 2 * f + 1) (by omega)
  intro d
  induction d with
  | zero =>
    intro k g hd hg hk
    have e : k = s := by omega
    subst e
    have o : me_obj (mA M (B + 7) 14400 g) 7 B = _ := (mA_o (by omega)).trans hO
    have k2 : me_int (mA M (B + 7) 14400 g) 0 (B + 2) = _ := (mA_ne (by omega)).trans h2'
    have k3 : me_int (mA M (B + 7) 14400 g) 0 (B + 3) = _ := (mA_ne (by omega)).trans h3'
    have k4 : me_int (mA M (B + 7) 14400 g) 0 (B + 4) = _ := (mA_ne (by omega)).trans h4'
    refine ⟨g, ?_, hg, hk⟩
    rw [e_X7_save_77]
    simp only [o, bS, mf2, mf3, mf4, vF, k2, k3, k4, z2, z21, z_p1, cf, cf1, cv, e1]
    rw [if_neg (nob (iZ_n0 (by omega)) (by omega)), if_pos (Int32.le_refl _), if_neg (nob (iZ_n0 (by omega)) (by omega)), if_neg (nob (iZ_n0 (by omega)) (by omega)), c00]
  | succ d ih =>
    intro k g hd hg hk
    have o : me_obj (mA M (B + 7) 14400 g) 7 B = _ := (mA_o (by omega)).trans hO
    have k1 : me_int (mA M (B + 7) 14400 g) 0 (B + 1) = _ := (mA_ne (by omega)).trans h1
    have k2 : me_int (mA M (B + 7) 14400 g) 0 (B + 2) = _ := (mA_ne (by omega)).trans h2'
    have k7 : me_int (mA M (B + 7) 14400 g) 0 (B + 7) = _ := mA_i _ _ _ _
    have eM : ∀ q, me_set (mA M (B + 7) 14400 g) (B + 7) (.inl (0, 14400, .inl q)) = mA M (B + 7) 14400 q := fun q => set_set _ _ _ _
    rw [e_X7_save_77]
    simp only [o, bS, mf1, mf2, mf7, vF, k1, k2, k7, z2, z_p1, cf1, e1, ix16, ix32, eM]
    rw [if_neg (nob (iZ_n0 (by omega)) (by omega)), if_neg (by rw [iZ_le (by omega) (by omega)]; omega), iZ_clampN (by omega : 160 * (2 * f + 1) + k < 2147483648), if_neg (nob (iZ_n0 (by omega)) (by omega)), iZ_clampN (by omega : 32 * v + k < 2147483648), if_neg (nob (iZ_n0 (by omega)) (by omega)), e3 k (by omega)]
    refine ih (k + 1) _ (by omega) (hg.upd (by omega)) (fun j hj => ?_)
    by_cases e : j = k
    · subst e; rw [upd_s]
    · rw [upd_n _ _ (by omega)]; exact hk j (by omega)
theorem save_g {M : me_M} {B f v : Nat} {th : Int32} {st : Sx} {ss ab am bb bm : Nat → Int32} {reg : Nat → Nat} {sg : Nat → Int} {q : Qn} (h : MS M B reg sg) (hO : OB M B th st) (hS : ST M B ss ab am bb bm) (hf : f < 4) (hv : v < 450) (hq : Fq reg sg f q) (hF : Fits q) :
    ∃ (M' : me_M) (ss' ab' am' bb' bm' : Nat → Int32), f_X7_save [.ref B, .int (iZ v), .int (iZ f)] M = some (none, M') ∧ MS M' B reg sg ∧ OB M' B th st ∧ ST M' B ss' ab' am' bb' bm' ∧ Sv ss' ab' am' bb' bm' v q ∧ (∀ (u : Nat) (q' : Qn), u ≠ v → Sv ss ab am bb bm u q' → Sv ss' ab' am' bb' bm' u q') ∧ FA M M' B := by
  have hM := h
  obtain ⟨⟨rf, nf, ⟨hh, h1, h2'⟩, hR⟩, sf, t1, t2⟩ := h
  obtain ⟨q1, q2, q3⟩ := hq
  obtain ⟨s, a1, a2, a3, a4⟩ := hR (2 * f) (by omega)
  obtain ⟨s', c1, c2, c3, c4⟩ := hR (2 * f + 1) (by omega)
  rw [q2] at a3 a4
  rw [q3] at c3 c4
  have b1 := sz_le a3 (p512 hF.1)
  have b2 := sz_le c3 (p512 hF.2)
  obtain ⟨S4, S5, S6, S7, S8⟩ := hS
  have o := hO
  unfold OB at o
  obtain ⟨N1, hN1⟩ : ∃ N1, N1 = me_set M (B + 6) (.inl (0, 450, .inl (upd am v (iZ s)))) := ⟨_, rfl⟩
  have ne1 : ∀ p, p ≠ B + 6 → N1.2 p = M.2 p := fun p hp => by rw [hN1, set_ne hp]
  have o1 : OB N1 B th st := (mo_of (ne1 _ (by omega))).trans hO
  obtain ⟨ga, f1, O1, D1⟩ := save_16 (n := q.2.1) o1 ((mi_of (ne1 _ (by omega))).trans h1) ((mi_of (ne1 _ (by omega))).trans h2') ((mi_of (ne1 _ (by omega))).trans S5) ((mi_of (ne1 _ (by omega))).trans S8) hf hv a1 b1 a4 s 0 ab (by omega) (fun _ _ => rfl) (fun j hj => absurd hj (by omega))
  have i5 : me_int N1 0 (B + 5) = some (14400, ab) := (mi_of (ne1 _ (by omega))).trans S5
  rw [mA_self i5, c1] at f1
  obtain ⟨N2, hN2⟩ : ∃ N2, N2 = me_set (mA N1 (B + 5) 14400 ga) (B + 8) (.inl (0, 450, .inl (upd bm v (iZ s')))) := ⟨_, rfl⟩
  rw [← hN2] at f1
  have ne2 : ∀ p, p ≠ B + 5 → p ≠ B + 6 → p ≠ B + 8 → N2.2 p = M.2 p := fun p h5 h6 h8 => by rw [hN2, set_ne h8]; exact (set_ne h5).trans (ne1 p h6)
  have o2 : OB N2 B th st := (mo_of (ne2 _ (by omega) (by omega) (by omega))).trans hO
  obtain ⟨gb, f2, O2, D2⟩ := save_77 (n := q.2.2) (sf := sf) (ss := ss) o2 ((mi_of (ne2 _ (by omega) (by omega) (by omega))).trans h1) ((mi_of (ne2 _ (by omega) (by omega) (by omega))).trans h2') ((mi_of (ne2 _ (by omega) (by omega) (by omega))).trans S7) ((mi_of (ne2 _ (by omega) (by omega) (by omega))).trans t1) ((mi_of (ne2 _ (by omega) (by omega) (by omega))).trans S4) hf hv c1 b2 c4 s' 0 bb (by omega) (fun _ _ => rfl) (fun j hj => absurd hj (by omega))
  have i7 : me_int N2 0 (B + 7) = some (14400, bb) := (mi_of (ne2 _ (by omega) (by omega) (by omega))).trans S7
  rw [mA_self i7, t2 f hf, q1] at f2
  obtain ⟨N3, hN3⟩ : ∃ N3, N3 = me_set (mA N2 (B + 7) 14400 gb) (B + 4) (.inl (0, 450, .inl (upd ss v (iZ q.1)))) := ⟨_, rfl⟩
  rw [← hN3] at f2
  have ne3 : ∀ p, (p < B + 4 ∨ B + 8 < p) → N3.2 p = M.2 p := fun p hp => by rw [hN3, set_ne (by omega)]; exact (set_ne (by omega)).trans (ne2 p (by omega) (by omega) (by omega))
  have e13 : N3.1 = M.1 := by rw [hN3, hN2, hN1]; rfl
  have z4 : me_int N3 0 (B + 4) = some (450, upd ss v (iZ q.1)) := by rw [hN3]; exact mi_set _ _ _ _ _
  have z5 : me_int N3 0 (B + 5) = some (14400, ga) := by
    rw [hN3, mi_ne _ _ _ _ _ (by omega)]
    refine (mA_ne (by omega)).trans ?_
    rw [hN2, mi_ne _ _ _ _ _ (by omega)]
    exact mA_i _ _ _ _
  have z6 : me_int N3 0 (B + 6) = some (450, upd am v (iZ s)) := by
    rw [hN3, mi_ne _ _ _ _ _ (by omega)]
    refine (mA_ne (by omega)).trans ?_
    rw [hN2, mi_ne _ _ _ _ _ (by omega)]
    refine (mA_ne (by omega)).trans ?_
    rw [hN1]
    exact mi_set _ _ _ _ _
  have z7 : me_int N3 0 (B + 7) = some (14400, gb) := by
    rw [hN3, mi_ne _ _ _ _ _ (by omega)]
    exact mA_i _ _ _ _
  have z8 : me_int N3 0 (B + 8) = some (450, upd bm v (iZ s')) := by
    rw [hN3, mi_ne _ _ _ _ _ (by omega)]
    refine (mA_ne (by omega)).trans ?_
    rw [hN2]
    exact mi_set _ _ _ _ _
  refine ⟨N3, _, _, _, _, _, ?_, ⟨⟨rf, nf, ⟨?_, (mi_of (ne3 _ (by omega))).trans h1, (mi_of (ne3 _ (by omega))).trans h2'⟩, hR⟩, sf, (mi_of (ne3 _ (by omega))).trans t1, t2⟩, (mo_of (ne3 _ (by omega))).trans hO, ⟨z4, z5, z6, z7, z8⟩, ⟨upd_s _ _ _, ⟨s, upd_s _ _ _, b1, a3, D1⟩, ⟨s', upd_s _ _ _, b2, c3, D2⟩⟩, ?_, e13, fun p hp => ne3 p (by omega)⟩
  · have cv := iZ_clampN (n := v) (by omega)
    have cf := iZ_clampN (n := 2 * f) (by omega)
    rw [e_X7_save]
    simp only [o, bS, mf2, mf6, vF, S6, h2', cv, a1, z2, cf]
    rw [if_neg (nob (iZ_n0 (by omega)) (by omega)), if_neg (nob (iZ_n0 (by omega)) (by omega)), ← hN1]
    exact f1.trans f2
  · obtain ⟨t, tl, h0⟩ := hh
    exact ⟨t, tl, (mo_of (ne3 _ (by omega))).trans h0⟩
  · intro u q' hu hq'
    exact ⟨(upd_n _ _ hu).trans hq'.1, hq'.2.1.o hu O1 (upd_n _ _ hu), hq'.2.2.o hu O2 (upd_n _ _ hu)⟩
