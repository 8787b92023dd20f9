/-! the reference: Fractions in registers -/
theorem g3 (a b c d : Value) (l : List Value) : (a :: b :: c :: d :: l)[3]? = some d := rfl
def us (sg : Nat → Int) (f : Nat) (v : Int) : Nat → Int := fun g => if g = f then v else sg g
theorem us_s (sg : Nat → Int) (f : Nat) (v : Int) : us sg f v f = v := if_pos rfl
theorem us_n (sg : Nat → Int) {f g : Nat} (v : Int) (h : g ≠ f) : us sg f v g = sg g := if_neg h
def MS (M : me_M) (B : Nat) (reg : Nat → Nat) (sg : Nat → Int) : Prop := RG M B reg ∧ ∃ sf : Nat → Int32, me_int M 0 (B + 3) = some (4, sf) ∧ ∀ f, f < 4 → sf f = iZ (sg f)
def FS (M M' : me_M) (B : Nat) : Prop := M'.1 = M.1 ∧ ∀ p, p ≠ B + 1 → p ≠ B + 2 → p ≠ B + 3 → M'.2 p = M.2 p
theorem FS.refl (M : me_M) (B : Nat) : FS M M B := ⟨rfl, fun _ _ _ _ => rfl⟩
theorem FS.trans {M N L : me_M} {B : Nat} (h : FS M N B) (k : FS N L B) : FS M L B := ⟨k.1.trans h.1, fun p a b c => (k.2 p a b c).trans (h.2 p a b c)⟩
theorem FM.fs {M M' : me_M} {B : Nat} (h : FM M M' B) : FS M M' B := ⟨h.1, fun p a b _ => h.2 p a b⟩
theorem MS.fm {M M' : me_M} {B : Nat} {reg reg' : Nat → Nat} {sg : Nat → Int} (h : MS M B reg sg) (k : FM M M' B) (hR : RG M' B reg') : MS M' B reg' sg := by
  obtain ⟨_, sf, a, b⟩ := h
  exact ⟨hR, sf, by rw [mi_of (k.2 _ (by omega) (by omega))]; exact a, b⟩
theorem MS.i0 {M : me_M} {B : Nat} {reg : Nat → Nat} {sg : Nat → Int} (h : MS M B reg sg) {α : Type} (X : Option α) : ((me_obj M 7 B).bind fun _ => X) = X := h.1.i0 X
theorem RG.o3 {M : me_M} {B p : Nat} {reg : Nat → Nat} {x : me_E} (h : RG M B reg) (hp : p ≠ B ∧ p ≠ B + 1 ∧ p ≠ B + 2) : RG (me_set M p x) B reg := by
  obtain ⟨rf, nf, ⟨⟨t, tl, h0⟩, h1, h2⟩, hR⟩ := h
  exact ⟨rf, nf, ⟨⟨t, tl, (mo_ne _ _ _ _ _ (by omega)).trans h0⟩, (mi_ne _ _ _ _ _ (by omega)).trans h1, (mi_ne _ _ _ _ _ (by omega)).trans h2⟩, hR⟩
theorem MS.sg {M : me_M} {B f : Nat} {reg : Nat → Nat} {sg : Nat → Int} {sf : Nat → Int32} {v : Int} (h : RG M B reg) (hs : ∀ f, f < 4 → sf f = iZ (sg f)) : MS (me_set M (B + 3) (.inl (0, 4, .inl (upd sf f (iZ v))))) B reg (us sg f v) := by
  refine ⟨h.o3 (by omega), upd sf f (iZ v), mi_set _ _ _ _ _, fun g hg => ?_⟩
  by_cases e : g = f
  · subst e; rw [upd_s, us_s]
  · rw [upd_n _ _ e, us_n _ _ e]; exact hs g hg
theorem FS.s3 {M : me_M} {B : Nat} {x : me_E} : FS M (me_set M (B + 3) x) B := ⟨rfl, fun _ _ _ c => set_ne c⟩
theorem z2 (f : Nat) : (2 : Int32) * iZ (f : Int) = iZ ((2 * f : Nat) : Int) := by rw [z_2, iZ_mul]; congr 1
theorem MS.h {M : me_M} {B : Nat} {reg : Nat → Nat} {sg : Nat → Int} (h : MS M B reg sg) : ∃ (t : Value) (tl : List Value), me_obj M 7 B = some (t :: .ref (B + 1) :: .ref (B + 2) :: .ref (B + 3) :: tl) := by
  obtain ⟨⟨rf, nf, ⟨⟨t, tl, h0⟩, h1, h2⟩, hR⟩, _⟩ := h
  exact ⟨t, tl, h0⟩
def Fq (reg : Nat → Nat) (sg : Nat → Int) (f : Nat) (q : Qn) : Prop := sg f = q.1 ∧ reg (2 * f) = q.2.1 ∧ reg (2 * f + 1) = q.2.2
theorem one_lt512 : (1 : Nat) < 2 ^ 512 := Nat.one_lt_two_pow (by decide)
theorem zero_lt512 : (0 : Nat) < 2 ^ 512 := Nat.two_pow_pos _
theorem bits_fit {M : me_M} {B a b : Nat} {reg : Nat → Nat} (h : RG M B reg) (ha : a < 19) (hb : b < 19) : sm T_X7_least (85, [(0, .ref B), (2, .int (iZ a)), (3, .int (iZ b))], [], M, 0, 0) = some (some (.int (if reg a < 2 ^ 512 ∧ reg b < 2 ^ 512 then 1 else 0)), M) := by
  have la : bl (reg a) ≤ 2560 := by
    obtain ⟨rf, nf, _, hR⟩ := h
    exact (hR a ha).bl_le
  have lb : bl (reg b) ≤ 2560 := by
    obtain ⟨rf, nf, _, hR⟩ := h
    exact (hR b hb).bl_le
  rw [e_X7_least_85, h.i0, bits_g h ha]
  simp only [bS, vI]
  rw [h.i0, bits_g h hb]
  simp only [bS, vI]
  by_cases k : reg a < 2 ^ 512
  · have k' := bl_le_iff.mpr k
    rw [if_neg (by rw [show (512 : Int32) = iZ 512 from rfl, iZ_lt (by omega) (by omega)]; omega)]
    by_cases l : reg b < 2 ^ 512
    · have l' := bl_le_iff.mpr l
      rw [if_neg (by rw [show (512 : Int32) = iZ 512 from rfl, iZ_lt (by omega) (by omega)]; omega), cT1, c00, if_pos ⟨k, l⟩]
    · have l' : ¬ bl (reg b) ≤ 512 := fun q => l (bl_le_iff.mp q)
      rw [if_pos (by rw [show (512 : Int32) = iZ 512 from rfl, iZ_lt (by omega) (by omega)]; omega), cT0, c00, if_neg (fun q => l q.2)]
  · have k' : ¬ bl (reg a) ≤ 512 := fun q => k (bl_le_iff.mp q)
    rw [if_pos (by rw [show (512 : Int32) = iZ 512 from rfl, iZ_lt (by omega) (by omega)]; omega), cT0, c00, if_neg (fun q => k q.1)]
/-- what an act that ends in least leaves: the Fraction, and what else may have changed -/
def Lq (M M' : me_M) (B f : Nat) (reg reg' : Nat → Nat) (sg sg' : Nat → Int) (q : Qn) : Prop := MS M' B reg' sg' ∧ FS M M' B ∧ Fq reg' sg' f q ∧ (∀ w, w ≠ 2 * f → w ≠ 2 * f + 1 → (w < 10 ∨ 15 < w) → reg' w = reg w) ∧ ∀ g, g ≠ f → sg' g = sg g
theorem least_g {M : me_M} {B f : Nat} {reg : Nat → Nat} {sg : Nat → Int} (h : MS M B reg sg) (hf : f < 4) (h18 : reg 18 = 1) (hD : 0 < reg (2 * f + 1)) (hs : reg (2 * f) ≠ 0 → sg f = 1 ∨ sg f = -1) :
    ∃ (M' : me_M) (reg' : Nat → Nat) (sg' : Nat → Int), f_X7_least [.ref B, .int (iZ f)] M = some (some (.int (if (rd (sg f * (reg (2 * f) : Int)) (reg (2 * f + 1))).2.1 < 2 ^ 512 ∧ (rd (sg f * (reg (2 * f) : Int)) (reg (2 * f + 1))).2.2 < 2 ^ 512 then 1 else 0)), M') ∧ Lq M M' B f reg reg' sg sg' (rd (sg f * (reg (2 * f) : Int)) (reg (2 * f + 1))) := by
  obtain ⟨hR, sf, h3, hsf⟩ := h
  have hM : MS M B reg sg := ⟨hR, sf, h3, hsf⟩
  obtain ⟨t, tl, nf, s, h0, h2', hn, hs1, hs0⟩ := hR.n (x := 2 * f) (by omega)
  have c2 := iZ_clampN (n := 2 * f) (by omega)
  have cf := iZ_clampN (n := f) (by omega)
  rw [e_X7_least]
  simp only [h0, bS, g2, g3, vF, h2', h3, z2, z_p1, c2, cf, hn]
  rw [if_neg (nob (iZ_n0 (by omega)) (by omega)), if_neg (nob (iZ_n0 (by omega)) (by omega))]
  by_cases e : reg (2 * f) = 0
  · have er : rd (sg f * (reg (2 * f) : Int)) (reg (2 * f + 1)) = (0, 0, 1) := by rw [e]; show rd (sg f * 0) _ = _; rw [Int.mul_zero]; exact rd_0 hD
    have hm := MS.sg (f := f) (v := 0) hR hsf
    obtain ⟨M', f1, P, F⟩ := put_g (x := 2 * f + 1) (U := 1) hm.1 (by omega) (by omega)
    rw [er, if_pos (by have := hs0.mpr e; rw [this]; rfl)]
    have f1' : f_X7_put [.ref B, .int (iZ ((2 * f + 1 : Nat) : Int)), .long (1 : Int64)] (me_set M (B + 3) (.inl (0, 4, .inl (upd sf f (0 : Int32))))) = _ := f1
    refine ⟨M', _, us sg f 0, ?_, hm.fm F P, FS.s3.trans F.fs, ⟨us_s _ _ _, by rw [up_n _ _ (by omega)]; exact e, up_s _ _ _⟩, fun w k1 k2 k3 => up_n _ _ k2, fun g k => us_n _ _ k⟩
    rw [f1', if_pos ⟨zero_lt512, one_lt512⟩]
    have oB : me_obj (me_set M (B + 3) (.inl (0, 4, .inl (upd sf f (0 : Int32))))) 7 B = some (t :: .ref (B + 1) :: .ref (B + 2) :: .ref (B + 3) :: tl) := (mo_ne _ _ _ _ _ (by omega)).trans h0
    simp only [oB, bS, cNn]
    exact cT1.trans c00
  · have hs2 : s ≠ 0 := fun q => e (hs0.mp q)
    have hG0 : 0 < Nat.gcd (reg (2 * f)) (reg (2 * f + 1)) := Nat.gcd_pos_of_pos_right _ hD
    have er : rd (sg f * (reg (2 * f) : Int)) (reg (2 * f + 1)) = (sg f, reg (2 * f) / Nat.gcd (reg (2 * f)) (reg (2 * f + 1)), reg (2 * f + 1) / Nat.gcd (reg (2 * f)) (reg (2 * f + 1))) := by
      unfold rd
      have e1 : (sg f * (reg (2 * f) : Int)).natAbs = reg (2 * f) := by rcases hs e with k | k <;> rw [k] <;> omega
      have e2 : (sg f * (reg (2 * f) : Int)).sign = sg f := by
        rcases hs e with k | k
        · rw [k, Int.one_mul]; exact Int.sign_eq_one_of_pos (by omega)
        · rw [k]; exact Int.sign_eq_neg_one_of_neg (by omega)
      rw [e1, e2]
    rw [if_neg (by rw [z_0, iZ_eq (by omega) (by omega)]; omega), er]
    obtain ⟨M1, reg1, f1, P1, F1, g1', g2'⟩ := dvs_g (z := 13) (a := 2 * f) (b := 2 * f + 1) hR (by omega) (by omega) (by omega)
    have f1' : f_X7_divisor [.ref B, .int (13 : Int32), .int (iZ ((2 * f : Nat) : Int)), .int (iZ ((2 * f + 1 : Nat) : Int))] M = _ := f1
    have fc : f_X7_compare [.ref B, .int (13 : Int32), .int (18 : Int32)] M1 = _ := cmp_g (x := 13) (y := 18) P1 (by omega) (by omega)
    rw [f1']
    simp only [bS, cNn]
    rw [P1.i0, fc]
    simp only [bS, vI]
    rw [e_X7_least_50, g1', g2' 18 (by omega) (by omega) (by omega), h18]
    obtain ⟨G, hG⟩ : ∃ G, G = Nat.gcd (reg (2 * f)) (reg (2 * f + 1)) := ⟨_, rfl⟩
    rw [← hG] at g1' hG0 ⊢
    have a1 : reg1 (2 * f) = reg (2 * f) := g2' _ (by omega) (by omega) (by omega)
    have b1 : reg1 (2 * f + 1) = reg (2 * f + 1) := g2' _ (by omega) (by omega) (by omega)
    by_cases eG : G = 1
    · rw [if_pos (cmp_z.mpr eG), bits_fit P1 (by omega) (by omega), a1, b1, eG, Nat.div_one, Nat.div_one]
      exact ⟨M1, reg1, sg, rfl, hM.fm F1 P1, F1.fs, ⟨rfl, a1, b1⟩, fun w k1 k2 k3 => g2' w (by omega) (by omega) (by omega), fun _ _ => rfl⟩
    · rw [if_neg (fun q => eG (cmp_z.mp q))]
      obtain ⟨M2, f2, P2, F2⟩ := copy_g (x := 12) (y := 2 * f) P1 (by omega) (by omega) (by omega)
      obtain ⟨M3, f3, P3, F3⟩ := divide_g (x := 12) (b := 13) (q := 2 * f) (qi := iZ ((2 * f : Nat) : Int)) P2 (by omega) (by omega) (by omega) (by omega) (by omega) (Or.inr ⟨by omega, rfl⟩) (by rw [up_n _ _ (by omega), g1']; exact hG0)
      have v3 : dvR (up reg1 12 (reg1 (2 * f))) 12 (2 * f) (up reg1 12 (reg1 (2 * f)) 12) (up reg1 12 (reg1 (2 * f)) 13) = up (up (up reg1 12 (reg1 (2 * f))) 12 (reg (2 * f) % G)) (2 * f) (reg (2 * f) / G) := by
        unfold dvR
        rw [if_pos (by omega), up_s, up_n (i := 12) (j := 13) _ _ (by omega), g1', a1]
      rw [v3, up_up] at P3
      obtain ⟨M4, f4, P4, F4⟩ := copy_g (x := 12) (y := 2 * f + 1) P3 (by omega) (by omega) (by omega)
      have w4 : up (up reg1 12 (reg (2 * f) % G)) (2 * f) (reg (2 * f) / G) (2 * f + 1) = reg (2 * f + 1) := by rw [up_n _ _ (by omega), up_n _ _ (by omega), b1]
      rw [w4] at P4
      have w5 : up (up (up reg1 12 (reg (2 * f) % G)) (2 * f) (reg (2 * f) / G)) 12 (reg (2 * f + 1)) 13 = G := by rw [up_n _ _ (by omega), up_n _ _ (by omega), up_n _ _ (by omega), g1']
      obtain ⟨M5, f5, P5, F5⟩ := divide_g (x := 12) (b := 13) (q := 2 * f + 1) (qi := iZ ((2 * f + 1 : Nat) : Int)) P4 (by omega) (by omega) (by omega) (by omega) (by omega) (Or.inr ⟨by omega, rfl⟩) (by rw [w5]; exact hG0)
      rw [up_s, w5] at P5
      have v5 : dvR (up (up (up reg1 12 (reg (2 * f) % G)) (2 * f) (reg (2 * f) / G)) 12 (reg (2 * f + 1))) 12 (2 * f + 1) (reg (2 * f + 1)) G = up (up (up (up (up reg1 12 (reg (2 * f) % G)) (2 * f) (reg (2 * f) / G)) 12 (reg (2 * f + 1))) 12 (reg (2 * f + 1) % G)) (2 * f + 1) (reg (2 * f + 1) / G) := by
        unfold dvR
        rw [if_pos (by omega)]
      rw [v5] at P5
      have f2' : f_X7_copy [.ref B, .int (12 : Int32), .int (iZ ((2 * f : Nat) : Int))] M1 = _ := f2
      have f3' : f_X7_divide [.ref B, .int (12 : Int32), .int (13 : Int32), .int (iZ ((2 * f : Nat) : Int))] M2 = _ := f3
      have f4' : f_X7_copy [.ref B, .int (12 : Int32), .int (iZ ((2 * f + 1 : Nat) : Int))] M3 = _ := f4
      have f5' : f_X7_divide [.ref B, .int (12 : Int32), .int (13 : Int32), .int (iZ ((2 * f + 1 : Nat) : Int))] M4 = _ := f5
      rw [P1.i0, f2']
      simp only [bS, cNn]
      rw [P2.i0, f3']
      simp only [bS, cNn]
      rw [P3.i0, f4']
      simp only [bS, cNn]
      rw [P4.i0, f5']
      simp only [bS, cNn]
      have FF : FM M M5 B := (((F1.trans F2).trans F3).trans F4).trans F5
      rw [bits_fit P5 (by omega) (by omega), up_s, up_n (i := 2 * f + 1) (j := 2 * f) _ _ (by omega), up_n (i := 12) (j := 2 * f) _ _ (by omega), up_n (i := 12) (j := 2 * f) _ _ (by omega), up_s]
      refine ⟨M5, _, sg, rfl, hM.fm FF P5, FF.fs, ⟨rfl, ?_, up_s _ _ _⟩, fun w k1 k2 k3 => ?_, fun _ _ => rfl⟩
      · rw [up_n _ _ (by omega), up_n _ _ (by omega), up_n _ _ (by omega), up_s]
      · rw [up_n _ _ (by omega), up_n _ _ (by omega), up_n _ _ (by omega), up_n _ _ (by omega), up_n _ _ (by omega)]
        exact g2' w (by omega) (by omega) (by omega)
