/-! the reference: its registers -/
def RX (rf nf : Nat → Int32) (x v : Nat) : Prop := ∃ s : Nat, nf x = iZ s ∧ s ≤ 160 ∧ Sz 16 v s ∧ ∀ j, j < s → rf (160 * x + j) = iZ (dg 16 v j)
def Lo (M : me_M) (B : Nat) (rf nf : Nat → Int32) : Prop := (∃ (t : Value) (tl : List Value), me_obj M 7 B = some (t :: .ref (B + 1) :: .ref (B + 2) :: .ref (B + 3) :: tl)) ∧ me_int M 0 (B + 1) = some (3040, rf) ∧ me_int M 0 (B + 2) = some (19, nf)
def RG (M : me_M) (B : Nat) (reg : Nat → Nat) : Prop := ∃ rf nf : Nat → Int32, Lo M B rf nf ∧ ∀ x, x < 19 → RX rf nf x (reg x)
def FM (M M' : me_M) (B : Nat) : Prop := M'.1 = M.1 ∧ ∀ p, p ≠ B + 1 → p ≠ B + 2 → M'.2 p = M.2 p
theorem FM.refl (M : me_M) (B : Nat) : FM M M B := ⟨rfl, fun _ _ _ => rfl⟩
theorem FM.trans {M N L : me_M} {B : Nat} (h : FM M N B) (k : FM N L B) : FM M L B := ⟨k.1.trans h.1, fun p a b => (k.2 p a b).trans (h.2 p a b)⟩
theorem Lo.a {M : me_M} {B : Nat} {rf nf : Nat → Int32} (h : Lo M B rf nf) (g : Nat → Int32) : Lo (mA M (B + 1) 3040 g) B g nf := by
  obtain ⟨⟨t, tl, h0⟩, h1, h2⟩ := h
  exact ⟨⟨t, tl, (mA_o (by omega)).trans h0⟩, mA_i _ _ _ _, (mA_ne (by omega)).trans h2⟩
theorem FM.a {M : me_M} {B : Nat} {g : Nat → Int32} : FM M (mA M (B + 1) 3040 g) B := ⟨rfl, fun _ a _ => set_ne a⟩
theorem Lo.n {M : me_M} {B : Nat} {rf nf : Nat → Int32} (h : Lo M B rf nf) (g : Nat → Int32) : Lo (me_set M (B + 2) (.inl (0, 19, .inl g))) B rf g := by
  obtain ⟨⟨t, tl, h0⟩, h1, h2⟩ := h
  exact ⟨⟨t, tl, (mo_ne _ _ _ _ _ (by omega)).trans h0⟩, (mi_ne _ _ _ _ _ (by omega)).trans h1, mi_set _ _ _ _ _⟩
theorem FM.n {M : me_M} {B : Nat} {g : Nat → Int32} : FM M (me_set M (B + 2) (.inl (0, 19, .inl g))) B := ⟨rfl, fun _ _ b => set_ne b⟩
theorem Lo.i0 {M : me_M} {B : Nat} {rf nf : Nat → Int32} (h : Lo M B rf nf) {α : Type} (X : Option α) : ((me_obj M 7 B).bind fun _ => X) = X := by
  obtain ⟨⟨t, tl, h0⟩, _⟩ := h
  rw [h0]; rfl
theorem RG.i0 {M : me_M} {B : Nat} {reg : Nat → Nat} (h : RG M B reg) {α : Type} (X : Option α) : ((me_obj M 7 B).bind fun _ => X) = X := by
  obtain ⟨rf, nf, h, _⟩ := h
  exact h.i0 X
theorem ix16 (x i : Nat) : (160 : Int32) * iZ (x : Int) + iZ (i : Int) = iZ ((160 * x + i : Nat) : Int) := by
  rw [show (160 : Int32) = iZ 160 from rfl, iZ_mul, iZ_add]; congr 1
theorem dg_16 (v i : Nat) : dg 16 v i < 65536 := dg_lt 16 v i
theorem at_s {M : me_M} {B x i s v : Nat} {rf nf : Nat → Int32} (h : Lo M B rf nf) (hx : x < 19) (hs : nf x = iZ s) (hs2 : s ≤ 160) (hv : v < 2 ^ (16 * s)) (hr : i < s → rf (160 * x + i) = iZ (dg 16 v i)) (hi : i < 100000) :
    f_X7_at [.ref B, .int (iZ x), .int (iZ i)] M = some (some (.int (iZ (dg 16 v i))), M) := by
  obtain ⟨⟨t, tl, h0⟩, h1, h2⟩ := h
  rw [e_X7_at, if_neg (iZ_n0 (by omega))]
  simp only [h0, bS, g1, g2, vF, h1, h2]
  rw [iZ_clampN (by omega), if_neg (nob (iZ_n0 (by omega)) (by omega))]
  simp only [hs]
  by_cases h : i < s
  · rw [if_neg (by rw [iZ_le (by omega) (by omega)]; omega), ix16, iZ_clampN (by omega), if_neg (nob (iZ_n0 (by omega)) (by omega)), c00, hr h]
  · rw [if_pos (by rw [iZ_le (by omega) (by omega)]; omega), c00, dg_zero (Nat.lt_of_lt_of_le hv (pw_le 16 (by omega)))]
    rfl
theorem at_g {M : me_M} {B x i v : Nat} {rf nf : Nat → Int32} (h : Lo M B rf nf) (hx : x < 19) (hR : RX rf nf x v) (hi : i < 100000) : f_X7_at [.ref B, .int (iZ x), .int (iZ i)] M = some (some (.int (iZ (dg 16 v i))), M) := by
  obtain ⟨s, a, b, c, d⟩ := hR
  exact at_s h hx a b c.1 (d i) hi
theorem at_n {M : me_M} {B x : Nat} {i : Int} (h1 : i < 0) (h2 : -2147483648 ≤ i) : f_X7_at [.ref B, .int (iZ x), .int (iZ i)] M = some (some (.int (iZ 0)), M) := by
  rw [e_X7_at, if_pos (by rw [z_0, iZ_lt (by omega) (by omega)]; exact h1), c00]
  rfl
theorem trimM_l {M : me_M} {B x v : Nat} {rf nf : Nat → Int32} (h : Lo M B rf nf) (hx : x < 19) : ∀ k : Nat, k ≤ 160 → v < 2 ^ (16 * k) → (∀ j, j < k → rf (160 * x + j) = iZ (dg 16 v j)) →
    ∃ s : Nat, sm T_X7_trim (2, [(0, .ref B), (1, .int (iZ x)), (3, .int (iZ k))], [], M, 0, 0) = some (none, me_set M (B + 2) (.inl (0, 19, .inl (upd nf x (iZ s))))) ∧ s ≤ k ∧ Sz 16 v s := by
  obtain ⟨⟨t, tl, h0⟩, h1, h2⟩ := h
  have h29 : ∀ k : Nat, sm T_X7_trim (29, [(0, .ref B), (1, .int (iZ x)), (3, .int (iZ k))], [], M, 0, 0) = some (none, me_set M (B + 2) (.inl (0, 19, .inl (upd nf x (iZ k))))) := by
    intro k
    rw [e_X7_trim_29]
    simp only [h0, bS, g2, vF, h2]
    rw [iZ_clampN (by omega), if_neg (nob (iZ_n0 (by omega)) (by omega)), c00]
  intro k
  induction k with
  | zero =>
    intro _ hv _
    refine ⟨0, ?_, Nat.le_refl _, hv, Or.inl rfl⟩
    rw [e_X7_trim_2, if_pos (by decide)]
    exact h29 0
  | succ k ih =>
    intro hk hv hf
    have e0 : iZ ((160 * x + (k + 1) : Nat) : Int) - 1 = iZ ((160 * x + k : Nat) : Int) := by rw [z_1, iZ_sub]; congr 1; omega
    have e2 : iZ ((k + 1 : Nat) : Int) + -1 = iZ (k : Int) := by rw [show (-1 : Int32) = iZ (-1) from rfl, iZ_add]; congr 1; omega
    rw [e_X7_trim_2, if_neg (by rw [z_0, iZ_le (by omega) (by omega)]; omega)]
    simp only [h0, bS, g1, vF, h1, ix16, e0, e2]
    have d16 := dg_16 v k
    rw [iZ_clampN (by omega), if_neg (nob (iZ_n0 (by omega)) (by omega))]
    simp only [hf k (by omega)]
    by_cases hz : dg 16 v k = 0
    · rw [if_pos (by rw [hz]; rfl)]
      obtain ⟨s, f, a, b⟩ := ih (by omega) (dg_top hv hz) (fun j hj => hf j (by omega))
      exact ⟨s, f, by omega, b⟩
    · rw [if_neg (by rw [z_0, iZ_eq (by omega) (by omega)]; omega)]
      exact ⟨k + 1, h29 (k + 1), Nat.le_refl _, hv, Or.inr (dg_ge hz)⟩
/-- outside of one register -/
def Ot (g f : Nat → Int32) (x : Nat) : Prop := ∀ p, (p < 160 * x ∨ 160 * x + 160 ≤ p) → g p = f p
theorem Ot.refl (f : Nat → Int32) (x : Nat) : Ot f f x := fun _ _ => rfl
theorem Ot.upd {g f : Nat → Int32} {x k : Nat} {v : Int32} (h : Ot g f x) (hk : k < 160) : Ot (upd g (160 * x + k) v) f x := fun p hp => by
  rw [upd_n _ _ (by omega)]
  exact h p hp
theorem RX.o {rf nf g mf : Nat → Int32} {x y v : Nat} (h : RX rf nf y v) (hy : y ≠ x) (hO : Ot g rf x) (hm : mf y = nf y) : RX g mf y v := by
  obtain ⟨s, a, b, c, d⟩ := h
  exact ⟨s, hm.trans a, b, c, fun j hj => by rw [hO _ (by omega)]; exact d j hj⟩
/-- one register told anew -/
theorem RG.up {M : me_M} {B x v s : Nat} {rf nf g : Nat → Int32} {reg : Nat → Nat} (h : Lo M B rf nf) (hR : ∀ y, y < 19 → RX rf nf y (reg y)) (hO : Ot g rf x) (hs : s ≤ 160) (hz : Sz 16 v s) (hg : ∀ j, j < s → g (160 * x + j) = iZ (dg 16 v j)) :
    RG (me_set (mA M (B + 1) 3040 g) (B + 2) (.inl (0, 19, .inl (upd nf x (iZ s))))) B (up reg x v) ∧ FM M (me_set (mA M (B + 1) 3040 g) (B + 2) (.inl (0, 19, .inl (upd nf x (iZ s))))) B := by
  refine ⟨⟨g, upd nf x (iZ s), (h.a g).n _, ?_⟩, FM.a.trans FM.n⟩
  intro y hy
  by_cases e : y = x
  · subst e
    rw [up_s]
    exact ⟨s, upd_s _ _ _, hs, hz, hg⟩
  · rw [up_n _ _ e]
    exact (hR y hy).o e hO (upd_n _ _ e)
theorem trim_g {M : me_M} {B x v k : Nat} {rf nf g : Nat → Int32} {reg : Nat → Nat} (h : Lo M B rf nf) (hR : ∀ y, y < 19 → RX rf nf y (reg y)) (hx : x < 19) (hk : k ≤ 160) (hv : v < 2 ^ (16 * k)) (hg : ∀ j, j < k → g (160 * x + j) = iZ (dg 16 v j)) (hO : Ot g rf x) :
    ∃ M' : me_M, f_X7_trim [.ref B, .int (iZ x), .int (iZ k)] (mA M (B + 1) 3040 g) = some (none, M') ∧ RG M' B (up reg x v) ∧ FM M M' B := by
  obtain ⟨s, f, a, b⟩ := trimM_l (h.a g) hx k hk hv hg
  obtain ⟨P, F⟩ := RG.up h hR hO (show s ≤ 160 by omega) b (fun j hj => hg j (by omega))
  exact ⟨_, (e_X7_trim B (iZ x) (iZ k) _).trans f, P, F⟩
theorem mA_mA (M : me_M) (a cap : Nat) (g g2 : Nat → Int32) : mA (mA M a cap g) a cap g2 = mA M a cap g2 := set_set _ _ _ _
theorem lZ_ushr16 {z : Int} (h1 : 0 ≤ z) (h2 : z < 18446744073709551616) : ((lZ z).toUInt64 >>> ((16 : Int32).toInt64.toUInt64 &&& Int64.toUInt64 63)).toInt64 = lZ (z / 65536) := lZ_ushr z _ 16 (by decide) h1 h2
theorem lZ_m16 (z : Int) : lZ z &&& (65535 : Int64) = lZ (z % 65536) := lZ_mask z 16 (by decide) (by decide)
theorem lZ_0 : (0 : Int64) = lZ 0 := rfl
theorem lZ_z {n : Nat} (h : n < 18446744073709551616) : lZ (n : Int) = 0 ↔ n = 0 := by
  rw [lZ_0, ← Int64.toBitVec_inj]
  constructor
  · intro e
    have e2 := congrArg BitVec.toNat e
    rw [lZ_bits, lZ_bits] at e2
    omega
  · intro e
    rw [e]; rfl
theorem putM_l {M : me_M} {B x U : Nat} {rf nf : Nat → Int32} {reg : Nat → Nat} (h : Lo M B rf nf) (hR : ∀ y, y < 19 → RX rf nf y (reg y)) (hx : x < 19) (hU : U < 18446744073709551616) : ∀ (d k : Nat) (g : Nat → Int32), d + k = 5 → (k = 0 ∨ 2 ^ (16 * (k - 1)) ≤ U) → Ot g rf x → (∀ j, j < k → g (160 * x + j) = iZ (dg 16 U j)) →
    ∃ M' : me_M, sm T_X7_put (6, [(0, .ref B), (1, .int (iZ x)), (4, .int (iZ k)), (5, .long (lZ ((U / 2 ^ (16 * k) : Nat) : Int)))], [], mA M (B + 1) 3040 g, 0, 0) = some (none, M') ∧ RG M' B (up reg x U) ∧ FM M M' B := by
  intro d
  induction d with
  | zero =>
    intro k g hd hk
    have e : k = 5 := by omega
    subst e
    rcases hk with hk | hk
    · omega
    · exact absurd hU (by have : 2 ^ (16 * (5 - 1)) = 18446744073709551616 := by decide
                          omega)
  | succ d ih =>
    intro k g hd hk hO hg
    have hle : U / 2 ^ (16 * k) ≤ U := Nat.div_le_self _ _
    obtain ⟨⟨t, tl, h0⟩, h1, h2⟩ := h.a g
    rw [e_X7_put_6]
    by_cases hz : U / 2 ^ (16 * k) = 0
    · have hlt : U < 2 ^ (16 * k) := by
        rcases Nat.lt_or_ge U (2 ^ (16 * k)) with q | q
        · exact q
        · have := Nat.div_pos q (Nat.two_pow_pos _); omega
      obtain ⟨P, F⟩ := RG.up h hR hO (show k ≤ 160 by omega) ⟨hlt, hk⟩ hg
      refine ⟨_, ?_, P, F⟩
      rw [if_pos (by rw [lgc0]; exact (lZ_z (by omega)).mpr hz)]
      simp only [h0, bS, g2, vF, h2]
      rw [iZ_clampN (by omega), if_neg (nob (iZ_n0 (by omega)) (by omega)), c00]
    · have hge : 2 ^ (16 * k) ≤ U := by
        rcases Nat.lt_or_ge U (2 ^ (16 * k)) with q | q
        · exact absurd (Nat.div_eq_of_lt q) hz
        · exact q
      rw [if_neg (by rw [lgc0, lZ_z (by omega)]; exact hz)]
      simp only [h0, bS, g1, vF, h1, ix16]
      have eM : me_set (mA M (B + 1) 3040 g) (B + 1) (.inl (0, 3040, .inl (upd g (160 * x + k) (iZ (dg 16 U k))))) = mA M (B + 1) 3040 (upd g (160 * x + k) (iZ (dg 16 U k))) := set_set _ _ _ _
      have e1 : ((U / 2 ^ (16 * k) : Nat) : Int) % 65536 = ((dg 16 U k : Nat) : Int) := by unfold dg; omega
      have e2 : ((U / 2 ^ (16 * k) : Nat) : Int) / 65536 = ((U / 2 ^ (16 * (k + 1)) : Nat) : Int) := by
        rw [show 16 * (k + 1) = 16 * k + 16 by omega, Nat.pow_add, ← Nat.div_div_eq_div_mul]
        omega
      rw [iZ_clampN (by omega), if_neg (nob (iZ_n0 (by omega)) (by omega)), lZ_m16, e1, lZ_i, lZ_ushr16 (Int.natCast_nonneg _) (by omega), e2, z_p1, eM]
      refine ih (k + 1) _ (by omega) (Or.inr (by rw [Nat.add_sub_cancel]; exact hge)) (hO.upd (by omega)) (fun j hj => ?_)
      by_cases e : j = k
      · subst e; rw [upd_s]
      · rw [upd_n _ _ (by omega)]; exact hg j (by omega)
theorem put_g {M : me_M} {B x U : Nat} {reg : Nat → Nat} (h : RG M B reg) (hx : x < 19) (hU : U < 18446744073709551616) : ∃ M' : me_M, f_X7_put [.ref B, .int (iZ x), .long (lZ U)] M = some (none, M') ∧ RG M' B (up reg x U) ∧ FM M M' B := by
  obtain ⟨rf, nf, h, hR⟩ := h
  obtain ⟨M', f, P, F⟩ := putM_l h hR hx hU 5 0 rf (by omega) (Or.inl rfl) (Ot.refl _ _) (fun j hj => absurd hj (by omega))
  refine ⟨M', ?_, P, F⟩
  rw [mA_self h.2.1, Nat.mul_zero, Nat.pow_zero, Nat.div_one] at f
  rw [e_X7_put]
  exact f
