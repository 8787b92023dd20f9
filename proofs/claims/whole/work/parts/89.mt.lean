/-! the reference: decimal -/
theorem MG.wt {M : me_M} {B : Nat} {th : Int32} {s : Sx} {reg : Nat → Nat} {sg : Nat → Int} {S : Sto} {sz wf : Nat → Int32} {s' : Sx} {wf' : Nat → Int32} (h : MG M B th s reg sg S sz wf) (e1 : s'.1 = s.1) (e2 : s'.2.1 = s.2.1) (e3 : sW s' = sW s) (hT : sT s' ≤ 400) (hC : ∀ j, j < sT s' → wf' j = iZ (sC s' j)) : MG (me_set (me_set M (B + 10) (.inl (0, 400, .inl wf'))) B (.inr (7, mfo B th s'))) B th s' reg sg S sz wf' := by
  obtain ⟨ff, hf⟩ := h.i11
  obtain ⟨S4, S5, S6, S7, S8⟩ := h.st
  obtain ⟨⟨rf, nf, ⟨⟨t, tl, h0⟩, h1, h2'⟩, hR⟩, sf, t1, t2⟩ := h.ms
  have n1 : sN s' = sN s := by unfold sN; rw [e1]
  have n2 : sV s' = sV s := by unfold sV; rw [e1]
  have n3 : sR s' = sR s := by unfold sR; rw [e2]
  have n4 : sL s' = sL s := by unfold sL; rw [e2]
  have n5 : sP s' = sP s := by unfold sP; rw [e2]
  have k : ∀ {kd p : Nat} {g : Nat × (Nat → Int32)}, me_int M kd p = some g → p ≠ B → p ≠ B + 10 → me_int (me_set (me_set M (B + 10) (.inl (0, 400, .inl wf'))) B (.inr (7, mfo B th s'))) kd p = some g := fun a b c => ((mi_ne _ _ _ _ _ b).trans (mi_ne _ _ _ _ _ c)).trans a
  refine ⟨⟨⟨rf, nf, ⟨⟨_, _, mo_set _ _ _ _⟩, k h1 (by omega) (by omega), k h2' (by omega) (by omega)⟩, hR⟩, sf, k t1 (by omega) (by omega), t2⟩, mo_set _ _ _ _, ⟨k S4 (by omega) (by omega), k S5 (by omega) (by omega), k S6 (by omega) (by omega), k S7 (by omega) (by omega), k S8 (by omega) (by omega)⟩, k h.i9 (by omega) (by omega), (mi_ne _ _ _ _ _ (by omega)).trans (mi_set _ _ _ _ _), ⟨ff, k hf (by omega) (by omega)⟩, h.r18, by rw [n1]; exact h.n, by rw [n3]; exact h.m, by rw [n1, n2]; exact h.V, by rw [n3, n4, n5]; exact h.R, hT, hC⟩
theorem say_g {M : me_M} {B T c : Nat} {f : Nat → Nat} {th : Int32} {s : Sx} {reg : Nat → Nat} {sg : Nat → Int} {S : Sto} {sz wf : Nat → Int32} {ff : Nat → Int32} (h : MG M B th (lS s T f) reg sg S sz wf) (hf : me_int M 0 (B + 11) = some (400, ff)) (hT : T < 400) (hc : f T = c) :
    ∃ (M' : me_M) (wf' : Nat → Int32), f_X7_say [.ref B, .int (iZ c)] M = some (none, M') ∧ MG M' B th (lS s (T + 1) f) reg sg S sz wf' ∧ me_int M' 0 (B + 11) = some (400, ff) ∧ FB M M' B := by
  have m := h.wt (s' := lS s (T + 1) f) (wf' := upd wf T (iZ c)) rfl rfl rfl (by show T + 1 ≤ 400; omega) (by
    intro j hj
    have hj' : j < T + 1 := hj
    by_cases e : j = T
    · subst e
      rw [upd_s]
      show iZ (c : Int) = iZ ((f j : Nat) : Int)
      rw [hc]
    · rw [upd_n _ _ e]
      exact h.C j (show j < T by omega))
  refine ⟨_, _, ?_, m, ((mi_ne _ _ _ _ _ (by omega)).trans (mi_ne _ _ _ _ _ (by omega))).trans hf, (FB.set (by omega)).trans (FB.set (by omega))⟩
  have o : me_obj M 7 B = some [.int th, .ref (B + 1), .ref (B + 2), .ref (B + 3), .ref (B + 4), .ref (B + 5), .ref (B + 6), .ref (B + 7), .ref (B + 8), .int (iZ (sN s)), .int (iZ (sR s)), .ref (B + 9), .int (iZ (sW s)), .ref (B + 10), .int (iZ (T : Int)), .ref (B + 11)] := h.o
  have o' : me_obj (me_set M (B + 10) (.inl (0, 400, .inl (upd wf T (iZ c))))) 7 B = some [.int th, .ref (B + 1), .ref (B + 2), .ref (B + 3), .ref (B + 4), .ref (B + 5), .ref (B + 6), .ref (B + 7), .ref (B + 8), .int (iZ (sN s)), .int (iZ (sR s)), .ref (B + 9), .int (iZ (sW s)), .ref (B + 10), .int (iZ (T : Int)), .ref (B + 11)] := (mo_ne _ _ _ _ _ (by omega)).trans o
  rw [e_X7_say]
  simp only [o, bS, mf13, mf14, vI, vF, h.i10]
  rw [iZ_clampN (by omega), if_neg (nob (iZ_n0 (by omega)) (by omega))]
  simp only [o', bS, mf14, vI, ml14, mt14, z_p1]
  exact c00
theorem ix12 (i : Nat) : (1920 : Int32) + iZ (i : Int) = iZ ((160 * 12 + i : Nat) : Int) := by
  rw [show (1920 : Int32) = iZ 1920 from rfl, iZ_add]; congr 1
theorem tenth_l {M : me_M} {B v t : Nat} {rf nf : Nat → Int32} {reg : Nat → Nat} (h : Lo M B rf nf) (hR : ∀ y, y < 19 → RX rf nf y (reg y)) (ht : nf 12 = iZ t) (ht2 : t ≤ 160) (hv : v < 2 ^ (16 * t)) (hf : ∀ j, j < t → rf (160 * 12 + j) = iZ (dg 16 v j)) : ∀ (i : Nat) (g : Nat → Int32), i ≤ t → Ot g rf 12 → (∀ j, j < i → g (160 * 12 + j) = iZ (dg 16 v j)) → (∀ j, i ≤ j → j < t → g (160 * 12 + j) = iZ (dg 16 (v / 10) j)) →
    ∃ M' : me_M, sm T_X7_tenth (12, [(0, .ref B), (1, .int (iZ ((v / 2 ^ (16 * i) % 10 : Nat) : Int))), (2, .int (iZ ((i : Int) - 1)))], [], mA M (B + 1) 3040 g, 0, 0) = some (some (.int (iZ ((v % 10 : Nat) : Int))), M') ∧ RG M' B (up reg 12 (v / 10)) ∧ FM M M' B := by
  have c12 : (12 : Int32).toNatClampNeg = 12 := rfl
  intro i
  induction i with
  | zero =>
    intro g hi hO hg hg2
    obtain ⟨M', f, P, F⟩ := trim_g (x := 12) (v := v / 10) (k := t) (g := g) h hR (by omega) ht2 (Nat.lt_of_le_of_lt (Nat.div_le_self _ _) hv) (fun j hj => hg2 j (by omega) hj) hO
    have f' : f_X7_trim [.ref B, .int (12 : Int32), .int (iZ t)] (mA M (B + 1) 3040 g) = _ := f
    have hL := h.a g
    obtain ⟨⟨u, tl, h0⟩, h1, h2'⟩ := h.a g
    refine ⟨M', ?_, P, F⟩
    rw [e_X7_tenth_12, if_pos (by decide)]
    simp only [h0, bS, g2, vF, h2', c12, ht, f', cNn]
    rw [if_neg (nob (by decide) (by omega)), c00, Nat.mul_zero, Nat.pow_zero, Nat.div_one]
  | succ i ih =>
    intro g hi hO hg hg2
    obtain ⟨⟨u, tl, h0⟩, h1, h2'⟩ := h.a g
    obtain ⟨s1, s2⟩ := sh_step (k := 16) (v := v) (d := 10) (i := i) (by decide)
    have e0 : ((i + 1 : Nat) : Int) - 1 = (i : Int) := by omega
    have e2 : iZ (i : Int) + -1 = iZ ((i : Int) - 1) := by rw [show (-1 : Int32) = iZ (-1) from rfl, iZ_add]; congr 1
    have eM : ∀ q, me_set (mA M (B + 1) 3040 g) (B + 1) (.inl (0, 3040, .inl q)) = mA M (B + 1) 3040 q := fun q => set_set _ _ _ _
    have d16 := dg_16 v i
    have l10 : v / 2 ^ (16 * (i + 1)) % 10 < 10 := Nat.mod_lt _ (by decide)
    have hgi := hg i (by omega)
    have hor : iZ ((v / 2 ^ (16 * (i + 1)) % 10 : Nat) : Int) <<< ((16 : Int32) &&& 31) ||| g (160 * 12 + i) = iZ ((2 ^ 16 * (v / 2 ^ (16 * (i + 1)) % 10) + dg 16 v i : Nat) : Int) := by
      rw [hgi, shl16 (by omega)]
      exact iZ_or (r := 16) (by omega) (by omega)
    rw [Nat.mul_comm _ (2 ^ 16)] at s1 s2
    have hb : 2 ^ 16 * (v / 2 ^ (16 * (i + 1)) % 10) + dg 16 v i < 2147483648 := by omega
    rw [e0, e_X7_tenth_12, if_neg (iZ_n0 (by omega))]
    simp only [h0, bS, g1, vF, h1, ix12, e2, eM]
    rw [iZ_clampN (by omega), if_neg (nob (iZ_n0 (by omega)) (by omega)), if_neg (nob (iZ_n0 (by omega)) (by omega)), if_neg (by decide : ¬ (10 : Int32) = 0), if_neg (by decide : ¬ (10 : Int32) = 0), hor, iZ_rem10 hb, show (10 : Int32) = iZ ((10 : Nat) : Int) from rfl, iZ_div hb (by omega) (by omega), ← s1, ← s2]
    refine ih _ (by omega) (hO.upd (by omega)) (fun j hj => ?_) (fun j h3 h4 => ?_)
    · rw [upd_n _ _ (by omega)]
      exact hg j (by omega)
    · by_cases e : j = i
      · subst e; rw [upd_s]
      · rw [upd_n _ _ (by omega)]
        exact hg2 j (by omega) h4
theorem tenth_g {M : me_M} {B : Nat} {reg : Nat → Nat} (h : RG M B reg) : ∃ M' : me_M, f_X7_tenth [.ref B] M = some (some (.int (iZ ((reg 12 % 10 : Nat) : Int))), M') ∧ RG M' B (up reg 12 (reg 12 / 10)) ∧ FM M M' B := by
  obtain ⟨rf, nf, h, hR⟩ := h
  obtain ⟨t, a1, a2, a3, a4⟩ := hR 12 (by omega)
  obtain ⟨M', f, P, F⟩ := tenth_l h hR a1 a2 a3.1 a4 t rf (Nat.le_refl _) (Ot.refl _ _) a4 (fun j h3 h4 => absurd h4 (by omega))
  rw [mA_self h.2.1, Nat.div_eq_of_lt a3.1] at f
  refine ⟨M', ?_, P, F⟩
  have c12 : (12 : Int32).toNatClampNeg = 12 := rfl
  obtain ⟨⟨u, tl, h0⟩, h1, h2'⟩ := h
  rw [e_X7_tenth]
  simp only [h0, bS, g2, vF, h2', c12, a1]
  rw [if_neg (nob (by decide) (by omega)), z_1, iZ_sub]
  exact f
theorem MG.fg {M : me_M} {B : Nat} {th : Int32} {s : Sx} {reg : Nat → Nat} {sg : Nat → Int} {S : Sto} {sz wf : Nat → Int32} {ff : Nat → Int32} (h : MG M B th s reg sg S sz wf) : MG (me_set M (B + 11) (.inl (0, 400, .inl ff))) B th s reg sg S sz wf := by
  obtain ⟨S4, S5, S6, S7, S8⟩ := h.st
  obtain ⟨⟨rf, nf, ⟨⟨t, tl, h0⟩, h1, h2'⟩, hR⟩, sf, t1, t2⟩ := h.ms
  have k : ∀ {kd p : Nat} {g : Nat × (Nat → Int32)}, me_int M kd p = some g → p ≠ B + 11 → me_int (me_set M (B + 11) (.inl (0, 400, .inl ff))) kd p = some g := fun a b => (mi_ne _ _ _ _ _ b).trans a
  exact ⟨⟨⟨rf, nf, ⟨⟨t, tl, (mo_ne _ _ _ _ _ (by omega)).trans h0⟩, k h1 (by omega), k h2' (by omega)⟩, hR⟩, sf, k t1 (by omega), t2⟩, (mo_ne _ _ _ _ _ (by omega)).trans h.o, ⟨k S4 (by omega), k S5 (by omega), k S6 (by omega), k S7 (by omega), k S8 (by omega)⟩, k h.i9 (by omega), k h.i10 (by omega), ⟨ff, mi_set _ _ _ _ _⟩, h.r18, h.n, h.m, h.V, h.R, h.T, h.C⟩
theorem dec_216 {B m n c off : Nat} {th : Int32} {s : Sx} {reg : Nat → Nat} {sg : Nat → Int} {S : Sto} {sz : Nat → Int32} {ff : Nat → Int32} (hn : n < c) (hn2 : n ≤ 30) (hc : c ≤ 191) (ho : off ≤ 1) (hk : ∀ k, k < c → ff k = iZ ((dd m k : Nat) : Int)) : ∀ (k : Nat) (M : me_M) (wf : Nat → Int32), k ≤ c → MG M B th (lS s (Tk off n c k) (wr off m n c)) reg sg S sz wf → me_int M 0 (B + 11) = some (400, ff) →
    Am M B (sm T_X7_decimal (216, [(0, .ref B), (2, .int (iZ n)), (5, .int (iZ ((k : Int) - 1)))], [], M, 0, 0)) th (iZ (Tk off n c 0), lS s (Tk off n c 0) (wr off m n c)) := by
  intro k
  induction k with
  | zero =>
    intro M wf hk' h hf
    have o : me_obj M 7 B = some [.int th, .ref (B + 1), .ref (B + 2), .ref (B + 3), .ref (B + 4), .ref (B + 5), .ref (B + 6), .ref (B + 7), .ref (B + 8), .int (iZ (sN s)), .int (iZ (sR s)), .ref (B + 9), .int (iZ (sW s)), .ref (B + 10), .int (iZ (Tk off n c 0)), .ref (B + 11)] := h.o
    rw [e_X7_decimal_216, if_pos (by rw [z_0, iZ_lt (by omega) (by omega)]; omega)]
    simp only [o, bS, mf14, vI]
    rw [c00]
    exact Am.val ⟨_, _, _, _, _, h⟩
  | succ i ih =>
    intro M wf hk' h hf
    have hT : Tk off n c (i + 1) < 400 := by unfold Tk; split <;> omega
    have e0 : ((i + 1 : Nat) : Int) - 1 = (i : Int) := by omega
    have e2 : iZ (i : Int) + -1 = iZ ((i : Int) - 1) := by rw [show (-1 : Int32) = iZ (-1) from rfl, iZ_add]; congr 1
    obtain ⟨N, wf1, f1, P1, hf1, G1⟩ := say_g (c := 48 + dd m i) h hf hT (wr_d hn (by omega))
    rw [e0, e_X7_decimal_216, if_neg (iZ_n0 (by omega))]
    simp only [h.o, bS, mf15, vF, hf]
    rw [iZ_clampN (by omega), if_neg (nob (iZ_n0 (by omega)) (by omega)), hk i (by omega), show (48 : Int32) = iZ ((48 : Nat) : Int) from rfl, z_pi, f1]
    simp only [bS, cNn, e2]
    by_cases e : i = n
    · subst e
      rw [if_pos rfl]
      by_cases e9 : i = 0
      · subst e9
        rw [if_pos (by rw [z_0, iZ_le (by omega) (by omega)]; omega)]
        have et : Tk off 0 c (0 + 1) + 1 = Tk off 0 c 0 := by unfold Tk; rw [if_neg (by omega), if_neg (by omega)]; omega
        rw [et] at P1
        exact Am.trans G1 (ih N wf1 (by omega) P1 hf1)
      · rw [if_neg (by rw [z_0, iZ_le (by omega) (by omega)]; omega)]
        have hT2 : Tk off i c (i + 1) + 1 < 400 := by unfold Tk; rw [if_neg (by omega)]; omega
        obtain ⟨N2, wf2, f2, P2, hf2, G2⟩ := say_g (c := 46) P1 hf1 hT2 (wr_p hn (by omega))
        rw [P1.i0, show (46 : Int32) = iZ ((46 : Nat) : Int) from rfl, f2]
        simp only [bS, cNn]
        have et : Tk off i c (i + 1) + 1 + 1 = Tk off i c i := by unfold Tk; rw [if_neg (by omega), if_pos (by omega)]; omega
        rw [et] at P2
        exact Am.trans (G1.trans G2) (ih N2 wf2 (by omega) P2 hf2)
    · rw [if_neg (by rw [iZ_eq (by omega) (by omega)]; omega)]
      have et : Tk off n c (i + 1) + 1 = Tk off n c i := by
        unfold Tk
        by_cases z : i ≤ n ∧ 0 < n
        · rw [if_pos (by omega), if_pos z]; omega
        · rw [if_neg (by omega), if_neg z]; omega
      rw [et] at P1
      exact Am.trans G1 (ih N wf1 (by omega) P1 hf1)
theorem dec_177 {B m n off : Nat} {th : Int32} {s : Sx} {sg : Nat → Int} {S : Sto} {sz wf : Nat → Int32} (hn2 : n ≤ 30) (hm : m < 10 ^ 191) (ho : off ≤ 1) : ∀ (d k : Nat) (M : me_M) (reg : Nat → Nat) (ff : Nat → Int32), d + k = 192 → MG M B th (lS s off (wr off m n (dc m n))) reg sg S sz wf → reg 12 = m / 10 ^ k → me_int M 0 (B + 11) = some (400, ff) → (∀ j, j < k → ff j = iZ ((dd m j : Nat) : Int)) → (k ≤ n + 1 ∨ 10 ^ (k - 1) ≤ m) →
    Am M B (sm T_X7_decimal (177, [(0, .ref B), (2, .int (iZ n)), (4, .int (iZ k))], [], M, 0, 0)) th (iZ (Tk off n (dc m n) 0), lS s (Tk off n (dc m n) 0) (wr off m n (dc m n))) := by
  have c12 : (12 : Int32).toNatClampNeg = 12 := rfl
  intro d
  induction d with
  | zero =>
    intro k M reg ff hd h hr hf hj hk
    exfalso
    rcases hk with q | q
    · omega
    · have := p10_le (show 191 ≤ k - 1 by omega)
      omega
  | succ d ih =>
    intro k M reg ff hd h hr hf hj hk
    obtain ⟨t, tl, nf, z, k0, k2, kn, kz, kz0⟩ := h.ms.1.n (x := 12) (by omega)
    rw [hr] at kz0
    have s193 : (m / 10 ^ k ≠ 0 ∨ k ≤ n) → Am M B (sm T_X7_decimal (193, [(0, .ref B), (2, .int (iZ n)), (4, .int (iZ k))], [], M, 0, 0)) th (iZ (Tk off n (dc m n) 0), lS s (Tk off n (dc m n) 0) (wr off m n (dc m n))) := by
      intro hc
      obtain ⟨M1, f1, P1, F1⟩ := tenth_g h.ms.1
      rw [hr] at f1 P1
      have m1 := h.fs F1.fs (h.ms.fm F1 P1) (by rw [up_n _ _ (by omega)]; exact h.r18)
      have hf1 : me_int M1 0 (B + 11) = some (400, ff) := (mi_of (F1.2 _ (by omega) (by omega))).trans hf
      have m2 := m1.fg (ff := upd ff k (iZ ((m / 10 ^ k % 10 : Nat) : Int)))
      rw [e_X7_decimal_193]
      simp only [h.o, bS, mf15, f1, vI, vF, hf1]
      rw [iZ_clampN (by omega), if_neg (nob (iZ_n0 (by omega)) (by omega)), z_p1]
      refine Am.trans (F1.fs.fb.trans (FB.set (by omega))) (ih (k + 1) _ _ _ (by omega) m2 ?_ (mi_set _ _ _ _ _) (fun j hj' => ?_) ?_)
      · rw [up_s, Nat.div_div_eq_div_mul, ← Nat.pow_succ]
      · by_cases e : j = k
        · subst e; rw [upd_s]; rfl
        · rw [upd_n _ _ e]; exact hj j (by omega)
      · rcases hc with q | q
        · rcases Nat.lt_or_ge m (10 ^ k) with y | y
          · exact absurd (Nat.div_eq_of_lt y) q
          · exact Or.inr (by rw [Nat.add_sub_cancel]; exact y)
        · exact Or.inl (by omega)
    rw [e_X7_decimal_177]
    simp only [k0, bS, g2, vF, k2, c12, kn]
    rw [if_neg (nob (by decide) (by omega))]
    by_cases e : m / 10 ^ k = 0
    · rw [if_neg (by rw [z_0, iZ_lt (by omega) (by omega)]; have := kz0.mpr e; omega)]
      by_cases e2 : n < k
      · rw [if_pos (by rw [iZ_lt (by omega) (by omega)]; omega), z_1, iZ_sub]
        have hlt : m < 10 ^ k := by
          rcases Nat.lt_or_ge m (10 ^ k) with y | y
          · exact y
          · have := Nat.div_pos y (Nat.pow_pos (by decide)); omega
        have D : Dc m n k := ⟨by omega, hlt, by
          rcases hk with q | q
          · exact Or.inl (by omega)
          · exact Or.inr q⟩
        have ek : k = dc m n := D.uniq (dc_s hm)
        have kl := D.le hm hn2
        have et : off = Tk off n (dc m n) k := by
          unfold Tk
          rw [if_neg (by omega), ek]
          omega
        have h' : MG M B th (lS s (Tk off n (dc m n) k) (wr off m n (dc m n))) reg sg S sz wf := by rw [← et]; exact h
        exact dec_216 (by omega) hn2 (by omega) ho (fun j hj' => hj j (by omega)) k M wf (by omega) h' hf
      · rw [if_neg (by rw [iZ_lt (by omega) (by omega)]; omega)]
        exact s193 (Or.inr (by omega))
    · have z0 : z ≠ 0 := fun q => e (kz0.mp q)
      rw [if_pos (by rw [z_0, iZ_lt (by omega) (by omega)]; omega)]
      exact s193 (Or.inl e)
theorem dec_144 {M : me_M} {B n e : Nat} {th : Int32} {s : Sx} {reg : Nat → Nat} {sg : Nat → Int} {S : Sto} {sz wf : Nat → Int32} {a : Qn} (h : MG M B th s reg sg S sz wf) (hn2 : n ≤ 30) (na : Nf a) (fa : Fits a) (h12 : reg 12 = qMany a n e) (h1 : sg 1 = a.1) : Am M B (sm T_X7_decimal (144, [(0, .ref B), (2, .int (iZ n))], [], M, 0, 0)) th (iZ (sT (dcS s a n e)), dcS s a n e) := by
  have hm := many_lt (n := n) (e := e) fa na.2.2.1 hn2
  obtain ⟨ff, hf⟩ := h.i11
  obtain ⟨m, hme⟩ : ∃ m, m = qMany a n e := ⟨_, rfl⟩
  obtain ⟨off, hoff⟩ : ∃ off : Nat, off = if a.1 < 0 ∧ 0 < qMany a n e then 1 else 0 := ⟨_, rfl⟩
  have ho1 : off ≤ 1 := by rw [hoff]; split <;> omega
  have eS : dcS s a n e = lS s (Tk off n (dc m n) 0) (wr off m n (dc m n)) := by rw [hoff, hme]; rfl
  rw [← hme] at hm h12 hoff
  rw [eS]
  show Am M B _ th (iZ (Tk off n (dc m n) 0), _)
  have m0 := h.so (th' := th) (s' := lS s 0 (wr off m n (dc m n))) h.n h.m h.V h.R (by show 0 ≤ 400; omega) (fun j hj => absurd hj (Nat.not_lt_zero j))
  have F0 : FB M (me_set M B (.inr (7, mfo B th (lS s 0 (wr off m n (dc m n)))))) B := FB.set (by omega)
  have hf0 : me_int (me_set M B (.inr (7, mfo B th (lS s 0 (wr off m n (dc m n)))))) 0 (B + 11) = some (400, ff) := (mi_ne _ _ _ _ _ (by omega)).trans hf
  rw [e_X7_decimal_144]
  simp only [h.o, bS, ml14, mt14]
  obtain ⟨N, hN⟩ : ∃ N, N = me_set M B (.inr (7, mfo B th (lS s 0 (wr off m n (dc m n))))) := ⟨_, rfl⟩
  have hN' : N = me_set M B (.inr (7, [.int th, .ref (B + 1), .ref (B + 2), .ref (B + 3), .ref (B + 4), .ref (B + 5), .ref (B + 6), .ref (B + 7), .ref (B + 8), .int (iZ (sN s)), .int (iZ (sR s)), .ref (B + 9), .int (iZ (sW s)), .ref (B + 10), .int 0, .ref (B + 11)])) := hN
  rw [← hN] at m0 F0 hf0
  rw [← hN']
  obtain ⟨_, sf, s1, s2⟩ := m0.ms
  obtain ⟨t, tl, nf, z, k0, k2, kn, kz, kz0⟩ := m0.ms.1.n (x := 12) (by omega)
  rw [h12] at kz0
  have c12 : (12 : Int32).toNatClampNeg = 12 := rfl
  have k1 := na.1
  simp only [m0.o, bS, mf2, mf3, vF, s1, cl1, s2 1 (by omega), h1, k2, c12, kn]
  rw [if_neg (nob n1 (by decide))]
  refine Am.trans F0 ?_
  by_cases hs : 0 ≤ a.1
  · have e0 : off = 0 := by rw [hoff]; exact if_neg (by omega)
    rw [if_pos (by rw [z_0, iZ_le (by omega) (by omega)]; exact hs)]
    rw [e0] at m0 ⊢
    exact dec_177 hn2 hm (by omega) 192 0 N reg ff (by omega) m0 (by rw [Nat.pow_zero, Nat.div_one]; exact h12) hf0 (fun j hj => absurd hj (by omega)) (Or.inl (by omega))
  · rw [if_neg (by rw [z_0, iZ_le (by omega) (by omega)]; exact hs), if_neg (nob (by decide) (by omega))]
    by_cases hz : m = 0
    · have e0 : off = 0 := by rw [hoff]; exact if_neg (by omega)
      rw [if_pos (by rw [kz0.mpr hz]; decide)]
      rw [e0] at m0 ⊢
      exact dec_177 hn2 hm (by omega) 192 0 N reg ff (by omega) m0 (by rw [Nat.pow_zero, Nat.div_one]; exact h12) hf0 (fun j hj => absurd hj (by omega)) (Or.inl (by omega))
    · have z0 : z ≠ 0 := fun q => hz (kz0.mp q)
      have e1 : off = 1 := by rw [hoff]; exact if_pos (by omega)
      rw [if_neg (by rw [z_0, iZ_le (by omega) (by omega)]; omega)]
      rw [e1] at m0 ⊢
      obtain ⟨M1, wf1, f1, P1, hf1, G1⟩ := say_g (c := 45) m0 hf0 (by omega) (by unfold wr; rw [if_pos (by omega)])
      rw [show (45 : Int32) = iZ ((45 : Nat) : Int) from rfl, f1]
      simp only [bS, cNn]
      exact Am.trans G1 (dec_177 hn2 hm (by omega) 192 0 M1 reg ff (by omega) P1 (by rw [Nat.pow_zero, Nat.div_one]; exact h12) hf1 (fun j hj => absurd hj (by omega)) (Or.inl (by omega)))
theorem dec_60 {B n e : Nat} {th : Int32} {s : Sx} {sg : Nat → Int} {S : Sto} {sz wf : Nat → Int32} {a : Qn} (hn2 : n ≤ 30) (he : e ≤ 1) (na : Nf a) (fa : Fits a) (h1 : sg 1 = a.1) : ∀ (d k : Nat) (M : me_M) (reg : Nat → Nat), d + k = n → MG M B th s reg sg S sz wf → reg 10 = 10 ^ k * a.2.1 → reg 11 = 10 → reg 3 = a.2.2 →
    Am M B (sm T_X7_decimal (60, [(0, .ref B), (2, .int (iZ n)), (3, .int (iZ e)), (4, .int (iZ k))], [], M, 0, 0)) th (iZ (sT (dcS s a n e)), dcS s a n e) := by
  have hD := na.2.2.1
  have k1 := na.1
  intro d
  induction d with
  | zero =>
    intro k M reg hd h r10 r11 r3
    have ek : k = n := by omega
    subst ek
    obtain ⟨M1, f1, P1, F1⟩ := divide_g (x := 10) (b := 3) (q := 12) (qi := iZ ((12 : Nat) : Int)) h.ms.1 (by omega) (by omega) (by omega) (by omega) (by omega) (Or.inr ⟨by omega, rfl⟩) (by rw [r3]; exact hD)
    have ed : dvR reg 10 12 (reg 10) (reg 3) = up (up reg 10 (10 ^ k * a.2.1 % a.2.2)) 12 (10 ^ k * a.2.1 / a.2.2) := by
      unfold dvR
      rw [if_pos (by omega), r10, r3]
    rw [ed] at P1
    have f1' : f_X7_divide [.ref B, .int (10 : Int32), .int (3 : Int32), .int (12 : Int32)] M = _ := f1
    have m1 := h.fs F1.fs (h.ms.fm F1 P1) (by rw [up_n _ _ (by omega), up_n _ _ (by omega)]; exact h.r18)
    have q12 : up (up reg 10 (10 ^ k * a.2.1 % a.2.2)) 12 (10 ^ k * a.2.1 / a.2.2) 12 = 10 ^ k * a.2.1 / a.2.2 := up_s _ _ _
    have q10 : up (up reg 10 (10 ^ k * a.2.1 % a.2.2)) 12 (10 ^ k * a.2.1 / a.2.2) 10 = 10 ^ k * a.2.1 % a.2.2 := by rw [up_n _ _ (by omega), up_s]
    obtain ⟨t, tl, nf, z, k0, k2, kn, kz, kz0⟩ := P1.n (x := 10) (by omega)
    rw [q10] at kz0
    obtain ⟨_, sf, s1, s2⟩ := m1.ms
    have c10 : (10 : Int32).toNatClampNeg = 10 := rfl
    rw [e_X7_decimal_60, if_pos (Int32.le_refl _), h.i0, f1']
    simp only [bS, cNn, m1.o, mf2, mf3, vF, k2, c10, kn, s1, cl1, s2 1 (by omega), h1]
    rw [if_neg (nob (by decide) (by omega))]
    refine Am.trans F1.fs.fb ?_
    have f144 : (¬ (10 ^ k * a.2.1 % a.2.2 ≠ 0 ∧ (e = 1 ↔ 0 < a.1))) → Am M1 B (sm T_X7_decimal (144, [(0, .ref B), (2, .int (iZ k))], [], M1, 0, 0)) th (iZ (sT (dcS s a k e)), dcS s a k e) := fun q => dec_144 m1 hn2 na fa (by rw [q12]; unfold qMany; rw [if_neg q, Nat.add_zero]) h1
    have f134 : (10 ^ k * a.2.1 % a.2.2 ≠ 0 ∧ (e = 1 ↔ 0 < a.1)) → Am M1 B (sm T_X7_decimal (134, [(0, .ref B), (2, .int (iZ k))], [], M1, 0, 0)) th (iZ (sT (dcS s a k e)), dcS s a k e) := by
      intro q
      have hl : 10 ^ k * a.2.1 / a.2.2 < 2 ^ (16 * 159) := by
        have x1 : 10 ^ k < 2 ^ (16 * 8) := by
          have := p10 hn2
          exact Nat.lt_trans this (Nat.pow_lt_pow_right (by decide) (by decide))
        have x2 := pm16 8 32 x1 (p512 fa.1)
        exact Nat.lt_of_le_of_lt (Nat.div_le_self _ _) (pw16 x2 (by omega))
      obtain ⟨M2, f2, P2, F2⟩ := plus_g (z := 12) (x := 12) (y := 18) m1.ms.1 (by omega) (by omega) (by omega) (by rw [q12]; exact hl) (by rw [m1.r18]; exact Nat.one_lt_two_pow (by decide))
      rw [q12, m1.r18] at P2
      have f2' : f_X7_plus [.ref B, .int (12 : Int32), .int (12 : Int32), .int (18 : Int32)] M1 = _ := f2
      have m2 := m1.fs F2.fs (m1.ms.fm F2 P2) (by rw [up_n _ _ (by omega)]; exact m1.r18)
      rw [e_X7_decimal_134, m1.i0, f2']
      simp only [bS, cNn]
      exact Am.trans F2.fs.fb (dec_144 m2 hn2 na fa (by rw [up_s]; unfold qMany; rw [if_pos q]) h1)
    by_cases er : 10 ^ k * a.2.1 % a.2.2 = 0
    · rw [if_pos (by rw [kz0.mpr er]; decide)]
      exact f144 (fun q => q.1 er)
    · have z0 : z ≠ 0 := fun q => er (kz0.mp q)
      have a0 : a.1 ≠ 0 := fun q => er (by rw [na.2.1.mp q, Nat.mul_zero, Nat.zero_mod])
      rw [if_neg (by rw [z_0, iZ_le (by omega) (by omega)]; omega)]
      by_cases e0 : e = 0
      · rw [if_pos (by rw [e0]; rfl), if_neg (nob n1 (by decide))]
        by_cases hs : 0 ≤ a.1
        · rw [if_pos (by rw [z_0, iZ_le (by omega) (by omega)]; exact hs)]
          exact f144 (fun q => by have := q.2; omega)
        · rw [if_neg (by rw [z_0, iZ_le (by omega) (by omega)]; exact hs)]
          exact f134 ⟨er, by omega⟩
      · rw [if_neg (by rw [z_0, iZ_eq (by omega) (by omega)]; omega), if_neg (nob n1 (by decide))]
        by_cases hs : a.1 ≤ 0
        · rw [if_pos (by rw [z_0, iZ_le (by omega) (by omega)]; exact hs)]
          exact f144 (fun q => by have := q.2; omega)
        · rw [if_neg (by rw [z_0, iZ_le (by omega) (by omega)]; exact hs)]
          exact f134 ⟨er, by omega⟩
  | succ d ih =>
    intro k M reg hd h r10 r11 r3
    have x1 : 10 ^ k < 2 ^ (16 * 8) := Nat.lt_trans (p10 (show k ≤ 30 by omega)) (Nat.pow_lt_pow_right (by decide) (by decide))
    have x2 := pm16 8 32 x1 (p512 fa.1)
    obtain ⟨M1, f1, P1, F1⟩ := mul_g (z := 12) (x := 10) (y := 11) 40 1 h.ms.1 (by omega) (by omega) (by omega) (by omega) (by omega) (by rw [r10]; exact x2) (by rw [r11]; decide) (by omega)
    rw [r10, r11] at P1
    obtain ⟨M2, f2, P2, F2⟩ := copy_g (x := 10) (y := 12) P1 (by omega) (by omega) (by omega)
    rw [up_s] at P2
    have f1' : f_X7_multiply [.ref B, .int (12 : Int32), .int (10 : Int32), .int (11 : Int32)] M = _ := f1
    have f2' : f_X7_copy [.ref B, .int (10 : Int32), .int (12 : Int32)] M1 = _ := f2
    have F12 := F1.trans F2
    have m2 := h.fs F12.fs (h.ms.fm F12 P2) (by rw [up_n _ _ (by omega), up_n _ _ (by omega)]; exact h.r18)
    rw [e_X7_decimal_60, if_neg (by rw [iZ_le (by omega) (by omega)]; omega), h.i0, f1']
    simp only [bS, cNn]
    rw [P1.i0, f2']
    simp only [bS, cNn]
    rw [z_p1]
    refine Am.trans F12.fs.fb (ih (k + 1) M2 _ (by omega) m2 ?_ ?_ ?_)
    · rw [up_s, Nat.pow_succ]; grind
    · rw [up_n _ _ (by omega), up_n _ _ (by omega)]; exact r11
    · rw [up_n _ _ (by omega), up_n _ _ (by omega)]; exact r3
theorem decimalM_g {M : me_M} {B : Nat} {th : Int32} {s : Sx} {x n e : Int32} (h : MF M B th s) : Am M B (f_X7_decimal [.ref B, .int x, .int n, .int e] M) 0 (tDe s x n e) := by
  obtain ⟨X, en, b1, b2, t⟩ := i_rep n
  obtain ⟨Y, ee, y1, y2, u⟩ := i_rep e
  obtain ⟨reg, sg, S, sz, wf, h⟩ := h
  have hn := h.n
  have hm := h.m
  have m := h.th (th' := 0)
  have F : FB M (me_set M B (.inr (7, mfo B 0 s))) B := FB.set (by omega)
  rw [e_X7_decimal]
  simp only [h.o, bS, ml0, mt0]
  obtain ⟨N, hN⟩ : ∃ N, N = me_set M B (.inr (7, mfo B 0 s)) := ⟨_, rfl⟩
  have hN' : N = me_set M B (.inr (7, [.int 0, .ref (B + 1), .ref (B + 2), .ref (B + 3), .ref (B + 4), .ref (B + 5), .ref (B + 6), .ref (B + 7), .ref (B + 8), .int (iZ (sN s)), .int (iZ (sR s)), .ref (B + 9), .int (iZ (sW s)), .ref (B + 10), .int (iZ (sT s)), .ref (B + 11)])) := hN
  rw [← hN] at m F
  rw [← hN']
  simp only [m.o, bS, isValueM_s m.ob m.n, vI]
  refine Am.trans F ?_
  by_cases hx : isV (sN s) x
  · rw [if_pos hx, if_neg i10]
    by_cases h1 : X < 0
    · rw [if_pos (by rw [en, z_0, iZ_lt (by omega) (by omega)]; exact h1), c00, show tDe s x n e = (-2, s) from if_neg (fun z => by have := z.2.1.1; omega)]
      exact Am.val ⟨reg, sg, S, sz, wf, m⟩
    · rw [if_neg (by rw [en, z_0, iZ_lt (by omega) (by omega)]; exact h1)]
      by_cases h2' : 30 < X
      · rw [if_pos (by rw [en, show (30 : Int32) = iZ 30 from rfl, iZ_lt (by omega) (by omega)]; exact h2'), c00, show tDe s x n e = (-2, s) from if_neg (fun z => by have := z.2.1.2; omega)]
        exact Am.val ⟨reg, sg, S, sz, wf, m⟩
      · rw [if_neg (by rw [en, show (30 : Int32) = iZ 30 from rfl, iZ_lt (by omega) (by omega)]; exact h2')]
        by_cases h3' : Y < 0
        · rw [if_pos (by rw [ee, z_0, iZ_lt (by omega) (by omega)]; exact h3'), c00, show tDe s x n e = (-2, s) from if_neg (fun z => by have := z.2.2.1; omega)]
          exact Am.val ⟨reg, sg, S, sz, wf, m⟩
        · rw [if_neg (by rw [ee, z_0, iZ_lt (by omega) (by omega)]; exact h3')]
          by_cases h4' : Y ≤ 1
          · rw [if_pos (by rw [ee, z_1, iZ_le (by omega) (by omega)]; exact h4'), show tDe s x n e = _ from if_pos ⟨hx, by constructor <;> omega, by constructor <;> omega⟩]
            obtain ⟨i, i1, i2, i3⟩ := hx.ix (by omega)
            obtain ⟨n', n1', n2', n3'⟩ := isV.ix (n := 31) (x := n) (by constructor <;> omega) (by omega)
            obtain ⟨e', e1', e2', e3'⟩ := isV.ix (n := 2) (x := e) (by constructor <;> omega) (by omega)
            have Ka := m.V i i1
            rw [i3, n3', e3', i2, n2', e2']
            obtain ⟨M1, f1, m1, F1⟩ := load_mg (f := 1) (v := i) m (by omega) (by omega) Ka
            have f1' : f_X7_load [.ref B, .int (1 : Int32), .int (iZ i)] N = _ := f1
            have m1 : MG M1 B 0 s (up (up reg 2 (sV s i).2.1) 3 (sV s i).2.2) (us sg 1 (sV s i).1) S sz wf := m1
            obtain ⟨M2, f2, P2, F2⟩ := copy_g (x := 10) (y := 2) m1.ms.1 (by omega) (by omega) (by omega)
            rw [up_n (i := 3) (j := 2) _ _ (by omega), up_s] at P2
            have f2' : f_X7_copy [.ref B, .int (10 : Int32), .int (2 : Int32)] M1 = _ := f2
            obtain ⟨M3, f3, P3, F3⟩ := put_g (x := 11) (U := 10) P2 (by omega) (by omega)
            have f3' : f_X7_put [.ref B, .int (11 : Int32), .long (10 : Int64)] M2 = _ := f3
            have F23 := F2.trans F3
            have m3 := m1.fs F23.fs (m1.ms.fm F23 P3) (by rw [up_n _ _ (by omega), up_n _ _ (by omega)]; exact m1.r18)
            rw [f1']
            simp only [bS, cNn]
            rw [m1.i0, f2']
            simp only [bS, cNn]
            rw [e_X7_decimal_48, P2.i0, f3']
            simp only [bS, cNn]
            refine Am.trans (F1.fb.trans F23.fs.fb) ?_
            exact dec_60 (by omega) (by omega) Ka.1 Ka.2.1 (us_s _ _ _) n' 0 M3 _ (by omega) m3 (by rw [up_n _ _ (by omega), up_s, Nat.pow_zero, Nat.one_mul]) (up_s _ _ _) (by rw [up_n _ _ (by omega), up_n _ _ (by omega), up_s])
          · rw [if_neg (by rw [ee, z_1, iZ_le (by omega) (by omega)]; exact h4'), c00, show tDe s x n e = (-2, s) from if_neg (fun z => by have := z.2.2.2; omega)]
            exact Am.val ⟨reg, sg, S, sz, wf, m⟩
  · rw [if_neg hx, if_pos rfl, c00, show tDe s x n e = (-2, s) from if_neg (fun z => hx z.1)]
    exact Am.val ⟨reg, sg, S, sz, wf, m⟩
