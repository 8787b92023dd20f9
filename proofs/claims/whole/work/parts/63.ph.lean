/-! what is WRITTEN -/
def dd (m i : Nat) : Nat := m / 10 ^ i % 10
theorem dd_lt (m i : Nat) : dd m i < 10 := Nat.mod_lt _ (by decide)
theorem dd_z {m i : Nat} (h : m < 10 ^ i) : dd m i = 0 := by unfold dd; rw [Nat.div_eq_of_lt h]
theorem p10_le {i j : Nat} (h : i ≤ j) : 10 ^ i ≤ 10 ^ j := Nat.pow_le_pow_right (by decide) h
theorem dd_add (m i j : Nat) : dd (m / 10 ^ i) j = dd m (i + j) := by
  unfold dd
  rw [Nat.div_div_eq_div_mul, ← Nat.pow_add]
theorem dd_mod {m i k : Nat} (h : i < k) : dd (m % 10 ^ k) i = dd m i := by
  unfold dd
  obtain ⟨d, rfl⟩ : ∃ d, k = i + 1 + d := ⟨k - i - 1, by omega⟩
  have e1 : 10 ^ (i + 1 + d) = 10 ^ i * (10 * 10 ^ d) := by rw [Nat.pow_add, Nat.pow_succ, Nat.mul_assoc]
  rw [e1, Nat.mod_mul_right_div_self, Nat.mod_mul_right_mod]
theorem dd_top {m c : Nat} (h1 : m < 10 ^ (c + 1)) (h2 : dd m c = 0) : m < 10 ^ c := by
  unfold dd at h2
  have e : m / 10 ^ c < 10 := by
    rw [Nat.div_lt_iff_lt_mul (Nat.pow_pos (by decide))]
    rw [Nat.pow_succ, Nat.mul_comm] at h1
    exact h1
  rw [Nat.mod_eq_of_lt e] at h2
  rcases Nat.lt_or_ge m (10 ^ c) with k | k
  · exact k
  · have := Nat.div_pos k (Nat.pow_pos (by decide))
    omega
theorem dd_ge {m c : Nat} (h : dd m c ≠ 0) : 10 ^ c ≤ m := by
  rcases Nat.lt_or_ge m (10 ^ c) with k | k
  · exact absurd (dd_z k) h
  · exact k
/-- how many digits -/
def dcl (m : Nat) : Nat → Nat → Nat
  | 0, k => k
  | f + 1, k => if m < 10 ^ k then k else dcl m f (k + 1)
def dc (m n : Nat) : Nat := dcl m 200 (n + 1)
def Dc (m n c : Nat) : Prop := n + 1 ≤ c ∧ m < 10 ^ c ∧ (c = n + 1 ∨ 10 ^ (c - 1) ≤ m)
theorem dcl_s (m n : Nat) : ∀ f k : Nat, m < 10 ^ (k + f) → n + 1 ≤ k → (k = n + 1 ∨ 10 ^ (k - 1) ≤ m) → Dc m n (dcl m f k) := by
  intro f
  induction f with
  | zero => intro k h1 h2 h3; exact ⟨h2, h1, h3⟩
  | succ f ih =>
    intro k h1 h2 h3
    show Dc m n (if m < 10 ^ k then k else dcl m f (k + 1))
    by_cases h : m < 10 ^ k
    · rw [if_pos h]; exact ⟨h2, h, h3⟩
    · rw [if_neg h]
      exact ih (k + 1) (by rw [show k + 1 + f = k + (f + 1) by omega]; exact h1) (by omega) (Or.inr (by rw [Nat.add_sub_cancel]; omega))
theorem dc_s {m n : Nat} (h : m < 10 ^ 191) : Dc m n (dc m n) := dcl_s m n 200 (n + 1) (Nat.lt_of_lt_of_le h (p10_le (by omega))) (Nat.le_refl _) (Or.inl rfl)
theorem Dc.uniq {m n c c' : Nat} (h : Dc m n c) (h' : Dc m n c') : c = c' := by
  obtain ⟨a1, a2, a3⟩ := h
  obtain ⟨b1, b2, b3⟩ := h'
  rcases Nat.lt_trichotomy c c' with k | k | k
  · rcases b3 with b3 | b3
    · omega
    · have := p10_le (show c ≤ c' - 1 by omega)
      omega
  · exact k
  · rcases a3 with a3 | a3
    · omega
    · have := p10_le (show c' ≤ c - 1 by omega)
      omega
theorem Dc.le {m n c : Nat} (h : Dc m n c) (hm : m < 10 ^ 191) (hn : n ≤ 30) : c ≤ 191 := by
  rcases h.2.2 with k | k
  · omega
  · rcases Nat.lt_or_ge c 192 with z | z
    · omega
    · have := p10_le (show 191 ≤ c - 1 by omega)
      omega
/-- the letter at a position -/
def wr (off m n c j : Nat) : Nat := if j < off then 45 else if 0 < n ∧ j = off + c - n then 46 else 48 + dd m (if 0 < n ∧ off + c - n < j then off + c - j else off + c - 1 - j)
theorem wr_lt (off m n c j : Nat) : wr off m n c j < 128 := by
  unfold wr
  split
  · omega
  · split
    · omega
    · have := dd_lt m (if 0 < n ∧ off + c - n < j then off + c - j else off + c - 1 - j)
      omega
/-- where the digit below k goes -/
def Tk (off n c k : Nat) : Nat := off + (c - k) + (if k ≤ n ∧ 0 < n then 1 else 0)
theorem wr_d {off m n c i : Nat} (hn : n < c) (hi : i < c) : wr off m n c (Tk off n c (i + 1)) = 48 + dd m i := by
  unfold wr Tk
  by_cases h : i + 1 ≤ n ∧ 0 < n
  · rw [if_pos h, if_neg (by omega), if_neg (by omega), if_pos (by omega), show off + c - (off + (c - (i + 1)) + 1) = i by omega]
  · rw [if_neg h, if_neg (by omega), if_neg (by omega), if_neg (by omega), show off + c - 1 - (off + (c - (i + 1)) + 0) = i by omega]
theorem wr_p {off m n c : Nat} (hn : n < c) (h0 : 0 < n) : wr off m n c (Tk off n c (n + 1) + 1) = 46 := by
  unfold wr Tk
  rw [if_neg (by omega : ¬ (n + 1 ≤ n ∧ 0 < n)), if_neg (by omega), if_pos (by omega)]
def lS (s : Sx) (T : Nat) (f : Nat → Nat) : Sx := (s.1, s.2.1, sW s, (T, f))
theorem i8 {c : Nat} (h : c < 128) : (iZ (c : Int)).toInt8.toInt32.toInt8.toInt32 = iZ (c : Int) := by
  have e : ∀ k : Nat, k < 128 → (iZ (k : Int)).toInt8.toInt32.toInt8.toInt32 = iZ (k : Int) := by decide +kernel
  exact e c h
theorem append_s {M : me_M} {A T c : Nat} {s : Sx} {f : Nat → Nat} {vs : Nat → Nat} {vf rf ff : Nat → Option Nat} {lf df : Nat → Int32} (h : PG M A (lS s T f) vs vf rf ff lf df) (hT : T < 216) (hc : c < 128) (hf : f T = c) :
    ∃ (M' : me_M) (lf' : Nat → Int32), f_X0_append [.ref (A + 32), .int (iZ c)] M = some (none, M') ∧ PG M' A (lS s (T + 1) f) vs vf rf ff lf' df ∧ GF M M' A := by
  have P := h.lt (lf' := upd lf T (iZ c)) (df' := df) (s' := lS s (T + 1) f) rfl rfl rfl (by show T + 1 ≤ 216; omega) (by
    intro j hj
    have hj' : j < T + 1 := hj
    by_cases e : j = T
    · subst e
      rw [upd_s]
      show iZ (c : Int) = iZ ((f j : Nat) : Int)
      rw [hf]
    · rw [upd_n _ _ e]
      exact h.C j (show j < T by omega))
  have ig' : me_int (me_set M (A + 33) (.inl (2, 216, .inl (upd lf T (iZ c))))) 2 (A + 34) = some (216, df) := (mi_ne _ _ _ _ _ (by omega)).trans h.ig
  rw [set_self (me_int_eq ig')] at P
  refine ⟨_, _, ?_, P, (GF.set (by omega)).trans (GF.set (by omega))⟩
  have od : me_obj M 0 (A + 32) = some [.ref (A + 33), .int (iZ (T : Int)), .ref (A + 34)] := h.od
  have od' : me_obj (me_set M (A + 33) (.inl (2, 216, .inl (upd lf T (iZ c))))) 0 (A + 32) = some [.ref (A + 33), .int (iZ (T : Int)), .ref (A + 34)] := (mo_ne _ _ _ _ _ (by omega)).trans od
  rw [e_X0_append]
  simp only [od, bS, g0, g1, vF, len_i h.il (by omega), vI, iZ_nat, h.il, i8 hc]
  rw [if_neg (by rw [iZ_le (by omega) (by omega)]; omega), iZ_clampN (by omega), if_neg (nob (iZ_n0 (by omega)) (by omega))]
  simp only [od', bS, g1, vI, s31, z_p1]
  exact (if_pos (show 1 < 3 by omega)).trans c00
/-- the digits told anew -/
theorem PG.dg {M : me_M} {A : Nat} {s : Sx} {vs : Nat → Nat} {vf rf ff : Nat → Option Nat} {lf df df' : Nat → Int32} (h : PG M A s vs vf rf ff lf df) : PG (me_set M (A + 34) (.inl (2, 216, .inl df'))) A s vs vf rf ff lf df' := by
  have P := h.lt (lf' := lf) (df' := df') (s' := s) rfl rfl rfl h.T h.C
  rw [set_self (me_int_eq h.il)] at P
  have od' : me_obj (me_set M (A + 34) (.inl (2, 216, .inl df'))) 0 (A + 32) = some [.ref (A + 33), .int (iZ (sT s)), .ref (A + 34)] := (mo_ne _ _ _ _ _ (by omega)).trans h.od
  rw [set_self (me_obj_eq od')] at P
  exact P
theorem iZ_div {a b : Nat} (ha : a < 2147483648) (h0 : 0 < b) (hb : b < 2147483648) : iZ (a : Int) / iZ (b : Int) = iZ ((a / b : Nat) : Int) := by
  rw [← nI_iZ, ← nI_iZ, ← nI_iZ]; exact pk_div ha h0 hb
theorem iZ_rem {a b : Nat} (ha : a < 2147483648) (h0 : 0 < b) (hb : b < 2147483648) : iZ (a : Int) - iZ (a : Int) / iZ (b : Int) * iZ (b : Int) = iZ ((a % b : Nat) : Int) := by
  rw [← nI_iZ, ← nI_iZ, ← nI_iZ]; exact pk_rem ha h0 hb
theorem iZ_rem10 {a : Nat} (ha : a < 2147483648) : iZ (a : Int) - iZ (a : Int) / (10 : Int32) * (10 : Int32) = iZ ((a % 10 : Nat) : Int) := iZ_rem (b := 10) ha (by omega) (by omega)
/-- nine digits of a chunk -/
theorem chunk_l {A : Nat} {s : Sx} {vs : Nat → Nat} {vf rf ff : Nat → Option Nat} {lf : Nat → Int32} {x1 m C : Nat} {x2 : Int32} (hC : C + 9 ≤ 216) : ∀ (d i : Nat) (M : me_M) (df : Nat → Int32), d + i = 9 → PG M A s vs vf rf ff lf df → (∀ k, k < C + i → df k = iZ ((48 + dd m k : Nat) : Int)) →
    ∃ (M' : me_M) (df' : Nat → Int32), sm T_X0_splitDigits (32, [(0, .ref (A + 32)), (1, .ref x1), (2, .int x2), (3, .int (iZ ((C + i : Nat) : Int))), (4, .int (iZ ((m / 10 ^ C % 1000000000 / 10 ^ i : Nat) : Int))), (5, .int (iZ i))], [], M, 0, 0) = sm T_X0_splitDigits (2, [(0, .ref (A + 32)), (1, .ref x1), (2, .int x2), (3, .int (iZ ((C + 9 : Nat) : Int)))], [], M', 0, 0) ∧ PG M' A s vs vf rf ff lf df' ∧ (∀ k, k < C + 9 → df' k = iZ ((48 + dd m k : Nat) : Int)) ∧ GF M M' A := by
  intro d
  induction d with
  | zero =>
    intro i M df hd h hk
    have e : i = 9 := by omega
    subst e
    refine ⟨M, df, ?_, h, hk, GF.refl _ _⟩
    rw [e_X0_splitDigits_32, if_pos (by rw [show (9 : Int32) = iZ 9 from rfl, iZ_le (by omega) (by omega)]; omega)]
  | succ d ih =>
    intro i M df hd h hk
    have hb : m / 10 ^ C % 1000000000 < 1000000000 := Nat.mod_lt _ (by decide)
    have hb2 : m / 10 ^ C % 1000000000 / 10 ^ i ≤ m / 10 ^ C % 1000000000 := Nat.div_le_self _ _
    have hdig : m / 10 ^ C % 1000000000 / 10 ^ i % 10 = dd m (C + i) := by
      have e1 : dd (m / 10 ^ C % 10 ^ 9) i = dd (m / 10 ^ C) i := dd_mod (by omega)
      rw [dd_add] at e1
      exact e1
    have hnext : m / 10 ^ C % 1000000000 / 10 ^ i / 10 = m / 10 ^ C % 1000000000 / 10 ^ (i + 1) := by rw [Nat.div_div_eq_div_mul, ← Nat.pow_succ]
    obtain ⟨M', df', f, P, K, G⟩ := ih (i + 1) (me_set M (A + 34) (.inl (2, 216, .inl (upd df (C + i) (iZ ((48 + dd m (C + i) : Nat) : Int)))))) _ (by omega) h.dg (by
      intro k hk'
      by_cases e : k = C + i
      · subst e; rw [upd_s]
      · rw [upd_n _ _ e]; exact hk k (by omega))
    refine ⟨M', df', ?_, P, K, (GF.set (by omega)).trans G⟩
    rw [← f, e_X0_splitDigits_32, if_neg (by rw [show (9 : Int32) = iZ 9 from rfl, iZ_le (by omega) (by omega)]; omega)]
    simp only [h.od, bS, h2, vF, h.ig]
    rw [if_neg (by decide : ¬ (10 : Int32) = 0), iZ_clampN (by omega), if_neg (nob (iZ_n0 (by omega)) (by omega)), if_neg (by decide : ¬ (10 : Int32) = 0), iZ_rem10 (by omega), hdig, show (48 : Int32) = iZ ((48 : Nat) : Int) from rfl, z_pi, i8 (by have := dd_lt m (C + i); omega), show (10 : Int32) = iZ ((10 : Nat) : Int) from rfl, iZ_div (by omega) (by omega) (by omega), hnext, z_p1, z_p1]
    rfl
theorem cut_l {M : me_M} {A : Nat} {s : Sx} {vs : Nat → Nat} {vf rf ff : Nat → Option Nat} {lf df : Nat → Int32} {m n : Nat} (h : PG M A s vs vf rf ff lf df) (hn : n ≤ 30) : ∀ C : Nat, n + 1 ≤ C → C ≤ 216 → m < 10 ^ C → (∀ k, k < C → df k = iZ ((48 + dd m k : Nat) : Int)) →
    ∃ c : Nat, sm T_X0_splitDigits (92, [(0, .ref (A + 32)), (2, .int (iZ ((n + 1 : Nat) : Int))), (3, .int (iZ C))], [], M, 0, 0) = some (some (.int (iZ c)), M) ∧ Dc m n c ∧ c ≤ C := by
  intro C
  induction C with
  | zero => intro h1; omega
  | succ C ih =>
    intro h1 hb h3 h4
    rw [e_X0_splitDigits_92]
    by_cases e : C + 1 ≤ n + 1
    · rw [if_pos (by rw [iZ_le (by omega) (by omega)]; omega), c00]
      exact ⟨C + 1, rfl, ⟨h1, h3, Or.inl (by omega)⟩, Nat.le_refl _⟩
    · rw [if_neg (by rw [iZ_le (by omega) (by omega)]; omega)]
      have e1 : iZ ((C + 1 : Nat) : Int) - 1 = iZ (C : Int) := by rw [z_1, iZ_sub]; congr 1; omega
      have e2 : iZ ((C + 1 : Nat) : Int) + -1 = iZ (C : Int) := by rw [show (-1 : Int32) = iZ (-1) from rfl, iZ_add]; congr 1; omega
      simp only [h.od, bS, h2, vF, h.ig, e1, e2]
      have hC := h4 C (by omega)
      rw [iZ_clampN (by omega), if_neg (nob (iZ_n0 (by omega)) (by omega))]
      have hd := dd_lt m C
      by_cases z : dd m C = 0
      · rw [if_pos (by rw [hC, z]; rfl)]
        obtain ⟨c, f, D, l⟩ := ih (by omega) (by omega) (dd_top h3 z) (fun k hk => h4 k (by omega))
        exact ⟨c, f, D, by omega⟩
      · rw [if_neg (by rw [hC, show (48 : Int32) = iZ 48 from rfl, iZ_eq (by omega) (by omega)]; omega), c00]
        exact ⟨C + 1, rfl, ⟨h1, h3, Or.inr (by rw [Nat.add_sub_cancel]; exact dd_ge z)⟩, Nat.le_refl _⟩
theorem pad_l {A : Nat} {s : Sx} {vs : Nat → Nat} {vf rf ff : Nat → Option Nat} {lf : Nat → Int32} {m n : Nat} (hn : n ≤ 30) : ∀ (d C : Nat) (M : me_M) (df : Nat → Int32), n + 1 ≤ d + C → C ≤ 216 → PG M A s vs vf rf ff lf df → m < 10 ^ C → (∀ k, k < C → df k = iZ ((48 + dd m k : Nat) : Int)) →
    ∃ (M' : me_M) (df' : Nat → Int32) (c : Nat), sm T_X0_splitDigits (73, [(0, .ref (A + 32)), (2, .int (iZ ((n + 1 : Nat) : Int))), (3, .int (iZ C))], [], M, 0, 0) = some (some (.int (iZ c)), M') ∧ Dc m n c ∧ PG M' A s vs vf rf ff lf df' ∧ (∀ k, k < c → df' k = iZ ((48 + dd m k : Nat) : Int)) ∧ GF M M' A := by
  intro d
  induction d with
  | zero =>
    intro C M df hd hC h hm hk
    rw [e_X0_splitDigits_73, if_pos (by rw [iZ_le (by omega) (by omega)]; omega)]
    obtain ⟨c, f, D, l⟩ := cut_l h hn C (by omega) hC hm hk
    exact ⟨M, df, c, f, D, h, fun k z => hk k (by omega), GF.refl _ _⟩
  | succ d ih =>
    intro C M df hd hC h hm hk
    rw [e_X0_splitDigits_73]
    by_cases e : n + 1 ≤ C
    · rw [if_pos (by rw [iZ_le (by omega) (by omega)]; omega)]
      obtain ⟨c, f, D, l⟩ := cut_l h hn C (by omega) hC hm hk
      exact ⟨M, df, c, f, D, h, fun k z => hk k (by omega), GF.refl _ _⟩
    · rw [if_neg (by rw [iZ_le (by omega) (by omega)]; omega)]
      simp only [h.od, bS, h2, vF, h.ig]
      rw [iZ_clampN (by omega), if_neg (nob (iZ_n0 (by omega)) (by omega)), z_p1, show (48 : Int32).toInt8.toInt32 = iZ ((48 + dd m C : Nat) : Int) by rw [dd_z hm]; rfl]
      obtain ⟨M', df', c, f, D, P, K, G⟩ := ih (C + 1) _ _ (by omega) (by omega) (h.dg (df' := upd df C (iZ ((48 + dd m C : Nat) : Int)))) (Nat.lt_of_lt_of_le hm (p10_le (by omega))) (by
        intro k z
        by_cases ek : k = C
        · subst ek; rw [upd_s]
        · rw [upd_n _ _ ek]; exact hk k (by omega))
      exact ⟨M', df', c, f, D, P, K, (GF.set (by omega)).trans G⟩
theorem split_l {A : Nat} {s : Sx} {vf rf ff : Nat → Option Nat} {lf : Nat → Int32} {m n : Nat} (hn : n ≤ 30) (hm : m < 10 ^ 191) : ∀ (d j : Nat) (M : me_M) (vs : Nat → Nat) (df : Nat → Int32), d + j = 22 → PG M A s vs vf rf ff lf df → vs 7 = m / 10 ^ (9 * j) → (∀ k, k < 9 * j → df k = iZ ((48 + dd m k : Nat) : Int)) →
    ∃ (M' : me_M) (vs' : Nat → Nat) (df' : Nat → Int32) (c : Nat), sm T_X0_splitDigits (2, [(0, .ref (A + 32)), (1, .ref (A + 1 + 22)), (2, .int (iZ ((n + 1 : Nat) : Int))), (3, .int (iZ ((9 * j : Nat) : Int)))], [], M, 0, 0) = some (some (.int (iZ c)), M') ∧ Dc m n c ∧ PG M' A s vs' vf rf ff lf df' ∧ (∀ k, k < c → df' k = iZ ((48 + dd m k : Nat) : Int)) ∧ GF M M' A := by
  intro d
  induction d with
  | zero =>
    intro j M vs df hd h hv hk
    have e : j = 22 := by omega
    subst e
    have e0 : m / 10 ^ (9 * 22) = 0 := Nat.div_eq_of_lt (Nat.lt_of_lt_of_le hm (p10_le (by omega)))
    obtain ⟨z, o1, o2, o3, _⟩ := (h.rk.at 7 (w := A + 1 + 22) (by omega) (by omega)).obj
    have z0 : z = 0 := o3.mpr (by rw [hv, e0])
    rw [e_X0_splitDigits_2]
    simp only [o1, bS, g1, vI]
    rw [if_pos (by rw [z_0, iZ_le (by omega) (by omega)]; omega)]
    obtain ⟨M', df', c, f, D, P, K, G⟩ := pad_l hn (n + 1) (9 * 22) M df (by omega) (by omega) h (Nat.lt_of_lt_of_le hm (p10_le (by omega))) hk
    exact ⟨M', vs, df', c, f, D, P, K, G⟩
  | succ d ih =>
    intro j M vs df hd h hv hk
    have hw := h.rk.at 7 (w := A + 1 + 22) (by omega) (by omega)
    obtain ⟨z, o1, o2, o3, _⟩ := hw.obj
    rw [e_X0_splitDigits_2]
    simp only [o1, bS, g1, vI]
    by_cases z0 : z = 0
    · rw [if_pos (by rw [z_0, iZ_le (by omega) (by omega)]; omega)]
      have hlt : m < 10 ^ (9 * j) := by
        have e0 := o3.mp z0
        rw [hv] at e0
        rcases Nat.lt_or_ge m (10 ^ (9 * j)) with k | k
        · exact k
        · have := Nat.div_pos k (Nat.pow_pos (by decide)); omega
      obtain ⟨M', df', c, f, D, P, K, G⟩ := pad_l hn (n + 1) (9 * j) M df (by omega) (by omega) h hlt hk
      exact ⟨M', vs, df', c, f, D, P, K, G⟩
    · rw [if_neg (by rw [z_0, iZ_le (by omega) (by omega)]; omega)]
      simp only [h.od, bS, h2, vF, len_i h.ig (by omega : 2 < 5), iZ_nat]
      rw [if_neg (by rw [show (9 : Int32) = iZ ((9 : Nat) : Int) from rfl, z_pi, iZ_lt (by omega) (by omega)]; omega)]
      obtain ⟨N, f, W, F⟩ := shrinkW hw (d := 1000000000) (by decide) (by decide)
      obtain ⟨R1, K1⟩ := h.rk.opw 7 (by omega) (by omega) W F
      have P1 := h.fk R1 K1
      rw [show (1000000000 : Int32) = iZ ((1000000000 : Nat) : Int) from rfl, f]
      simp only [bS, vI]
      rw [hv]
      have c1 := chunk_l (A := A) (s := s) (vs := up vs 7 (vs 7 / 1000000000)) (vf := vf) (rf := rf) (ff := ff) (lf := lf) (x1 := A + 1 + 22) (m := m) (C := 9 * j) (x2 := iZ ((n + 1 : Nat) : Int)) (by omega) 9 0 N df (by omega) P1 hk
      obtain ⟨N2, df2, f2, P2, k2, G2⟩ := c1
      obtain ⟨M', vs', df', c, f3, D, P3, K3, G3⟩ := ih (j + 1) N2 _ df2 (by omega) P2 (by rw [up_s, hv, Nat.div_div_eq_div_mul, show (1000000000 : Nat) = 10 ^ 9 from rfl, ← Nat.pow_add]; rfl) (fun k z => k2 k (by omega))
      refine ⟨M', vs', df', c, ?_, D, P3, K3, (K1.gf.trans G2).trans G3⟩
      rw [show 9 * (j + 1) = 9 * j + 9 by omega, ← f2, Nat.pow_zero, Nat.div_one] at f3
      exact f3
theorem write_38 {A : Nat} {s : Sx} {vs : Nat → Nat} {vf rf ff : Nat → Option Nat} {df : Nat → Int32} {m n c off : Nat} (hn : n < c) (hn2 : n ≤ 30) (hc : c ≤ 191) (ho : off ≤ 1) (hk : ∀ k, k < c → df k = iZ ((48 + dd m k : Nat) : Int)) : ∀ (k : Nat) (M : me_M) (lf : Nat → Int32), k ≤ c → PG M A (lS s (Tk off n c k) (wr off m n c)) vs vf rf ff lf df →
    ∃ (M' : me_M) (lf' : Nat → Int32), sm T_X0_write (38, [(0, .ref (A + 32)), (3, .int (iZ n)), (5, .int (iZ ((k : Int) - 1)))], [], M, 0, 0) = some (none, M') ∧ PG M' A (lS s (Tk off n c 0) (wr off m n c)) vs vf rf ff lf' df ∧ GF M M' A := by
  intro k
  induction k with
  | zero =>
    intro M lf hk' h
    refine ⟨M, lf, ?_, h, GF.refl _ _⟩
    rw [e_X0_write_38, if_pos (by rw [z_0, iZ_lt (by omega) (by omega)]; omega), c00]
  | succ i ih =>
    intro M lf hk' h
    have hT : Tk off n c (i + 1) < 216 := by unfold Tk; split <;> omega
    have e0 : ((i + 1 : Nat) : Int) - 1 = (i : Int) := by omega
    have e2 : iZ (i : Int) + -1 = iZ ((i : Int) - 1) := by rw [show (-1 : Int32) = iZ (-1) from rfl, iZ_add]; congr 1
    obtain ⟨N, lf1, f1, P1, G1⟩ := append_s (c := 48 + dd m i) h hT (by have := dd_lt m i; omega) (wr_d hn (by omega))
    rw [e0, e_X0_write_38, if_neg (iZ_n0 (by omega))]
    simp only [h.od, bS, h2, vF, h.ig]
    rw [iZ_clampN (by omega), if_neg (nob (iZ_n0 (by omega)) (by omega)), hk i (by omega), f1]
    simp only [bS, cNn, e2]
    by_cases e : i = n
    · subst e
      rw [if_pos rfl]
      by_cases e9 : i = 0
      · subst e9
        rw [if_pos (by rw [z_0, iZ_le (by omega) (by omega)]; omega)]
        have et : Tk off 0 c (0 + 1) + 1 = Tk off 0 c 0 := by unfold Tk; rw [if_neg (by omega), if_neg (by omega)]; omega
        rw [et] at P1
        obtain ⟨M', lf', f', P', G'⟩ := ih N lf1 (by omega) P1
        exact ⟨M', lf', f', P', G1.trans G'⟩
      · rw [if_neg (by rw [z_0, iZ_le (by omega) (by omega)]; omega)]
        have hT2 : Tk off i c (i + 1) + 1 < 216 := by unfold Tk; rw [if_neg (by omega)]; omega
        obtain ⟨N2, lf2, f2, P2, G2⟩ := append_s (c := 46) P1 hT2 (by omega) (wr_p hn (by omega))
        have od1 := P1.od
        rw [show (46 : Int32) = iZ ((46 : Nat) : Int) from rfl, f2]
        simp only [od1, bS, cNn]
        have et : Tk off i c (i + 1) + 1 + 1 = Tk off i c i := by unfold Tk; rw [if_neg (by omega), if_pos (by omega)]; omega
        rw [et] at P2
        obtain ⟨M', lf', f', P', G'⟩ := ih N2 lf2 (by omega) P2
        exact ⟨M', lf', f', P', (G1.trans G2).trans G'⟩
    · rw [if_neg (by rw [iZ_eq (by omega) (by omega)]; omega)]
      have et : Tk off n c (i + 1) + 1 = Tk off n c i := by
        unfold Tk
        by_cases z : i ≤ n ∧ 0 < n
        · rw [if_pos (by omega), if_pos z]; omega
        · rw [if_neg (by omega), if_neg z]; omega
      rw [et] at P1
      obtain ⟨M', lf', f', P', G'⟩ := ih N lf1 (by omega) P1
      exact ⟨M', lf', f', P', G1.trans G'⟩
theorem write_22 {M : me_M} {A : Nat} {s : Sx} {vs : Nat → Nat} {vf rf ff : Nat → Option Nat} {lf df : Nat → Int32} {m n off : Nat} (hn : n ≤ 30) (hm : m < 10 ^ 191) (ho : off ≤ 1) (hv : vs 7 = m) (h : PG M A (lS s off (wr off m n (dc m n))) vs vf rf ff lf df) :
    ∃ (M' : me_M) (vs' : Nat → Nat) (lf' df' : Nat → Int32), sm T_X0_write (22, [(0, .ref (A + 32)), (2, .ref (A + 1 + 22)), (3, .int (iZ n))], [], M, 0, 0) = some (none, M') ∧ PG M' A (lS s (Tk off n (dc m n) 0) (wr off m n (dc m n))) vs' vf rf ff lf' df' ∧ GF M M' A := by
  obtain ⟨N, vs', df', c, f, D, P, K, G⟩ := split_l hn hm 22 0 M vs df (by omega) h (by rw [hv, Nat.mul_zero, Nat.pow_zero, Nat.div_one]) (fun k z => absurd z (by omega))
  have ec : c = dc m n := D.uniq (dc_s hm)
  subst ec
  have hc := D.le hm hn
  have et : off = Tk off n (dc m n) (dc m n) := by
    unfold Tk
    rw [if_neg (by have := D.1; omega)]
    omega
  have P' : PG N A (lS s (Tk off n (dc m n) (dc m n)) (wr off m n (dc m n))) vs' vf rf ff lf df' := by rw [← et]; exact P
  obtain ⟨M', lf', f', P2, G2⟩ := write_38 (by have := D.1; omega) hn hc ho K (dc m n) N lf (Nat.le_refl _) P'
  refine ⟨M', vs', lf', df', ?_, P2, G.trans G2⟩
  rw [e_X0_write_22]
  simp only [h.od, bS, z_p1]
  rw [e_X0_splitDigits]
  have f0 : sm T_X0_splitDigits (2, [(0, .ref (A + 32)), (1, .ref (A + 1 + 22)), (2, .int (iZ ((n + 1 : Nat) : Int))), (3, .int (0 : Int32))], [], M, 0, 0) = some (some (.int (iZ (dc m n))), N) := f
  rw [f0]
  simp only [bS, vI]
  rw [z_1, iZ_sub]
  exact f'
theorem PG.l0 {M : me_M} {A : Nat} {s : Sx} {vs : Nat → Nat} {vf rf ff : Nat → Option Nat} {lf df : Nat → Int32} (h : PG M A s vs vf rf ff lf df) (f : Nat → Nat) : PG (me_set M (A + 32) (.inr (0, [.ref (A + 33), .int 0, .ref (A + 34)]))) A (lS s 0 f) vs vf rf ff lf df := by
  have P := h.lt (lf' := lf) (df' := df) (s' := lS s 0 f) rfl rfl rfl (by show 0 ≤ 216; omega) (fun j z => absurd z (Nat.not_lt_zero j))
  rw [set_self (me_int_eq h.il), set_self (me_int_eq h.ig)] at P
  exact P
theorem l31 {α : Type} {x y z : Value} {a b : α} : (if 1 < [x, y, z].length then a else b) = a := if_pos (show 1 < 3 by omega)
theorem write_s {M : me_M} {A : Nat} {s : Sx} {vs : Nat → Nat} {vf rf ff : Nat → Option Nat} {lf df : Nat → Int32} {m n : Nat} {neg : Prop} [Decidable neg] (hn : n ≤ 30) (hm : m < 10 ^ 191) (hv : vs 7 = m) (h : PG M A s vs vf rf ff lf df) :
    ∃ (M' : me_M) (vs' : Nat → Nat) (lf' df' : Nat → Int32), f_X0_write [.ref (A + 32), .int (if neg then 1 else 0), .ref (A + 1 + 22), .int (iZ n)] M = some (none, M') ∧ PG M' A (lS s (Tk (if neg ∧ 0 < m then 1 else 0) n (dc m n) 0) (wr (if neg ∧ 0 < m then 1 else 0) m n (dc m n))) vs' vf rf ff lf' df' ∧ GF M M' A := by
  rw [e_X0_write]
  simp only [h.od, bS, s31, l31]
  have P0 := h.l0 (wr (if neg ∧ 0 < m then 1 else 0) m n (dc m n))
  obtain ⟨z, o1, o2, o3, _⟩ := (P0.rk.at 7 (w := A + 1 + 22) (by omega) (by omega)).obj
  rw [hv] at o3
  have G0 : GF M (me_set M (A + 32) (.inr (0, [.ref (A + 33), .int 0, .ref (A + 34)]))) A := GF.set (by omega)
  by_cases hg : neg
  · rw [if_pos hg, if_neg i10]
    simp only [o1, bS, g1, vI]
    by_cases h0 : m = 0
    · have ez : (if neg ∧ 0 < m then 1 else 0) = 0 := if_neg (by omega)
      rw [ez] at P0 ⊢
      obtain ⟨M', vs', lf', df', f, P, G⟩ := write_22 hn hm (by omega) hv P0
      refine ⟨M', vs', lf', df', ?_, P, G0.trans G⟩
      rw [if_pos (by rw [z_0, iZ_le (by omega) (by omega)]; have := o3.mpr h0; omega)]
      exact f
    · have ez : (if neg ∧ 0 < m then 1 else 0) = 1 := if_pos ⟨hg, by omega⟩
      rw [ez] at P0 ⊢
      obtain ⟨N, lf1, f1, P1, G1⟩ := append_s (c := 45) P0 (by omega) (by omega) (by unfold wr; rw [if_pos (by omega)])
      obtain ⟨M', vs', lf', df', f, P, G⟩ := write_22 hn hm (by omega) hv P1
      refine ⟨M', vs', lf', df', ?_, P, (G0.trans G1).trans G⟩
      rw [if_neg (by rw [z_0, iZ_le (by omega) (by omega)]; have := o3.mp; omega), show (45 : Int32) = iZ ((45 : Nat) : Int) from rfl, f1]
      simp only [mo_set, bS, cNn]
      exact f
  · have ez : (if neg ∧ 0 < m then 1 else 0) = 0 := if_neg (fun z => hg z.1)
    rw [ez] at P0 ⊢
    obtain ⟨M', vs', lf', df', f, P, G⟩ := write_22 hn hm (by omega) hv P0
    refine ⟨M', vs', lf', df', ?_, P, G0.trans G⟩
    rw [if_neg hg, if_pos rfl]
    exact f
theorem many_lt {a : Qn} {n e : Nat} (h : Fits a) (hb : 0 < a.2.2) (hn : n ≤ 30) : qMany a n e < 10 ^ 191 := by
  unfold qMany
  have h1 : 10 ^ n * a.2.1 / a.2.2 ≤ 10 ^ n * a.2.1 := Nat.div_le_self _ _
  have h2 : 2 ^ 512 ≤ 10 ^ 160 := by
    rw [show 2 ^ 512 = (2 ^ 64) ^ 8 from (Nat.pow_mul 2 64 8), show 10 ^ 160 = (10 ^ 20) ^ 8 from (Nat.pow_mul 10 20 8)]
    exact Nat.pow_le_pow_left (by decide) 8
  have h3 : 10 ^ n * a.2.1 ≤ 10 ^ 30 * 10 ^ 160 := Nat.mul_le_mul (p10_le hn) (Nat.le_of_lt (Nat.lt_of_lt_of_le h.1 h2))
  rw [← Nat.pow_add] at h3
  have h4 : 10 ^ 191 = 10 ^ 190 * 10 := Nat.pow_succ 10 190
  have h5 : 0 < 10 ^ 190 := Nat.pow_pos (by decide)
  have h6 : (if 10 ^ n * a.2.1 % a.2.2 ≠ 0 ∧ (e = 1 ↔ 0 < a.1) then 1 else 0) ≤ 1 := by split <;> omega
  have h7 : 10 ^ n * a.2.1 ≤ 10 ^ 190 := h3
  omega
def dcS (s : Sx) (a : Qn) (n e : Nat) : Sx := lS s (Tk (if a.1 < 0 ∧ 0 < qMany a n e then 1 else 0) n (dc (qMany a n e) n) 0) (wr (if a.1 < 0 ∧ 0 < qMany a n e then 1 else 0) (qMany a n e) n (dc (qMany a n e) n))
def tDe (s : Sx) (x n e : Int32) : Int32 × Sx := if isV (sN s) x ∧ isV 31 n ∧ isV 2 e then (iZ (sT (dcS s (sV s x.toNatClampNeg) n.toNatClampNeg e.toNatClampNeg)), dcS s (sV s x.toNatClampNeg) n.toNatClampNeg e.toNatClampNeg) else (-2, s)
theorem dec_47 {M : me_M} {A p n e : Nat} {s : Sx} {vs : Nat → Nat} {vf rf ff : Nat → Option Nat} {lf df : Nat → Int32} {x : Int32} {a : Qn} (h : PG M A s vs vf rf ff lf df) (hx : isV (sN s) x) (ev : vf x.toNatClampNeg = some p) (F : Fx M (A + 1) p a) (hn : n ≤ 30) (he : e ≤ 1) :
    Ac M A (sm T_X6_decimal (47, [(0, .ref A), (1, .int x), (2, .int (iZ n)), (3, .int (iZ e))], [.int (if a.1 < 0 then 1 else 0)], M, 0, 0)) (iZ (sT (dcS s a n e)), dcS s a n e) := by
  have hb := h.n
  obtain ⟨N, ws, f, hw, kN, _, e7⟩ := mult_s h.rk F hn he
  have hNg := h.fk hw kN
  obtain ⟨M', vs', lf', df', f2, P, G⟩ := write_s (neg := a.1 < 0) hn (many_lt F.2.2.1 F.2.1.2.2.1 hn) e7 hNg
  have od := hNg.od
  rw [e_X6_decimal_47]
  simp only [h.o, bS, pf0, pf1, pf2, vF, h.rv]
  rw [if_neg (hx.no hb (by omega))]
  simp only [ev, rfS, h.rk.o, bS, f, vN, od, f2, cNn, P.o, pf1, vF, P.od, g1, vI]
  exact ⟨M', c00, ⟨vs', vf, rf, ff, lf', df', P⟩, kN.gf.trans G⟩
theorem decimalV_s {M : me_M} {A : Nat} {s : Sx} {x n e : Int32} (h : PF M A s) : Ac M A (f_X6_decimal [.ref A, .int x, .int n, .int e] M) (tDe s x n e) := by
  have hP := h
  obtain ⟨vs, vf, rf, ff, lf, df, h⟩ := h
  have hb := h.n
  obtain ⟨X, en, b1, b2, t⟩ := i_rep n
  obtain ⟨Y, ee, y1, y2, u⟩ := i_rep e
  rw [e_X6_decimal]
  simp only [h.o, bS, isValue_s h.o h.n, vI, pf2, vF, h.rv]
  by_cases hx : isV (sN s) x
  · rw [if_pos hx, if_neg i10]
    by_cases h1 : X < 0
    · rw [if_pos (by rw [en, z_0, iZ_lt (by omega) (by omega)]; exact h1), show tDe s x n e = (-2, s) from if_neg (fun z => by have := z.2.1.1; omega)]
      exact ⟨M, c00, hP, GF.refl _ _⟩
    · rw [if_neg (by rw [en, z_0, iZ_lt (by omega) (by omega)]; exact h1)]
      by_cases h2 : 30 < X
      · rw [if_pos (by rw [en, show (30 : Int32) = iZ 30 from rfl, iZ_lt (by omega) (by omega)]; exact h2), show tDe s x n e = (-2, s) from if_neg (fun z => by have := z.2.1.2; omega)]
        exact ⟨M, c00, hP, GF.refl _ _⟩
      · rw [if_neg (by rw [en, show (30 : Int32) = iZ 30 from rfl, iZ_lt (by omega) (by omega)]; exact h2)]
        by_cases h3 : Y < 0
        · rw [if_pos (by rw [ee, z_0, iZ_lt (by omega) (by omega)]; exact h3), show tDe s x n e = (-2, s) from if_neg (fun z => by have := z.2.2.1; omega)]
          exact ⟨M, c00, hP, GF.refl _ _⟩
        · rw [if_neg (by rw [ee, z_0, iZ_lt (by omega) (by omega)]; exact h3)]
          by_cases h4 : Y ≤ 1
          · rw [if_pos (by rw [ee, z_1, iZ_le (by omega) (by omega)]; exact h4), if_neg (hx.no hb (by omega)), show tDe s x n e = _ from if_pos ⟨hx, by constructor <;> omega, by constructor <;> omega⟩]
            obtain ⟨p, ev, F⟩ := h.val hx
            obtain ⟨_, _, _, _, oa, _⟩ := F.ob
            obtain ⟨n', n1, n2, n3⟩ := isV.ix (n := 31) (x := n) (by constructor <;> omega) (by omega)
            obtain ⟨e', e1, e2, e3⟩ := isV.ix (n := 2) (x := e) (by constructor <;> omega) (by omega)
            rw [n3, e3]
            have g := dec_47 h hx ev F (show n' ≤ 30 by omega) (show e' ≤ 1 by omega)
            simp only [ev, rfS, vF, bS, oa, g0, vI, n2, e2]
            have hs := F.2.1.1
            by_cases hz : (sV s x.toNatClampNeg).1 < 0
            · rw [if_neg (by rw [z_0, iZ_le (by omega) (by omega)]; omega)]
              rw [if_pos hz] at g
              exact g
            · rw [if_pos (by rw [z_0, iZ_le (by omega) (by omega)]; omega)]
              rw [if_neg hz] at g
              exact g
          · rw [if_neg (by rw [ee, z_1, iZ_le (by omega) (by omega)]; exact h4), show tDe s x n e = (-2, s) from if_neg (fun z => by have := z.2.2.2; omega)]
            exact ⟨M, c00, hP, GF.refl _ _⟩
  · rw [if_neg hx, if_pos rfl, show tDe s x n e = (-2, s) from if_neg (fun z => hx z.1)]
    exact ⟨M, c00, hP, GF.refl _ _⟩
