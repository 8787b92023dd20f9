/-! the reference: acts on Fractions -/
def fi (q : Qn) : Int32 := if q.2.1 < 2 ^ 512 ∧ q.2.2 < 2 ^ 512 then 1 else 0
theorem fi01 (q : Qn) : fi q = 0 ∨ fi q = 1 := i01
theorem p512 {v : Nat} (h : v < 2 ^ 512) : v < 2 ^ (16 * 32) := h
theorem pw16 {v m n : Nat} (h : v < 2 ^ (16 * m)) (hm : m ≤ n) : v < 2 ^ (16 * n) := Nat.lt_of_lt_of_le h (pw_le 16 hm)
theorem pm16 {u v : Nat} (m n : Nat) (h : u < 2 ^ (16 * m)) (h2 : v < 2 ^ (16 * n)) : u * v < 2 ^ (16 * (m + n)) := by
  rw [Nat.mul_add, Nat.pow_add]
  exact Nat.mul_lt_mul'' h h2
theorem fin_g {M M1 : me_M} {B : Nat} {reg reg1 : Nat → Nat} {sg sg1 : Nat → Int} {q : Qn} (h : MS M1 B reg1 sg1) (hF : FS M M1 B) (h18 : reg1 18 = 1) (hD : 0 < reg1 1) (hs : reg1 0 ≠ 0 → sg1 0 = 1 ∨ sg1 0 = -1) (hr : ∀ w, w ≠ 0 → w ≠ 1 → (w < 10 ∨ 15 < w) → reg1 w = reg w) (hg : ∀ g, g ≠ 0 → sg1 g = sg g) (hq : rd (sg1 0 * (reg1 0 : Int)) (reg1 1) = q) :
    ∃ (M' : me_M) (reg' : Nat → Nat) (sg' : Nat → Int), f_X7_least [.ref B, .int (0 : Int32)] M1 = some (some (.int (fi q)), M') ∧ Lq M M' B 0 reg reg' sg sg' q := by
  obtain ⟨M', reg', sg', f, L1, L2, L3, L4, L5⟩ := least_g (f := 0) h (by omega) h18 hD hs
  have f' : f_X7_least [.ref B, .int (0 : Int32)] M1 = _ := f
  have hq' : rd (sg1 0 * (reg1 (2 * 0) : Int)) (reg1 (2 * 0 + 1)) = q := hq
  rw [hq'] at f' L3
  exact ⟨M', reg', sg', f', L1, hF.trans L2, L3, fun w k1 k2 k3 => (L4 w k1 k2 k3).trans (hr w k1 k2 k3), fun g k => (L5 g k).trans (hg g k)⟩
theorem z21 (f : Nat) : (2 : Int32) * iZ (f : Int) + 1 = iZ ((2 * f + 1 : Nat) : Int) := by rw [z2, z_p1]
theorem across_g {M : me_M} {B x y : Nat} {reg : Nat → Nat} (h : RG M B reg) (hx : x < 4) (hy : y < 4) (hx1 : reg (2 * x) < 2 ^ 512) (hx2 : reg (2 * x + 1) < 2 ^ 512) (hy1 : reg (2 * y) < 2 ^ 512) (hy2 : reg (2 * y + 1) < 2 ^ 512) :
    ∃ M1 : me_M, f_X7_across [.ref B, .int (iZ x), .int (iZ y)] M = some (none, M1) ∧ RG M1 B (up (up reg 10 (reg (2 * x) * reg (2 * y + 1))) 11 (reg (2 * y) * reg (2 * x + 1))) ∧ FM M M1 B := by
  obtain ⟨M1, f1, P1, F1⟩ := mul_g (z := 10) (x := 2 * x) (y := 2 * y + 1) 32 32 h (by omega) (by omega) (by omega) (by omega) (by omega) (p512 hx1) (p512 hy2) (by omega)
  obtain ⟨M2, f2, P2, F2⟩ := mul_g (z := 11) (x := 2 * y) (y := 2 * x + 1) 32 32 P1 (by omega) (by omega) (by omega) (by omega) (by omega) (by rw [up_n _ _ (by omega)]; exact p512 hy1) (by rw [up_n _ _ (by omega)]; exact p512 hx2) (by omega)
  rw [up_n (i := 10) (j := 2 * y) _ _ (by omega), up_n (i := 10) (j := 2 * x + 1) _ _ (by omega)] at P2
  refine ⟨M2, ?_, P2, F1.trans F2⟩
  have f1' : f_X7_multiply [.ref B, .int (10 : Int32), .int (iZ ((2 * x : Nat) : Int)), .int (iZ ((2 * y + 1 : Nat) : Int))] M = _ := f1
  have f2' : f_X7_multiply [.ref B, .int (11 : Int32), .int (iZ ((2 * y : Nat) : Int)), .int (iZ ((2 * x + 1 : Nat) : Int))] M1 = _ := f2
  rw [e_X7_across, z21, z21, z2, z2, h.i0, f1']
  simp only [bS, cNn]
  rw [P1.i0, f2']
  simp only [bS, cNn]
  exact c00
theorem product_g {M : me_M} {B x y : Nat} {reg : Nat → Nat} {sg : Nat → Int} {a b : Qn} (h : MS M B reg sg) (hx : x < 4) (hy : y < 4) (hx0 : 0 < x) (hy0 : 0 < y) (h18 : reg 18 = 1) (ha : Fq reg sg x a) (hb : Fq reg sg y b) (na : Nf a) (nb : Nf b) (fa : Fits a) (fb : Fits b) :
    ∃ (M' : me_M) (reg' : Nat → Nat) (sg' : Nat → Int), f_X7_product [.ref B, .int (iZ x), .int (iZ y)] M = some (some (.int (fi (qMul a b))), M') ∧ Lq M M' B 0 reg reg' sg sg' (qMul a b) := by
  obtain ⟨a1, a2, a3⟩ := ha
  obtain ⟨b1, b2, b3⟩ := hb
  obtain ⟨M1, f1, P1, F1⟩ := mul_g (z := 0) (x := 2 * x) (y := 2 * y) 32 32 h.1 (by omega) (by omega) (by omega) (by omega) (by omega) (by rw [a2]; exact p512 fa.1) (by rw [b2]; exact p512 fb.1) (by omega)
  obtain ⟨M2, f2, P2, F2⟩ := mul_g (z := 1) (x := 2 * x + 1) (y := 2 * y + 1) 32 32 P1 (by omega) (by omega) (by omega) (by omega) (by omega) (by rw [up_n _ _ (by omega), a3]; exact p512 fa.2) (by rw [up_n _ _ (by omega), b3]; exact p512 fb.2) (by omega)
  rw [up_n (i := 0) (j := 2 * x + 1) _ _ (by omega), up_n (i := 0) (j := 2 * y + 1) _ _ (by omega), a2, a3, b2, b3] at P2
  have F12 := F1.trans F2
  have m2 := h.fm F12 P2
  obtain ⟨_, sf, s1, s2⟩ := m2
  obtain ⟨t, tl, h0⟩ := (h.fm F12 P2).h
  have m3 := MS.sg (f := 0) (v := a.1 * b.1) P2 s2
  have hval : sf x * sf y = iZ (a.1 * b.1) := by rw [s2 x hx, s2 y hy, a1, b1, iZ_mul]
  have hq : rd (us sg 0 (a.1 * b.1) 0 * ((up (up reg 0 (a.2.1 * b.2.1)) 1 (a.2.2 * b.2.2) 0 : Nat) : Int)) (up (up reg 0 (a.2.1 * b.2.1)) 1 (a.2.2 * b.2.2) 1) = qMul a b := by
    rw [us_s, up_s, up_n (i := 1) (j := 0) _ _ (by omega), up_s]; rfl
  obtain ⟨M', reg', sg', f3, L⟩ := fin_g (M := M) (reg := reg) (sg := sg) m3 (F12.fs.trans FS.s3) (by rw [up_n _ _ (by omega), up_n _ _ (by omega)]; exact h18) (by rw [up_s]; exact Nat.mul_pos na.2.2.1 nb.2.2.1) (by
    rw [us_s, up_n _ _ (by omega), up_s]
    intro hne
    have k1 : a.2.1 ≠ 0 := fun e => hne (by rw [e, Nat.zero_mul])
    have k2 : b.2.1 ≠ 0 := fun e => hne (by rw [e, Nat.mul_zero])
    have k3 : a.1 ≠ 0 := fun e => k1 (na.2.1.mp e)
    have k4 : b.1 ≠ 0 := fun e => k2 (nb.2.1.mp e)
    exact sg_mul (na.1.resolve_left k3) (nb.1.resolve_left k4)) (fun w k1 k2 _ => by rw [up_n _ _ k2, up_n _ _ k1]) (fun g k => us_n _ _ k) hq
  refine ⟨M', reg', sg', ?_, L⟩
  have f1' : f_X7_multiply [.ref B, .int (0 : Int32), .int (iZ ((2 * x : Nat) : Int)), .int (iZ ((2 * y : Nat) : Int))] M = _ := f1
  have f2' : f_X7_multiply [.ref B, .int (1 : Int32), .int (iZ ((2 * x + 1 : Nat) : Int)), .int (iZ ((2 * y + 1 : Nat) : Int))] M1 = _ := f2
  rw [e_X7_product, z21, z21, z2, z2, h.i0, f1']
  simp only [bS, cNn]
  rw [P1.i0, f2']
  simp only [bS, cNn, h0, g3, vF, s1]
  rw [iZ_clampN (by omega : x < 2147483648), iZ_clampN (by omega : y < 2147483648), if_neg (nob (iZ_n0 (by omega)) (by omega)), if_neg (nob (iZ_n0 (by omega)) (by omega)), if_neg (nob n0 (by decide)), cl0, hval, m3.i0, f3]
  simp only [bS, vI]
  rw [e_X7_product_50, if_pos (fi01 _), c00]
theorem quotient_g {M : me_M} {B x y : Nat} {reg : Nat → Nat} {sg : Nat → Int} {a b : Qn} (h : MS M B reg sg) (hx : x < 4) (hy : y < 4) (hx0 : 0 < x) (hy0 : 0 < y) (h18 : reg 18 = 1) (ha : Fq reg sg x a) (hb : Fq reg sg y b) (na : Nf a) (nb : Nf b) (fa : Fits a) (fb : Fits b) (hb0 : b.1 ≠ 0) :
    ∃ (M' : me_M) (reg' : Nat → Nat) (sg' : Nat → Int), f_X7_quotient [.ref B, .int (iZ x), .int (iZ y)] M = some (some (.int (fi (qDiv a b))), M') ∧ Lq M M' B 0 reg reg' sg sg' (qDiv a b) := by
  obtain ⟨a1, a2, a3⟩ := ha
  obtain ⟨b1, b2, b3⟩ := hb
  have hbp : 0 < b.2.1 := Nat.pos_of_ne_zero (fun e => hb0 (nb.2.1.mpr e))
  obtain ⟨M1, f1, P1, F1⟩ := mul_g (z := 0) (x := 2 * x) (y := 2 * y + 1) 32 32 h.1 (by omega) (by omega) (by omega) (by omega) (by omega) (by rw [a2]; exact p512 fa.1) (by rw [b3]; exact p512 fb.2) (by omega)
  obtain ⟨M2, f2, P2, F2⟩ := mul_g (z := 1) (x := 2 * x + 1) (y := 2 * y) 32 32 P1 (by omega) (by omega) (by omega) (by omega) (by omega) (by rw [up_n _ _ (by omega), a3]; exact p512 fa.2) (by rw [up_n _ _ (by omega), b2]; exact p512 fb.1) (by omega)
  rw [up_n (i := 0) (j := 2 * x + 1) _ _ (by omega), up_n (i := 0) (j := 2 * y) _ _ (by omega), a2, a3, b2, b3] at P2
  have F12 := F1.trans F2
  have m2 := h.fm F12 P2
  obtain ⟨_, sf, s1, s2⟩ := m2
  obtain ⟨t, tl, h0⟩ := (h.fm F12 P2).h
  have m3 := MS.sg (f := 0) (v := a.1 * b.1) P2 s2
  have hval : sf x * sf y = iZ (a.1 * b.1) := by rw [s2 x hx, s2 y hy, a1, b1, iZ_mul]
  have hq : rd (us sg 0 (a.1 * b.1) 0 * ((up (up reg 0 (a.2.1 * b.2.2)) 1 (a.2.2 * b.2.1) 0 : Nat) : Int)) (up (up reg 0 (a.2.1 * b.2.2)) 1 (a.2.2 * b.2.1) 1) = qDiv a b := by
    rw [us_s, up_s, up_n (i := 1) (j := 0) _ _ (by omega), up_s]; rfl
  obtain ⟨M', reg', sg', f3, L⟩ := fin_g (M := M) (reg := reg) (sg := sg) m3 (F12.fs.trans FS.s3) (by rw [up_n _ _ (by omega), up_n _ _ (by omega)]; exact h18) (by rw [up_s]; exact Nat.mul_pos na.2.2.1 hbp) (by
    rw [us_s, up_n _ _ (by omega), up_s]
    intro hne
    have k1 : a.2.1 ≠ 0 := fun e => hne (by rw [e, Nat.zero_mul])
    have k3 : a.1 ≠ 0 := fun e => k1 (na.2.1.mp e)
    exact sg_mul (na.1.resolve_left k3) (nb.1.resolve_left hb0)) (fun w k1 k2 _ => by rw [up_n _ _ k2, up_n _ _ k1]) (fun g k => us_n _ _ k) hq
  refine ⟨M', reg', sg', ?_, L⟩
  have f1' : f_X7_multiply [.ref B, .int (0 : Int32), .int (iZ ((2 * x : Nat) : Int)), .int (iZ ((2 * y + 1 : Nat) : Int))] M = _ := f1
  have f2' : f_X7_multiply [.ref B, .int (1 : Int32), .int (iZ ((2 * x + 1 : Nat) : Int)), .int (iZ ((2 * y : Nat) : Int))] M1 = _ := f2
  rw [e_X7_quotient, z21, z21, z2, z2, h.i0, f1']
  simp only [bS, cNn]
  rw [P1.i0, f2']
  simp only [bS, cNn, h0, g3, vF, s1]
  rw [iZ_clampN (by omega : x < 2147483648), iZ_clampN (by omega : y < 2147483648), if_neg (nob (iZ_n0 (by omega)) (by omega)), if_neg (nob (iZ_n0 (by omega)) (by omega)), if_neg (nob n0 (by decide)), cl0, hval, m3.i0, f3]
  simp only [bS, vI]
  rw [e_X7_quotient_50, if_pos (fi01 _), c00]
/-- the end of sum: BELOW, and least terms -/
theorem sum_154 {M M1 : me_M} {B x y : Nat} {reg reg1 : Nat → Nat} {sg sg1 : Nat → Int} {a b q : Qn} (h : MS M1 B reg1 sg1) (hF : FS M M1 B) (hx : x < 4) (hy : y < 4) (hx0 : 0 < x) (hy0 : 0 < y) (h18 : reg 18 = 1) (ha : Fq reg sg x a) (hb : Fq reg sg y b) (na : Nf a) (nb : Nf b) (fa : Fits a) (fb : Fits b) (hr : ∀ w, w ≠ 0 → (w < 10 ∨ 15 < w) → reg1 w = reg w) (hg : ∀ g, g ≠ 0 → sg1 g = sg g) (hs : reg1 0 ≠ 0 → sg1 0 = 1 ∨ sg1 0 = -1) (hq : rd (sg1 0 * (reg1 0 : Int)) (a.2.2 * b.2.2) = q) :
    ∃ (M' : me_M) (reg' : Nat → Nat) (sg' : Nat → Int), ((f_X7_multiply [.ref B, .int (1 : Int32), .int (iZ ((2 * x + 1 : Nat) : Int)), .int (iZ ((2 * y + 1 : Nat) : Int))] M1).bind fun r1 => cond r1.1.isNone ((me_obj r1.2 7 B).bind fun _ => (f_X7_least [.ref B, .int (0 : Int32)] r1.2).bind fun r2 => r2.1.bind fun v3 => (v_int v3).bind fun y4 => if y4 = 0 ∨ y4 = 1 then (if 0 ≤ 0 ∧ 0 ≤ 0 then (some (some (.int y4), r2.2) : Option sm_R) else none) else none) none) = some (some (.int (fi q)), M') ∧ Lq M M' B 0 reg reg' sg sg' q := by
  obtain ⟨a1, a2, a3⟩ := ha
  obtain ⟨b1, b2, b3⟩ := hb
  have ea : reg1 (2 * x + 1) = a.2.2 := (hr _ (by omega) (by omega)).trans a3
  have eb : reg1 (2 * y + 1) = b.2.2 := (hr _ (by omega) (by omega)).trans b3
  obtain ⟨M2, f2, P2, F2⟩ := mul_g (z := 1) (x := 2 * x + 1) (y := 2 * y + 1) 32 32 h.1 (by omega) (by omega) (by omega) (by omega) (by omega) (by rw [ea]; exact p512 fa.2) (by rw [eb]; exact p512 fb.2) (by omega)
  rw [ea, eb] at P2
  have m3 := h.fm F2 P2
  obtain ⟨M', reg', sg', f3, L⟩ := fin_g (M := M) (reg := reg) (sg := sg) (q := q) m3 (hF.trans F2.fs) (by rw [up_n _ _ (by omega)]; exact (hr 18 (by omega) (by omega)).trans h18) (by rw [up_s]; exact Nat.mul_pos na.2.2.1 nb.2.2.1) (by rw [up_n _ _ (by omega)]; exact hs) (fun w k1 k2 k3 => by rw [up_n _ _ k2]; exact hr w k1 k3) hg (by rw [up_s, up_n _ _ (by omega)]; exact hq)
  refine ⟨M', reg', sg', ?_, L⟩
  have f2' : f_X7_multiply [.ref B, .int (1 : Int32), .int (iZ ((2 * x + 1 : Nat) : Int)), .int (iZ ((2 * y + 1 : Nat) : Int))] M1 = _ := f2
  rw [f2']
  simp only [bS, cNn]
  rw [m3.i0, f3]
  simp only [bS, vI]
  rw [if_pos (fi01 _), c00]
theorem less_rg {M : me_M} {B x b : Nat} {reg : Nat → Nat} (h : RG M B reg) (hx : x < 19) (hb : b < 19) (hxb : x ≠ b) (hle : reg b ≤ reg x) : ∃ M' : me_M, f_X7_lessen [.ref B, .int (iZ x), .int (iZ b), .int (0 : Int32)] M = some (none, M') ∧ RG M' B (up reg x (reg x - reg b)) ∧ FM M M' B := by
  obtain ⟨rf, nf, h, hR⟩ := h
  obtain ⟨g, t, f, q1, q2, q3, q4⟩ := less_g (s := 0) h hx hb hxb (hR x hx) (hR b hb) (by omega) (by rw [Nat.pow_zero, Nat.mul_one]; exact hle) (Or.inl rfl)
  rw [Nat.pow_zero, Nat.mul_one] at q3 q4
  obtain ⟨P, F⟩ := RG.up h hR q1 q2 q3 q4
  exact ⟨_, f, P, F⟩
theorem sum_g {M : me_M} {B x y : Nat} {reg : Nat → Nat} {sg : Nat → Int} {a b : Qn} {w : Int32} {sb : Int} (h : MS M B reg sg) (hx : x < 4) (hy : y < 4) (hx0 : 0 < x) (hy0 : 0 < y) (h18 : reg 18 = 1) (ha : Fq reg sg x a) (hb : Fq reg sg y b) (na : Nf a) (nb : Nf b) (fa : Fits a) (fb : Fits b) (hw : (w = 0 ∧ sb = b.1) ∨ (w = 1 ∧ sb = -b.1)) :
    ∃ (M' : me_M) (reg' : Nat → Nat) (sg' : Nat → Int), f_X7_sum [.ref B, .int (iZ x), .int (iZ y), .int w] M = some (some (.int (fi (qSum a b sb))), M') ∧ Lq M M' B 0 reg reg' sg sg' (qSum a b sb) := by
  obtain ⟨a1, a2, a3⟩ := ha
  obtain ⟨b1, b2, b3⟩ := hb
  have hsb : sb = 0 ∨ sb = 1 ∨ sb = -1 := by have := nb.1; omega
  have hsb0 : sb = 0 → b.2.1 = 0 := fun e => nb.2.1.mp (by omega)
  obtain ⟨M1, f1, P1, F1⟩ := across_g h.1 hx hy (by rw [a2]; exact fa.1) (by rw [a3]; exact fa.2) (by rw [b2]; exact fb.1) (by rw [b3]; exact fb.2)
  rw [a2, a3, b2, b3] at P1
  have m1 := h.fm F1 P1
  obtain ⟨_, sf, s1, s2⟩ := m1
  have m1 := h.fm F1 P1
  obtain ⟨t, tl, h0⟩ := m1.h
  obtain ⟨P, hPe⟩ : ∃ P, P = a.2.1 * b.2.2 := ⟨_, rfl⟩
  obtain ⟨Q, hQe⟩ : ∃ Q, Q = b.2.1 * a.2.2 := ⟨_, rfl⟩
  rw [← hPe, ← hQe] at P1 m1
  have hPl : P < 2 ^ (16 * 64) := by rw [hPe]; exact pm16 32 32 (p512 fa.1) (p512 fb.2)
  have hQl : Q < 2 ^ (16 * 64) := by rw [hQe]; exact pm16 32 32 (p512 fb.1) (p512 fa.2)
  have eq0 : qSum a b sb = rd (a.1 * (P : Int) + sb * (Q : Int)) (a.2.2 * b.2.2) := by rw [hPe, hQe]; rfl
  have r10 : up (up reg 10 P) 11 Q 10 = P := by rw [up_n _ _ (by omega), up_s]
  have r11 : up (up reg 10 P) 11 Q 11 = Q := up_s _ _ _
  have ha0 : a.1 = 0 → P = 0 := fun e => by rw [hPe, na.2.1.mp e, Nat.zero_mul]
  have hb0 : sb = 0 → Q = 0 := fun e => by rw [hQe, hsb0 e, Nat.zero_mul]
  -- the last part, from 34 on
  have s34 : ∃ (M' : me_M) (reg' : Nat → Nat) (sg' : Nat → Int), sm T_X7_sum (34, [(0, .ref B), (1, .int (iZ x)), (2, .int (iZ y)), (4, .int (iZ a.1))], [.int (iZ sb)], M1, 0, 0) = some (some (.int (fi (qSum a b sb))), M') ∧ Lq M M' B 0 reg reg' sg sg' (qSum a b sb) := by
    -- from 79 on
    have s79 : ∀ (v : Int), (P + Q ≠ 0 → v = 1 ∨ v = -1) → v * ((P + Q : Nat) : Int) = a.1 * (P : Int) + sb * (Q : Int) → ∃ (M' : me_M) (reg' : Nat → Nat) (sg' : Nat → Int), ((f_X7_plus [.ref B, .int (0 : Int32), .int (10 : Int32), .int (11 : Int32)] M1).bind fun r1 => cond r1.1.isNone ((me_obj r1.2 7 B).bind fun f2 => (f2[3]?).bind fun w3 => sm T_X7_sum (79, [(0, .ref B), (1, .int (iZ x)), (2, .int (iZ y))], [.int (iZ v), .int (0 : Int32), w3], r1.2, 0, 0)) none) = some (some (.int (fi (qSum a b sb))), M') ∧ Lq M M' B 0 reg reg' sg sg' (qSum a b sb) := by
      intro v hv he
      obtain ⟨M2, f2, P2, F2⟩ := plus_g (z := 0) (x := 10) (y := 11) P1 (by omega) (by omega) (by omega) (by rw [r10]; exact pw16 hPl (by omega)) (by rw [r11]; exact pw16 hQl (by omega))
      rw [r10, r11] at P2
      have m2 := m1.fm F2 P2
      obtain ⟨_, sf2, t1, t2⟩ := m2
      have m2 := m1.fm F2 P2
      obtain ⟨u, ul, k0⟩ := m2.h
      have m3 := MS.sg (f := 0) (v := v) P2 t2
      obtain ⟨M', reg', sg', f3, L⟩ := sum_154 (M := M) (reg := reg) (sg := sg) (a := a) (b := b) (q := qSum a b sb) m3 ((F1.fs.trans F2.fs).trans FS.s3) hx hy hx0 hy0 h18 ⟨a1, a2, a3⟩ ⟨b1, b2, b3⟩ na nb fa fb (fun w k1 k2 => by rw [up_n _ _ k1, up_n _ _ (by omega), up_n _ _ (by omega)]) (fun g k => us_n _ _ k) (by rw [up_s, us_s]; exact hv) (by rw [us_s, up_s, he, eq0])
      refine ⟨M', reg', sg', ?_, L⟩
      have f2' : f_X7_plus [.ref B, .int (0 : Int32), .int (10 : Int32), .int (11 : Int32)] M1 = _ := f2
      rw [f2']
      simp only [bS, cNn, k0, g3]
      rw [e_X7_sum_79]
      simp only [vF, bS, t1]
      rw [if_neg (nob n0 (by decide)), cl0, e_X7_sum_154, m3.i0, z21, z21]
      exact f3
    have s53 : (a.1 = 0 ∨ sb = 0 ∨ a.1 = sb) → ∃ (M' : me_M) (reg' : Nat → Nat) (sg' : Nat → Int), sm T_X7_sum (53, [(0, .ref B), (1, .int (iZ x)), (2, .int (iZ y)), (4, .int (iZ a.1)), (5, .int (iZ sb))], [], M1, 0, 0) = some (some (.int (fi (qSum a b sb))), M') ∧ Lq M M' B 0 reg reg' sg sg' (qSum a b sb) := by
      intro hc
      rw [e_X7_sum_53, m1.i0]
      by_cases e : a.1 = 0
      · simp only [if_pos ((sgz na.1).mpr e)]
        have eP := ha0 e
        refine s79 sb (fun k => ?_) ?_
        · rcases hsb with k2 | k2
          · exact absurd (hb0 k2) (by omega)
          · exact k2
        · rw [eP, e]; simp
      · simp only [if_neg (fun z => e ((sgz na.1).mp z))]
        refine s79 a.1 (fun _ => na.1.resolve_left e) ?_
        rcases hc with k | k | k
        · exact absurd k e
        · rw [hb0 k, k]; simp
        · rw [← k, Int.natCast_add, Int.mul_add]
    rw [e_X7_sum_34]
    by_cases e1 : a.1 = 0
    · rw [if_pos ((sgz na.1).mpr e1)]
      exact s53 (Or.inl e1)
    · rw [if_neg (fun z => e1 ((sgz na.1).mp z))]
      by_cases e2 : sb = 0
      · rw [if_pos ((sgz hsb).mpr e2)]
        exact s53 (Or.inr (Or.inl e2))
      · rw [if_neg (fun z => e2 ((sgz hsb).mp z))]
        by_cases e3 : a.1 = sb
        · rw [if_pos (by rw [e3])]
          exact s53 (Or.inr (Or.inr e3))
        · rw [if_neg (fun z => e3 ((sge na.1 hsb).mp z))]
          have fc : f_X7_compare [.ref B, .int (10 : Int32), .int (11 : Int32)] M1 = _ := cmp_g (x := 10) (y := 11) P1 (by omega) (by omega)
          have hopp : sb = -a.1 := by have := na.1; omega
          rw [m1.i0, fc]
          simp only [bS, vI]
          rw [r10, r11]
          by_cases lt : P < Q
          · rw [if_pos (cmp_neg.mpr lt), e_X7_sum_99, if_pos rfl, e_X7_sum_115]
            obtain ⟨M2, f2, P2, F2⟩ := copy_g (x := 0) (y := 11) P1 (by omega) (by omega) (by omega)
            rw [r11] at P2
            obtain ⟨M3, f3, P3, F3⟩ := less_rg (x := 0) (b := 10) P2 (by omega) (by omega) (by omega) (by rw [up_s, up_n _ _ (by omega), r10]; omega)
            rw [up_s, up_n (i := 0) (j := 10) _ _ (by omega), r10, up_up] at P3
            have F13 := (F1.trans F2).trans F3
            have m3 := h.fm F13 P3
            obtain ⟨_, sf3, t1, t2⟩ := m3
            have m3 := h.fm F13 P3
            obtain ⟨u, ul, k0⟩ := m3.h
            have m4 := MS.sg (f := 0) (v := sb) P3 t2
            obtain ⟨M', reg', sg', f4, L⟩ := sum_154 (M := M) (reg := reg) (sg := sg) (a := a) (b := b) (q := qSum a b sb) m4 (F13.fs.trans FS.s3) hx hy hx0 hy0 h18 ⟨a1, a2, a3⟩ ⟨b1, b2, b3⟩ na nb fa fb (fun w k1 k2 => by rw [up_n _ _ k1, up_n _ _ (by omega), up_n _ _ (by omega)]) (fun g k => us_n _ _ k) (fun _ => by rw [us_s]; exact hsb.resolve_left e2) (by
              rw [us_s, up_s, eq0, Int.natCast_sub (by omega), hopp]
              congr 1
              grind)
            refine ⟨M', reg', sg', ?_, L⟩
            have f2' : f_X7_copy [.ref B, .int (0 : Int32), .int (11 : Int32)] M1 = _ := f2
            have f3' : f_X7_lessen [.ref B, .int (0 : Int32), .int (10 : Int32), .int (0 : Int32)] M2 = _ := f3
            rw [m1.i0, f2']
            simp only [bS, cNn]
            rw [if_pos trivial, e_X7_sum_132, P2.i0, f3']
            simp only [bS, cNn, k0, g3]
            rw [if_pos trivial, e_X7_sum_153]
            simp only [vF, bS, t1]
            rw [if_neg (nob n0 (by decide)), cl0, e_X7_sum_154, m4.i0, z21, z21]
            exact f4
          · rw [if_neg (fun z => lt (cmp_neg.mp z)), e_X7_sum_99, if_neg i10, e_X7_sum_115]
            obtain ⟨M2, f2, P2, F2⟩ := copy_g (x := 0) (y := 10) P1 (by omega) (by omega) (by omega)
            rw [r10] at P2
            obtain ⟨M3, f3, P3, F3⟩ := less_rg (x := 0) (b := 11) P2 (by omega) (by omega) (by omega) (by rw [up_s, up_n _ _ (by omega), r11]; omega)
            rw [up_s, up_n (i := 0) (j := 11) _ _ (by omega), r11, up_up] at P3
            have F13 := (F1.trans F2).trans F3
            have m3 := h.fm F13 P3
            obtain ⟨_, sf3, t1, t2⟩ := m3
            have m3 := h.fm F13 P3
            obtain ⟨u, ul, k0⟩ := m3.h
            have m4 := MS.sg (f := 0) (v := a.1) P3 t2
            obtain ⟨M', reg', sg', f4, L⟩ := sum_154 (M := M) (reg := reg) (sg := sg) (a := a) (b := b) (q := qSum a b sb) m4 (F13.fs.trans FS.s3) hx hy hx0 hy0 h18 ⟨a1, a2, a3⟩ ⟨b1, b2, b3⟩ na nb fa fb (fun w k1 k2 => by rw [up_n _ _ k1, up_n _ _ (by omega), up_n _ _ (by omega)]) (fun g k => us_n _ _ k) (fun _ => by rw [us_s]; exact na.1.resolve_left e1) (by
              rw [us_s, up_s, eq0, Int.natCast_sub (by omega), hopp]
              congr 1
              grind)
            refine ⟨M', reg', sg', ?_, L⟩
            have f2' : f_X7_copy [.ref B, .int (0 : Int32), .int (10 : Int32)] M1 = _ := f2
            have f3' : f_X7_lessen [.ref B, .int (0 : Int32), .int (11 : Int32), .int (0 : Int32)] M2 = _ := f3
            rw [m1.i0, f2']
            simp only [bS, cNn]
            rw [if_neg i10, e_X7_sum_132, P2.i0, f3']
            simp only [bS, cNn, k0, g3]
            rw [if_neg i10, e_X7_sum_153]
            simp only [vF, bS, t1]
            rw [if_neg (nob n0 (by decide)), cl0, e_X7_sum_154, m4.i0, z21, z21]
            exact f4
  obtain ⟨M', reg', sg', f, L⟩ := s34
  refine ⟨M', reg', sg', ?_, L⟩
  rw [e_X7_sum, h.i0, f1]
  simp only [bS, cNn, h0, g3, vF, s1]
  rw [iZ_clampN (by omega : x < 2147483648), iZ_clampN (by omega : y < 2147483648), if_neg (nob (iZ_n0 (by omega)) (by omega)), if_neg (nob (iZ_n0 (by omega)) (by omega)), if_neg (nob (iZ_n0 (by omega)) (by omega)), s2 x hx, s2 y hy, a1, b1]
  rcases hw with ⟨e1, e2⟩ | ⟨e1, e2⟩
  · rw [if_pos e1, ← e2]
    exact f
  · rw [if_neg (by rw [e1]; exact i10), iZ_neg, ← e2]
    exact f
