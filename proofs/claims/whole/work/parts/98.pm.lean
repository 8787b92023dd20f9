/-! exact, as the class has it -/
def exT (op : Int32) (a b : Int64) : Int32 × Int64 :=
  if isV 10 op then (if op = 0 then ftx (¬ (a < 0 ↔ b < 0) ∨ (a + b < 0 ↔ a < 0)) (a + b) else if op = 1 then ftx ((a < 0 ↔ b < 0) ∨ (a - b < 0 ↔ a < 0)) (a - b) else if op = 2 then ftx (a = 0 ∨ (¬ (a = -1 ∧ b = -9223372036854775808) ∧ a * b / a = b)) (a * b) else if op = 7 then ftx (a ≠ -9223372036854775808) (-a) else if op = 8 then ftx (a.toInt32.toInt64 = a) a else if op = 9 then ftx (a ≠ -9223372036854775808) (if a < 0 then -a else a) else exD op a b) else (1, 0)
theorem ex_e0 (a b : Int64) : exT 0 a b = ftx (¬ (a < 0 ↔ b < 0) ∨ (a + b < 0 ↔ a < 0)) (a + b) := (if_pos (by decide)).trans (if_pos rfl)
theorem ex_e1 (a b : Int64) : exT 1 a b = ftx ((a < 0 ↔ b < 0) ∨ (a - b < 0 ↔ a < 0)) (a - b) := (if_pos (by decide)).trans ((if_neg (by decide)).trans (if_pos rfl))
theorem ex_e2 (a b : Int64) : exT 2 a b = ftx (a = 0 ∨ (¬ (a = -1 ∧ b = -9223372036854775808) ∧ a * b / a = b)) (a * b) := (if_pos (by decide)).trans ((if_neg (by decide)).trans ((if_neg (by decide)).trans (if_pos rfl)))
theorem ex_e7 (a b : Int64) : exT 7 a b = ftx (a ≠ -9223372036854775808) (-a) := (if_pos (by decide)).trans ((if_neg (by decide)).trans ((if_neg (by decide)).trans ((if_neg (by decide)).trans (if_pos rfl))))
theorem ex_e8 (a b : Int64) : exT 8 a b = ftx (a.toInt32.toInt64 = a) a := (if_pos (by decide)).trans ((if_neg (by decide)).trans ((if_neg (by decide)).trans ((if_neg (by decide)).trans ((if_neg (by decide)).trans (if_pos rfl)))))
theorem ex_e9 (a b : Int64) : exT 9 a b = ftx (a ≠ -9223372036854775808) (if a < 0 then -a else a) := (if_pos (by decide)).trans ((if_neg (by decide)).trans ((if_neg (by decide)).trans ((if_neg (by decide)).trans ((if_neg (by decide)).trans ((if_neg (by decide)).trans (if_pos rfl))))))
theorem ex_eD {op : Int32} (h : op = 3 ∨ op = 4 ∨ op = 5 ∨ op = 6) (a b : Int64) : exT op a b = exD op a b := by
  unfold exT
  rcases h with rfl | rfl | rfl | rfl
  · rw [if_pos (by decide), if_neg (by decide), if_neg (by decide), if_neg (by decide), if_neg (by decide), if_neg (by decide), if_neg (by decide)]
  · rw [if_pos (by decide), if_neg (by decide), if_neg (by decide), if_neg (by decide), if_neg (by decide), if_neg (by decide), if_neg (by decide)]
  · rw [if_pos (by decide), if_neg (by decide), if_neg (by decide), if_neg (by decide), if_neg (by decide), if_neg (by decide), if_neg (by decide)]
  · rw [if_pos (by decide), if_neg (by decide), if_neg (by decide), if_neg (by decide), if_neg (by decide), if_neg (by decide), if_neg (by decide)]
theorem op_ix {op : Int32} (h : isV 10 op) : op = 0 ∨ op = 1 ∨ op = 2 ∨ (op = 3 ∨ op = 4 ∨ op = 5 ∨ op = 6) ∨ op = 7 ∨ op = 8 ∨ op = 9 := by
  obtain ⟨i, hi, e, _⟩ := h.ix (by omega)
  have key : ∀ i : Nat, i < 10 → (iZ (i : Int) = 0 ∨ iZ (i : Int) = 1 ∨ iZ (i : Int) = 2 ∨ (iZ (i : Int) = 3 ∨ iZ (i : Int) = 4 ∨ iZ (i : Int) = 5 ∨ iZ (i : Int) = 6) ∨ iZ (i : Int) = 7 ∨ iZ (i : Int) = 8 ∨ iZ (i : Int) = 9) := by decide
  rw [e]
  exact key i hi
theorem xt_s {t : Int32 × Int64} {M : me_M} {P : Prop} [Decidable P] (hP : P) : xk (some (exR t)) (fun k_ => some (some (.float k_), M)) ((some (exR t)).bind fun v2 => (v_long v2).bind fun y3 => if P then some (some (.long y3), M) else none) = some (some (exR t), M) := by
  unfold exR
  by_cases h : t.1 = 0
  · rw [if_pos h]
    exact if_pos hP
  · rw [if_neg h]
    by_cases h1 : t.1 = 1
    · rw [if_pos h1]; rfl
    · rw [if_neg h1]; rfl
theorem sw_x {α β : Type} {l : List α} {i : Nat} (x : α) (h : l[i]? = some x) (f : α → Option β) : (l[i]?).bind f = f x := by rw [h]; rfl
theorem exactV_s {M : me_M} {A : Nat} {op : Int32} {a b : Int64} : f_X6_exact [.ref A, .int op, .long a, .long b] M = some (some (exR (exT op a b)), M) := by
  rw [e_X6_exact]
  by_cases h : isV 10 op
  · rcases op_ix h with rfl | rfl | rfl | ho | rfl | rfl | rfl
    · rw [if_neg (by decide), if_pos (by decide), if_pos (by decide), e_X6_exact_39, e_X6_exact_40, if_neg (by decide), sw_x 92 (by decide), e_X6_exact_92, exSum_s, ex_e0, bS, ble2 (by omega) (by omega), cond_true]
      exact xt_s (by omega)
    · rw [if_neg (by decide), if_pos (by decide), if_pos (by decide), e_X6_exact_39, e_X6_exact_40, if_neg (by decide), sw_x 99 (by decide), e_X6_exact_99, exDif_s, ex_e1, bS, ble2 (by omega) (by omega), cond_true]
      exact xt_s (by omega)
    · rw [if_neg (by decide), if_pos (by decide), if_pos (by decide), e_X6_exact_39, e_X6_exact_40, if_neg (by decide), sw_x 106 (by decide), e_X6_exact_106, exPro_s, ex_e2, bS, ble2 (by omega) (by omega), cond_true]
      exact xt_s (by omega)
    · rw [ex_eD ho, exDiv_s ho, bS]
      have hx : ∀ x : Int32, (x = 3 ∨ x = 4 ∨ x = 5 ∨ x = 6) → ¬ x < 0 ∧ x ≤ 9 ∧ ¬ x < 3 ∧ ¬ (6 : Int32) < x := by
        rintro x (rfl | rfl | rfl | rfl) <;> decide
      obtain ⟨h1, h2, h3, h4⟩ := hx op ho
      rw [if_neg h1, if_pos h2, if_neg h3, if_neg h4]
      exact xt_s (by omega)
    · rw [if_neg (by decide), if_pos (by decide), if_neg (by decide), if_pos (by decide), e_X6_exact_39, e_X6_exact_40, if_neg (by decide), sw_x 113 (by decide), e_X6_exact_113, exNeg_s, ex_e7, bS, ble2 (by omega) (by omega), cond_true]
      exact xt_s (by omega)
    · rw [if_neg (by decide), if_pos (by decide), if_neg (by decide), if_pos (by decide), e_X6_exact_39, e_X6_exact_40, if_neg (by decide), sw_x 119 (by decide), e_X6_exact_119, exInt_s, ex_e8, bS, ble2 (by omega) (by omega), cond_true]
      exact xt_s (by omega)
    · rw [if_neg (by decide), if_pos (by decide), if_neg (by decide), if_pos (by decide), e_X6_exact_39, e_X6_exact_40, if_pos (by decide), e_X6_exact_124, ex_e9]
      by_cases hn : a < 0
      · rw [if_neg (fun k => lc_n.mp k hn), exNeg_s, bS, ble2 (by omega) (by omega), cond_true, if_pos hn]
        exact xt_s (by omega)
      · rw [if_pos (lc_n.mpr hn), if_pos (by omega), if_neg hn, ex_y]
        intro k
        rw [k] at hn
        exact hn (by decide)
  · rw [show exT op a b = (1, 0) from if_neg h]
    obtain ⟨P, e, p1, p2, t⟩ := i_rep op
    by_cases h1 : P < 0
    · rw [if_pos (by rw [e, z_0, iZ_lt (by omega) (by omega)]; exact h1)]
      rfl
    · rw [if_neg (by rw [e, z_0, iZ_lt (by omega) (by omega)]; exact h1), if_neg (by
        rw [e, show (9 : Int32) = iZ 9 from rfl, iZ_le (by omega) (by omega)]
        intro k
        exact h (by constructor <;> omega))]
      rfl
/-! .. as the reference has it -/
theorem Al.ret {M : me_M} {B : Nat} {r : Option sm_R} {th : Int32} {v : Int64} {s : Sx} (h : Al M B r th v s) : Al M B (r.bind fun r1 => r1.1.bind fun v2 => (v_long v2).bind fun y3 => if 0 ≤ 0 ∧ 0 ≤ 0 then some (some (.long y3), r1.2) else none) th v s := by
  obtain ⟨L, w, e, p, g, k⟩ := h
  refine ⟨L, w, ?_, p, g, k⟩
  rw [e]
  simp only [bS, vL]
  exact c00
theorem Al.val {M : me_M} {B : Nat} {s : Sx} {v : Int64} (h : MF M B 0 s) : Al M B (some (some (.long v), M)) 0 v s := ⟨M, v, rfl, h, FB.refl _ _, fun _ => rfl⟩
section FT
variable {N : me_M} {B : Nat} {s : Sx} {reg : Nat → Nat} {sg : Nat → Int} {S : Sto} {sz wf : Nat → Int32}
theorem fit_r {p : Prop} [Decidable p] {v : Int64} (m : MG N B 0 s reg sg S sz wf) : Al N B ((me_obj N 7 B).bind fun _ => (f_X7_fitting [.ref B, .int (if p then 1 else 0), .long v] N).bind fun r1 => r1.1.bind fun v2 => (v_long v2).bind fun y3 => if 0 ≤ 0 ∧ 0 ≤ 0 then some (some (.long y3), r1.2) else none) (ftx p v).1 (ftx p v).2 s := by
  rw [m.i0, e_X7_fitting]
  refine Al.ret ?_
  unfold ftx
  by_cases h : p
  · rw [if_pos h, if_pos h, if_neg i10, c00]
    exact Al.val ⟨_, _, _, _, _, m⟩
  · rw [if_neg h, if_neg h, if_pos rfl, m.i0]
    obtain ⟨M', f, P, F⟩ := throw_l (k := 2) m
    exact ⟨M', 0, f, P, F, fun z => absurd z (by decide)⟩
theorem i0o : ((0 : Int32) = 1) = False := by decide
theorem i1z : ((1 : Int32) = 0) = False := by decide
theorem quot_r {op : Int32} {a b : Int64} (m : MG N B 0 s reg sg S sz wf) (ho : op = 3 ∨ op = 4 ∨ op = 5 ∨ op = 6) : Al N B (f_X7_quotients [.ref B, .int op, .long a, .long b] N) (exD op a b).1 (exD op a b).2 s := by
  rw [e_X7_quotients]
  by_cases h0 : b = 0
  · rw [if_pos (lgc0.mpr h0), exD_0 h0, m.i0]
    obtain ⟨M', f, P, F⟩ := throw_l (k := 2) m
    exact ⟨M', 0, f, P, F, fun z => absurd z (by decide)⟩
  · rw [if_neg (fun k => h0 (lgc0.mp k))]
    by_cases hb : b = -1
    · rw [if_pos (lgc0.mpr hb), exD_m h0 hb]
      by_cases h46 : op = 4 ∨ op = 6
      · rw [if_pos h46]
        rcases h46 with h | h
        · rw [if_pos h, c00]
          exact Al.val ⟨_, _, _, _, _, m⟩
        · rw [if_neg (by rw [h]; decide), if_pos h, c00]
          exact Al.val ⟨_, _, _, _, _, m⟩
      · rw [if_neg h46, if_neg (fun k => h46 (Or.inl k)), if_neg (fun k => h46 (Or.inr k))]
        have hf := fit_r (p := a ≠ -9223372036854775808) (v := -a) m
        by_cases hm : a = -9223372036854775808
        · rw [if_pos (lgc0.mpr hm), e_X7_quotients_52]
          rw [if_neg (fun k => k hm)] at hf
          exact hf
        · rw [if_neg (fun k => hm (lgc0.mp k)), e_X7_quotients_52]
          rw [if_pos hm] at hf
          exact hf
    · rw [if_neg (fun k => hb (lgc0.mp k)), if_neg h0, if_neg h0, exD_g h0 hb]
      unfold exG
      rcases ho with rfl | rfl | rfl | rfl
      · rw [if_pos (by decide), e_X7_quotients_113, e_X7_quotients_114, if_pos rfl, e_X7_quotients_126, if_pos rfl, c00, if_pos rfl]
        exact Al.val ⟨_, _, _, _, _, m⟩
      · rw [if_pos (by decide), e_X7_quotients_113, e_X7_quotients_114, if_neg (by decide), if_neg (by decide), if_pos rfl, c00, if_neg (by decide), if_pos rfl]
        exact Al.val ⟨_, _, _, _, _, m⟩
      · rw [if_neg (by decide), if_neg (by decide : ¬ (5 : Int32) = 3), if_neg (by decide : ¬ (5 : Int32) = 4), if_pos rfl]
        have d0 : sm T_X7_quotients (113, [(1, .int 5), (4, .long b), (6, .long (a / b)), (8, .long (a - a / b * b))], [], N, 0, 0) = some (some (.long (a / b)), N) := by
          rw [e_X7_quotients_113, e_X7_quotients_114, if_neg (by decide), if_pos rfl, e_X7_quotients_126, if_pos rfl, c00]
        have d1 : sm T_X7_quotients (114, [(1, .int 5), (4, .long b), (6, .long (a / b)), (8, .long (a - a / b * b))], [.int 1], N, 0, 0) = some (some (.long (a / b - 1)), N) := by
          rw [e_X7_quotients_114, if_neg (by decide), if_pos rfl, e_X7_quotients_126, if_neg i10, c00]
        by_cases hz : rmd a b = 0
        · rw [if_pos (lgc0.mpr hz), d0, if_neg (fun k => k.1 hz)]
          exact Al.val ⟨_, _, _, _, _, m⟩
        · rw [if_neg (fun k => hz (lgc0.mp k))]
          by_cases hn : rmd a b < 0
          · rw [if_neg (fun k => lc_n.mp k hn), e_X7_quotients_94]
            by_cases hb' : b < 0
            · rw [if_neg (fun k => lc_n.mp k hb'), e_X7_quotients_106, if_pos rfl, d0, if_neg (fun k => k.2 ⟨fun _ => hb', fun _ => hn⟩)]
              exact Al.val ⟨_, _, _, _, _, m⟩
            · rw [if_pos (lc_n.mpr hb'), e_X7_quotients_106, if_neg (by decide), d1, if_pos ⟨hz, fun k => hb' (k.mp hn)⟩]
              exact Al.val ⟨_, _, _, _, _, m⟩
          · rw [if_pos (lc_n.mpr hn), e_X7_quotients_94]
            by_cases hb' : b < 0
            · rw [if_neg (fun k => lc_n.mp k hb'), e_X7_quotients_106, if_neg (by decide), d1, if_pos ⟨hz, fun k => hn (k.mpr hb')⟩]
              exact Al.val ⟨_, _, _, _, _, m⟩
            · rw [if_pos (lc_n.mpr hb'), e_X7_quotients_106, if_pos rfl, d0, if_neg (fun k => k.2 ⟨fun q => absurd q hn, fun q => absurd q hb'⟩)]
              exact Al.val ⟨_, _, _, _, _, m⟩
      · rw [if_neg (by decide), if_neg (by decide : ¬ (6 : Int32) = 3), if_neg (by decide : ¬ (6 : Int32) = 4), if_neg (by decide : ¬ (6 : Int32) = 5)]
        have d0 : sm T_X7_quotients (113, [(1, .int 6), (4, .long b), (6, .long (a / b)), (8, .long (a - a / b * b))], [], N, 0, 0) = some (some (.long (rmd a b)), N) := by
          rw [e_X7_quotients_113, e_X7_quotients_114, if_neg (by decide), if_neg (by decide), if_pos rfl, c00]
        have d1 : sm T_X7_quotients (114, [(1, .int 6), (4, .long b), (6, .long (a / b)), (8, .long (a - a / b * b))], [.int 1], N, 0, 0) = some (some (.long (rmd a b + b)), N) := by
          rw [e_X7_quotients_114, if_neg (by decide), if_neg (by decide), if_neg i10, c00]
        by_cases hz : rmd a b = 0
        · rw [if_pos (lgc0.mpr hz), d0, if_neg (fun k => k.1 hz)]
          exact Al.val ⟨_, _, _, _, _, m⟩
        · rw [if_neg (fun k => hz (lgc0.mp k))]
          by_cases hn : rmd a b < 0
          · rw [if_neg (fun k => lc_n.mp k hn), e_X7_quotients_94]
            by_cases hb' : b < 0
            · rw [if_neg (fun k => lc_n.mp k hb'), e_X7_quotients_106, if_pos rfl, d0, if_neg (fun k => k.2 ⟨fun _ => hb', fun _ => hn⟩)]
              exact Al.val ⟨_, _, _, _, _, m⟩
            · rw [if_pos (lc_n.mpr hb'), e_X7_quotients_106, if_neg (by decide), d1, if_pos ⟨hz, fun k => hb' (k.mp hn)⟩]
              exact Al.val ⟨_, _, _, _, _, m⟩
          · rw [if_pos (lc_n.mpr hn), e_X7_quotients_94]
            by_cases hb' : b < 0
            · rw [if_neg (fun k => lc_n.mp k hb'), e_X7_quotients_106, if_neg (by decide), d1, if_pos ⟨hz, fun k => hn (k.mpr hb')⟩]
              exact Al.val ⟨_, _, _, _, _, m⟩
            · rw [if_pos (lc_n.mpr hb'), e_X7_quotients_106, if_pos rfl, d0, if_neg (fun k => k.2 ⟨fun q => absurd q hn, fun q => absurd q hb'⟩)]
              exact Al.val ⟨_, _, _, _, _, m⟩
theorem ex_76 {a b : Int64} {o : Int32} : sm T_X7_exact (76, [(0, .ref B), (1, .int o), (2, .long a), (4, .long b)], [], N, 0, 0) = (me_obj N 7 B).bind fun _ => (f_X7_fitting [.ref B, .int (if ¬ (a < 0 ↔ b < 0) ∨ (a + b < 0 ↔ a < 0) then 1 else 0), .long (a + b)] N).bind fun r1 => r1.1.bind fun v2 => (v_long v2).bind fun y3 => if 0 ≤ 0 ∧ 0 ≤ 0 then some (some (.long y3), r1.2) else none := by
  rw [e_X7_exact_76]
  by_cases h1 : a < 0 <;> by_cases h2 : b < 0 <;> by_cases h3 : a + b < 0 <;> simp only [lc_n, h1, h2, h3, e_X7_exact_94, e_X7_exact_106, e_X7_exact_121, e_X7_exact_132, e_X7_exact_135, e_X7_exact_140, not_true_eq_false, not_false_eq_true, if_true, if_false, iff_self, iff_true, iff_false, true_iff, false_iff, or_true, true_or, or_false, false_or, i0o, i1z]
theorem ex_146 {a b : Int64} {o : Int32} : sm T_X7_exact (146, [(0, .ref B), (1, .int o), (2, .long a), (4, .long b)], [], N, 0, 0) = (me_obj N 7 B).bind fun _ => (f_X7_fitting [.ref B, .int (if (a < 0 ↔ b < 0) ∨ (a - b < 0 ↔ a < 0) then 1 else 0), .long (a - b)] N).bind fun r1 => r1.1.bind fun v2 => (v_long v2).bind fun y3 => if 0 ≤ 0 ∧ 0 ≤ 0 then some (some (.long y3), r1.2) else none := by
  rw [e_X7_exact_146]
  by_cases h1 : a < 0 <;> by_cases h2 : b < 0 <;> by_cases h3 : a - b < 0 <;> simp only [lc_n, h1, h2, h3, e_X7_exact_164, e_X7_exact_176, e_X7_exact_191, e_X7_exact_202, e_X7_exact_205, e_X7_exact_210, not_true_eq_false, not_false_eq_true, if_true, if_false, iff_self, iff_true, iff_false, true_iff, false_iff, or_true, true_or, or_false, false_or, i0o, i1z]
theorem ex_216 {a b : Int64} {o : Int32} : sm T_X7_exact (216, [(0, .ref B), (1, .int o), (2, .long a), (4, .long b)], [], N, 0, 0) = (me_obj N 7 B).bind fun _ => (f_X7_fitting [.ref B, .int (if a = 0 ∨ (¬ (a = -1 ∧ b = -9223372036854775808) ∧ a * b / a = b) then 1 else 0), .long (a * b)] N).bind fun r1 => r1.1.bind fun v2 => (v_long v2).bind fun y3 => if 0 ≤ 0 ∧ 0 ≤ 0 then some (some (.long y3), r1.2) else none := by
  rw [e_X7_exact_216]
  by_cases h0 : a = 0
  · rw [if_pos (lgc0.mpr h0), if_pos (Or.inl h0), e_X7_exact_256, e_X7_exact_261]
  · rw [if_neg (fun k => h0 (lgc0.mp k))]
    have t : ¬ (a = -1 ∧ b = -9223372036854775808) → sm T_X7_exact (246, [(2, .long a), (4, .long b), (6, .long (a * b))], [.ref B], N, 0, 0) = (me_obj N 7 B).bind fun _ => (f_X7_fitting [.ref B, .int (if a = 0 ∨ (¬ (a = -1 ∧ b = -9223372036854775808) ∧ a * b / a = b) then 1 else 0), .long (a * b)] N).bind fun r1 => r1.1.bind fun v2 => (v_long v2).bind fun y3 => if 0 ≤ 0 ∧ 0 ≤ 0 then some (some (.long y3), r1.2) else none := by
      intro hh
      rw [e_X7_exact_246, if_neg h0]
      by_cases h1 : a * b / a = b
      · rw [if_pos (lgc0.mpr h1), if_pos (Or.inr ⟨hh, h1⟩), e_X7_exact_256, e_X7_exact_261]
      · rw [if_neg (fun k => h1 (lgc0.mp k)), if_neg (fun k => k.elim h0 (fun k => h1 k.2)), e_X7_exact_260, e_X7_exact_261]
    by_cases h2 : a = -1
    · rw [if_pos (lgc0.mpr h2)]
      by_cases h3 : b = -9223372036854775808
      · rw [if_pos (lgc0.mpr h3), if_neg (fun k => k.elim h0 (fun k => k.1 ⟨h2, h3⟩)), e_X7_exact_260, e_X7_exact_261]
      · rw [if_neg (fun k => h3 (lgc0.mp k)), t (fun k => h3 k.2)]
    · rw [if_neg (fun k => h2 (lgc0.mp k)), t (fun k => h2 k.1)]
theorem ex_267 {a b : Int64} {o : Int32} : sm T_X7_exact (267, [(0, .ref B), (1, .int o), (2, .long a), (4, .long b)], [], N, 0, 0) = (me_obj N 7 B).bind fun _ => (f_X7_fitting [.ref B, .int (if a ≠ -9223372036854775808 then 1 else 0), .long (-a)] N).bind fun r1 => r1.1.bind fun v2 => (v_long v2).bind fun y3 => if 0 ≤ 0 ∧ 0 ≤ 0 then some (some (.long y3), r1.2) else none := by
  rw [e_X7_exact_267]
  by_cases h : a = -9223372036854775808
  · rw [if_pos (lgc0.mpr h), if_neg (fun k => k h), e_X7_exact_281]
  · rw [if_neg (fun k => h (lgc0.mp k)), if_pos h, e_X7_exact_281]
theorem ex_287 {a b : Int64} {o : Int32} : sm T_X7_exact (287, [(0, .ref B), (1, .int o), (2, .long a), (4, .long b)], [], N, 0, 0) = (me_obj N 7 B).bind fun _ => (f_X7_fitting [.ref B, .int (if a.toInt32.toInt64 = a then 1 else 0), .long a] N).bind fun r1 => r1.1.bind fun v2 => (v_long v2).bind fun y3 => if 0 ≤ 0 ∧ 0 ≤ 0 then some (some (.long y3), r1.2) else none := by
  rw [e_X7_exact_287]
  by_cases h : a.toInt32.toInt64 = a
  · rw [if_pos (lgc0.mpr h), if_pos h, e_X7_exact_301]
  · rw [if_neg (fun k => h (lgc0.mp k)), if_neg h, e_X7_exact_301]
theorem ex_306 {a b : Int64} {o : Int32} : sm T_X7_exact (306, [(0, .ref B), (1, .int o), (2, .long a), (4, .long b)], [], N, 0, 0) = (me_obj N 7 B).bind fun _ => (f_X7_fitting [.ref B, .int (if a ≠ -9223372036854775808 then 1 else 0), .long (if a < 0 then -a else a)] N).bind fun r1 => r1.1.bind fun v2 => (v_long v2).bind fun y3 => if 0 ≤ 0 ∧ 0 ≤ 0 then some (some (.long y3), r1.2) else none := by
  rw [e_X7_exact_306]
  have t : ∀ q : Int32, sm T_X7_exact (320, [(2, .long a)], [.int q, .ref B], N, 0, 0) = (me_obj N 7 B).bind fun _ => (f_X7_fitting [.ref B, .int q, .long (if a < 0 then -a else a)] N).bind fun r1 => r1.1.bind fun v2 => (v_long v2).bind fun y3 => if 0 ≤ 0 ∧ 0 ≤ 0 then some (some (.long y3), r1.2) else none := by
    intro q
    rw [e_X7_exact_320]
    by_cases h : a < 0
    · rw [if_neg (fun k => lc_n.mp k h), if_pos h]
    · rw [if_pos (lc_n.mpr h), if_neg h]
  by_cases h : a = -9223372036854775808
  · rw [if_pos (lgc0.mpr h), if_neg (fun k => k h), t]
  · rw [if_neg (fun k => h (lgc0.mp k)), if_pos h, t]
end FT
theorem exactM_g {M : me_M} {B : Nat} {th : Int32} {s : Sx} {op : Int32} {a b : Int64} (h : MF M B th s) : Al M B (f_X7_exact [.ref B, .int op, .long a, .long b] M) (exT op a b).1 (exT op a b).2 s := by
  obtain ⟨reg, sg, S, sz, wf, h⟩ := h
  have m := h.th (th' := 0)
  have F : FB M (me_set M B (.inr (7, mfo B 0 s))) B := FB.set (by omega)
  rw [e_X7_exact]
  simp only [h.o, bS, ml0, mt0]
  obtain ⟨N, hN⟩ : ∃ N, N = me_set M B (.inr (7, mfo B 0 s)) := ⟨_, rfl⟩
  have hN' : N = me_set M B (.inr (7, [.int 0, .ref (B + 1), .ref (B + 2), .ref (B + 3), .ref (B + 4), .ref (B + 5), .ref (B + 6), .ref (B + 7), .ref (B + 8), .int (iZ (sN s)), .int (iZ (sR s)), .ref (B + 9), .int (iZ (sW s)), .ref (B + 10), .int (iZ (sT s)), .ref (B + 11)])) := hN
  rw [← hN] at m F
  rw [← hN']
  refine Al.trans F ?_
  by_cases hv : isV 10 op
  · rcases op_ix hv with rfl | rfl | rfl | ho | rfl | rfl | rfl
    · rw [if_neg (by decide), if_pos (by decide), e_X7_exact_23, if_neg (by decide), sw_x 76 (by decide), ex_76, ex_e0]
      exact fit_r m
    · rw [if_neg (by decide), if_pos (by decide), e_X7_exact_23, if_neg (by decide), sw_x 146 (by decide), ex_146, ex_e1]
      exact fit_r m
    · rw [if_neg (by decide), if_pos (by decide), e_X7_exact_23, if_neg (by decide), sw_x 216 (by decide), ex_216, ex_e2]
      exact fit_r m
    · rw [ex_eD ho]
      have hx : ∀ x : Int32, (x = 3 ∨ x = 4 ∨ x = 5 ∨ x = 6) → ¬ x < 0 ∧ x ≤ 9 ∧ ¬ (x.toInt < 0 ∨ 9 < x.toInt) ∧ ([76, 146, 216, 336, 336, 336, 336, 267, 287, 306] : List Nat)[(x.toInt - 0).toNat]? = some 336 := by
        rintro x (rfl | rfl | rfl | rfl) <;> decide
      obtain ⟨h1, h2, h3, h4⟩ := hx op ho
      rw [if_neg h1, if_pos h2, e_X7_exact_23, if_neg h3, sw_x 336 h4, e_X7_exact_336, m.i0]
      exact (quot_r m ho).ret
    · rw [if_neg (by decide), if_pos (by decide), e_X7_exact_23, if_neg (by decide), sw_x 267 (by decide), ex_267, ex_e7]
      exact fit_r m
    · rw [if_neg (by decide), if_pos (by decide), e_X7_exact_23, if_neg (by decide), sw_x 287 (by decide), ex_287, ex_e8]
      exact fit_r m
    · rw [if_neg (by decide), if_pos (by decide), e_X7_exact_23, if_neg (by decide), sw_x 306 (by decide), ex_306, ex_e9]
      exact fit_r m
  · rw [show exT op a b = (1, 0) from if_neg hv]
    obtain ⟨P, e, p1, p2, t⟩ := i_rep op
    have bad : Al N B (sm T_X7_exact (15, [(0, .ref B)], [], N, 0, 0)) 1 0 s := by
      rw [e_X7_exact_15, m.i0]
      obtain ⟨M', f, P, F⟩ := throw_l (k := 1) m
      exact ⟨M', 0, f, P, F, fun z => absurd z (by decide)⟩
    by_cases h1 : P < 0
    · rw [if_pos (by rw [e, z_0, iZ_lt (by omega) (by omega)]; exact h1)]
      exact bad
    · rw [if_neg (by rw [e, z_0, iZ_lt (by omega) (by omega)]; exact h1), if_neg (by
        rw [e, show (9 : Int32) = iZ 9 from rfl, iZ_le (by omega) (by omega)]
        intro k
        exact hv (by constructor <;> omega))]
      exact bad
