/-! what the acts that may throw leave, in both -/
theorem lv_value {M : me_M} {A : Nat} {s0 : Sx} {w0 w1 : Int64} (I : LM M A s0 s0) : ∃ (u : Sx) (th : Int32) (Z : Int64) (r : sm_R), f_X6_value [.ref A, .long w0, .long w1] M = some r ∧ ((∃ (x : Int32) (g : Nat → Int64), r.1 = some (.int x) ∧ r.2.2 (A + 50) = some (.inl (1, 1, .inr (.inl g)))) ∨ r.1 = some (.float 0)) ∧ TH A s0 u r th (fun _ => 1) Z ∧ ∀ (M1 : me_M) (t0 : Int32), MF M1 (A + 38) t0 s0 → ∃ (M2 : me_M) (y : Int32), f_X7_value [.ref (A + 38), .long w0, .long w1] M1 = some (some (.int y), M2) ∧ MF M2 (A + 38) th u ∧ FB M1 M2 (A + 38) ∧ (th = 0 → y.toInt64 = Z) := by
  obtain ⟨T, rfl, a1, a2, -⟩ := l_rep w0
  obtain ⟨D, rfl, b1, b2, -⟩ := l_rep w1
  by_cases hD : D = 0
  · refine ⟨s0, 1, 0, (some (.float 0), M), ?_, Or.inr rfl, ⟨I, Or.inr ⟨0, rfl, rfl, by decide⟩⟩, fun M1 t0 m => ?_⟩
    · rw [hD]; exact value_0
    · have k := valueM_g (T := T) (D := D) m a1 a2 b1 b2
      rw [if_pos hD, if_pos hD] at k
      obtain ⟨M2, e, P, F⟩ := k
      exact ⟨M2, 0, e, P, F, fun z => absurd z (by decide)⟩
  · obtain ⟨M', e, P, G⟩ := value_s I.1 a1 a2 b1 b2 hD
    obtain ⟨I', -⟩ := I.gf P G
    obtain ⟨g, hg⟩ := I'.2.2.1
    refine ⟨(tVa s0 T D).2, 0, (tVa s0 T D).1.toInt64, (some (.int (tVa s0 T D).1), M'), e, Or.inl ⟨_, g, rfl, hg⟩, ⟨I', Or.inl ⟨Or.inr ⟨_, rfl, rfl⟩, rfl⟩⟩, fun M1 t0 m => ?_⟩
    have k := valueM_g (T := T) (D := D) m a1 a2 b1 b2
    rw [if_neg hD, if_neg hD] at k
    obtain ⟨M2, e, P, F⟩ := k
    exact ⟨M2, _, e, P, F, fun _ => rfl⟩
theorem lv_over {M : me_M} {A : Nat} {s0 : Sx} {x y : Int32} (I : LM M A s0 s0) : ∃ (u : Sx) (th : Int32) (Z : Int64) (r : sm_R), f_X6_over [.ref A, .int x, .int y] M = some r ∧ ((∃ (x : Int32) (g : Nat → Int64), r.1 = some (.int x) ∧ r.2.2 (A + 50) = some (.inl (1, 1, .inr (.inl g)))) ∨ r.1 = some (.float 0)) ∧ TH A s0 u r th (fun _ => 1) Z ∧ ∀ (M1 : me_M) (t0 : Int32), MF M1 (A + 38) t0 s0 → ∃ (M2 : me_M) (z : Int32), f_X7_over [.ref (A + 38), .int x, .int y] M1 = some (some (.int z), M2) ∧ MF M2 (A + 38) th u ∧ FB M1 M2 (A + 38) ∧ (th = 0 → z.toInt64 = Z) := by
  by_cases h0 : isV (sN s0) x ∧ isV (sN s0) y ∧ (sV s0 y.toNatClampNeg).1 = 0
  · refine ⟨s0, 1, 0, (some (.float 0), M), over_0 I.1 h0, Or.inr rfl, ⟨I, Or.inr ⟨0, rfl, rfl, by decide⟩⟩, fun M1 t0 m => ?_⟩
    have k := overM_g (x := x) (y := y) m
    rw [if_pos h0, if_pos h0] at k
    obtain ⟨M2, e, P, F⟩ := k
    exact ⟨M2, 0, e, P, F, fun z => absurd z (by decide)⟩
  · obtain ⟨M', e, P, G⟩ := overV_s (x := x) (y := y) I.1 h0
    obtain ⟨I', -⟩ := I.gf P G
    obtain ⟨g, hg⟩ := I'.2.2.1
    refine ⟨(t2 s0 x y qDiv).2, 0, (t2 s0 x y qDiv).1.toInt64, (some (.int (t2 s0 x y qDiv).1), M'), e, Or.inl ⟨_, g, rfl, hg⟩, ⟨I', Or.inl ⟨Or.inr ⟨_, rfl, rfl⟩, rfl⟩⟩, fun M1 t0 m => ?_⟩
    have k := overM_g (x := x) (y := y) m
    rw [if_neg h0, if_neg h0] at k
    obtain ⟨M2, e, P, F⟩ := k
    exact ⟨M2, _, e, P, F, fun _ => rfl⟩
theorem lv_rest {M : me_M} {A : Nat} {s0 : Sx} {x y : Int32} (I : LM M A s0 s0) : ∃ (u : Sx) (th : Int32) (Z : Int64) (r : sm_R), f_X6_rest [.ref A, .int x, .int y] M = some r ∧ ((∃ (x : Int32) (g : Nat → Int64), r.1 = some (.int x) ∧ r.2.2 (A + 50) = some (.inl (1, 1, .inr (.inl g)))) ∨ r.1 = some (.float 0)) ∧ TH A s0 u r th (fun _ => 1) Z ∧ ∀ (M1 : me_M) (t0 : Int32), MF M1 (A + 38) t0 s0 → ∃ (M2 : me_M) (z : Int32), f_X7_rest [.ref (A + 38), .int x, .int y] M1 = some (some (.int z), M2) ∧ MF M2 (A + 38) th u ∧ FB M1 M2 (A + 38) ∧ (th = 0 → z.toInt64 = Z) := by
  by_cases h0 : isV (sN s0) x ∧ isV (sN s0) y ∧ (sV s0 y.toNatClampNeg).1 = 0
  · refine ⟨s0, 1, 0, (some (.float 0), M), rest_0 I.1 h0, Or.inr rfl, ⟨I, Or.inr ⟨0, rfl, rfl, by decide⟩⟩, fun M1 t0 m => ?_⟩
    have k := restM_g (x := x) (y := y) m
    rw [if_pos h0, if_pos h0] at k
    obtain ⟨M2, e, P, F⟩ := k
    exact ⟨M2, 0, e, P, F, fun z => absurd z (by decide)⟩
  · obtain ⟨M', e, P, G⟩ := restV_s (x := x) (y := y) I.1 h0
    obtain ⟨I', -⟩ := I.gf P G
    obtain ⟨g, hg⟩ := I'.2.2.1
    refine ⟨(t2 s0 x y qRem).2, 0, (t2 s0 x y qRem).1.toInt64, (some (.int (t2 s0 x y qRem).1), M'), e, Or.inl ⟨_, g, rfl, hg⟩, ⟨I', Or.inl ⟨Or.inr ⟨_, rfl, rfl⟩, rfl⟩⟩, fun M1 t0 m => ?_⟩
    have k := restM_g (x := x) (y := y) m
    rw [if_neg h0, if_neg h0] at k
    obtain ⟨M2, e, P, F⟩ := k
    exact ⟨M2, _, e, P, F, fun _ => rfl⟩
theorem pa_c (s : Sx) (x p : Int32) : paT s x p = 0 ∨ paT s x p = 1 ∨ paT s x p = 2 := by
  unfold paT
  split
  · split
    · exact Or.inl rfl
    · exact Or.inr (Or.inr rfl)
  · exact Or.inr (Or.inl rfl)
theorem li_c (s : Sx) (x p k : Int32) : liT s x p k = 0 ∨ liT s x p k = 1 ∨ liT s x p k = 2 := by
  unfold liT
  split
  · split
    · exact Or.inl rfl
    · exact Or.inr (Or.inr rfl)
  · exact Or.inr (Or.inl rfl)
theorem ftx_1 (p : Prop) [Decidable p] (v : Int64) : (ftx p v).1 = 0 ∨ (ftx p v).1 = 2 := by
  unfold ftx
  by_cases h : p
  · rw [if_pos h]; exact Or.inl rfl
  · rw [if_neg h]; exact Or.inr rfl
theorem exD_1 (op : Int32) (a b : Int64) : (exD op a b).1 = 0 ∨ (exD op a b).1 = 2 := by
  by_cases h0 : b = 0
  · rw [exD_0 h0]; exact Or.inr rfl
  · by_cases hb : b = -1
    · rw [exD_m h0 hb]
      by_cases ho : op = 4 ∨ op = 6
      · rw [if_pos ho]; exact Or.inl rfl
      · rw [if_neg ho]; exact ftx_1 _ _
    · rw [exD_g h0 hb]; exact Or.inl rfl
theorem ex_c (op : Int32) (a b : Int64) : (exT op a b).1 = 0 ∨ (exT op a b).1 = 1 ∨ (exT op a b).1 = 2 := by
  by_cases h : isV 10 op
  · have k : (exT op a b).1 = 0 ∨ (exT op a b).1 = 2 := by
      rcases op_ix h with rfl | rfl | rfl | ho | rfl | rfl | rfl
      · rw [ex_e0]; exact ftx_1 _ _
      · rw [ex_e1]; exact ftx_1 _ _
      · rw [ex_e2]; exact ftx_1 _ _
      · rw [ex_eD ho]; exact exD_1 _ _ _
      · rw [ex_e7]; exact ftx_1 _ _
      · rw [ex_e8]; exact ftx_1 _ _
      · rw [ex_e9]; exact ftx_1 _ _
    exact k.elim Or.inl (fun k => Or.inr (Or.inr k))
  · rw [show exT op a b = (1, 0) from if_neg h]
    exact Or.inr (Or.inl rfl)
theorem cd_1 : (if (1 : UInt32) = 1 then (1 : Int32) else 2) = 1 := if_pos rfl
theorem cd_0 : (if (0 : UInt32) = 1 then (1 : Int32) else 2) = 2 := if_neg (by decide)
theorem cd_2 : (if (2 : UInt32) = 1 then (1 : Int32) else 2) = 2 := if_neg (by decide)
theorem lv_part {M : me_M} {A : Nat} {s0 : Sx} {x p : Int32} (I : LM M A s0 s0) : ∃ (u : Sx) (th : Int32) (Z : Int64) (r : sm_R), f_X6_part [.ref A, .int x, .int p] M = some r ∧ ((∃ (x : Int64) (g : Nat → Int64), r.1 = some (.long x) ∧ r.2.2 (A + 50) = some (.inl (1, 1, .inr (.inl g)))) ∨ r.1 = some (.float 1) ∨ r.1 = some (.float 0)) ∧ TH A s0 u r th (fun k => if k = 1 then 1 else 2) Z ∧ ∀ (M1 : me_M) (t0 : Int32), MF M1 (A + 38) t0 s0 → ∃ (M2 : me_M) (y : Int64), f_X7_part [.ref (A + 38), .int x, .int p] M1 = some (some (.long y), M2) ∧ MF M2 (A + 38) th u ∧ FB M1 M2 (A + 38) ∧ (th = 0 → y = Z) := by
  obtain ⟨g, hg⟩ := I.2.2.1
  have ref : ∀ (M1 : me_M) (t0 : Int32), MF M1 (A + 38) t0 s0 → ∃ (M2 : me_M) (y : Int64), f_X7_part [.ref (A + 38), .int x, .int p] M1 = some (some (.long y), M2) ∧ MF M2 (A + 38) (paT s0 x p) s0 ∧ FB M1 M2 (A + 38) ∧ (paT s0 x p = 0 → y = paV s0 x p) := fun M1 t0 m => by
    obtain ⟨M2, w, e, P, F, k⟩ := partM_g (x := x) (p := p) m
    exact ⟨M2, w, e, P, F, k⟩
  refine ⟨s0, paT s0 x p, paV s0 x p, (some (paR s0 x p), M), partV_s I.1, ?_, ⟨I, ?_⟩, ref⟩
  · rcases pa_c s0 x p with h | h | h
    · exact Or.inl ⟨paV s0 x p, g, by show some (paR s0 x p) = _; unfold paR; rw [if_pos h], hg⟩
    · exact Or.inr (Or.inl (by show some (paR s0 x p) = _; unfold paR; rw [if_neg (by rw [h]; decide), if_pos h]))
    · exact Or.inr (Or.inr (by show some (paR s0 x p) = _; unfold paR; rw [if_neg (by rw [h]; decide), if_neg (by rw [h]; decide)]))
  · rcases pa_c s0 x p with h | h | h
    · exact Or.inl ⟨Or.inl (by show some (paR s0 x p) = _; unfold paR; rw [if_pos h]), h⟩
    · exact Or.inr ⟨1, by show some (paR s0 x p) = _; unfold paR; rw [if_neg (by rw [h]; decide), if_pos h], by rw [h]; exact cd_1.symm, by rw [h]; decide⟩
    · exact Or.inr ⟨0, by show some (paR s0 x p) = _; unfold paR; rw [if_neg (by rw [h]; decide), if_neg (by rw [h]; decide)], by rw [h]; exact cd_0.symm, by rw [h]; decide⟩
theorem lv_limb {M : me_M} {A : Nat} {s0 : Sx} {x p q : Int32} (I : LM M A s0 s0) : ∃ (u : Sx) (th : Int32) (Z : Int64) (r : sm_R), f_X6_limb [.ref A, .int x, .int p, .int q] M = some r ∧ ((∃ (x : Int32) (g : Nat → Int64), r.1 = some (.int x) ∧ r.2.2 (A + 50) = some (.inl (1, 1, .inr (.inl g)))) ∨ r.1 = some (.float 1) ∨ r.1 = some (.float 2)) ∧ TH A s0 u r th (fun k => if k = 1 then 1 else 2) Z ∧ ∀ (M1 : me_M) (t0 : Int32), MF M1 (A + 38) t0 s0 → ∃ (M2 : me_M) (y : Int32), f_X7_limb [.ref (A + 38), .int x, .int p, .int q] M1 = some (some (.int y), M2) ∧ MF M2 (A + 38) th u ∧ FB M1 M2 (A + 38) ∧ (th = 0 → y.toInt64 = Z) := by
  obtain ⟨g, hg⟩ := I.2.2.1
  have ref : ∀ (M1 : me_M) (t0 : Int32), MF M1 (A + 38) t0 s0 → ∃ (M2 : me_M) (y : Int32), f_X7_limb [.ref (A + 38), .int x, .int p, .int q] M1 = some (some (.int y), M2) ∧ MF M2 (A + 38) (liT s0 x p q) s0 ∧ FB M1 M2 (A + 38) ∧ (liT s0 x p q = 0 → y.toInt64 = (liV s0 x p q).toInt64) := fun M1 t0 m => by
    obtain ⟨M2, w, e, P, F, k⟩ := limbM_g (x := x) (p := p) (k := q) m
    exact ⟨M2, w, e, P, F, fun z => by rw [k z]⟩
  refine ⟨s0, liT s0 x p q, (liV s0 x p q).toInt64, (some (liR s0 x p q), M), limbV_s I.1, ?_, ⟨I, ?_⟩, ref⟩
  · rcases li_c s0 x p q with h | h | h
    · exact Or.inl ⟨liV s0 x p q, g, by show some (liR s0 x p q) = _; unfold liR; rw [if_pos h], hg⟩
    · exact Or.inr (Or.inl (by show some (liR s0 x p q) = _; unfold liR; rw [if_neg (by rw [h]; decide), if_pos h]))
    · exact Or.inr (Or.inr (by show some (liR s0 x p q) = _; unfold liR; rw [if_neg (by rw [h]; decide), if_neg (by rw [h]; decide)]))
  · rcases li_c s0 x p q with h | h | h
    · exact Or.inl ⟨Or.inr ⟨liV s0 x p q, by show some (liR s0 x p q) = _; unfold liR; rw [if_pos h], rfl⟩, h⟩
    · exact Or.inr ⟨1, by show some (liR s0 x p q) = _; unfold liR; rw [if_neg (by rw [h]; decide), if_pos h], by rw [h]; exact cd_1.symm, by rw [h]; decide⟩
    · exact Or.inr ⟨2, by show some (liR s0 x p q) = _; unfold liR; rw [if_neg (by rw [h]; decide), if_neg (by rw [h]; decide)], by rw [h]; exact cd_2.symm, by rw [h]; decide⟩
theorem lv_exact {M : me_M} {A : Nat} {s0 : Sx} {x : Int32} {a b : Int64} (I : LM M A s0 s0) : ∃ (u : Sx) (th : Int32) (Z : Int64) (r : sm_R), f_X6_exact [.ref A, .int x, .long a, .long b] M = some r ∧ ((∃ (x : Int64) (g : Nat → Int64), r.1 = some (.long x) ∧ r.2.2 (A + 50) = some (.inl (1, 1, .inr (.inl g)))) ∨ r.1 = some (.float 1) ∨ r.1 = some (.float 0)) ∧ TH A s0 u r th (fun k => if k = 1 then 1 else 2) Z ∧ ∀ (M1 : me_M) (t0 : Int32), MF M1 (A + 38) t0 s0 → ∃ (M2 : me_M) (y : Int64), f_X7_exact [.ref (A + 38), .int x, .long a, .long b] M1 = some (some (.long y), M2) ∧ MF M2 (A + 38) th u ∧ FB M1 M2 (A + 38) ∧ (th = 0 → y = Z) := by
  obtain ⟨g, hg⟩ := I.2.2.1
  have ref : ∀ (M1 : me_M) (t0 : Int32), MF M1 (A + 38) t0 s0 → ∃ (M2 : me_M) (y : Int64), f_X7_exact [.ref (A + 38), .int x, .long a, .long b] M1 = some (some (.long y), M2) ∧ MF M2 (A + 38) ((exT x a b).1) s0 ∧ FB M1 M2 (A + 38) ∧ ((exT x a b).1 = 0 → y = (exT x a b).2) := fun M1 t0 m => by
    obtain ⟨M2, w, e, P, F, k⟩ := exactM_g (op := x) (a := a) (b := b) m
    exact ⟨M2, w, e, P, F, k⟩
  refine ⟨s0, (exT x a b).1, (exT x a b).2, (some (exR (exT x a b)), M), exactV_s, ?_, ⟨I, ?_⟩, ref⟩
  · rcases ex_c x a b with h | h | h
    · exact Or.inl ⟨(exT x a b).2, g, by show some (exR (exT x a b)) = _; unfold exR; rw [if_pos h], hg⟩
    · exact Or.inr (Or.inl (by show some (exR (exT x a b)) = _; unfold exR; rw [if_neg (by rw [h]; decide), if_pos h]))
    · exact Or.inr (Or.inr (by show some (exR (exT x a b)) = _; unfold exR; rw [if_neg (by rw [h]; decide), if_neg (by rw [h]; decide)]))
  · rcases ex_c x a b with h | h | h
    · exact Or.inl ⟨Or.inl (by show some (exR (exT x a b)) = _; unfold exR; rw [if_pos h]), h⟩
    · exact Or.inr ⟨1, by show some (exR (exT x a b)) = _; unfold exR; rw [if_neg (by rw [h]; decide), if_pos h], by rw [h]; exact cd_1.symm, by rw [h]; decide⟩
    · exact Or.inr ⟨0, by show some (exR (exT x a b)) = _; unfold exR; rw [if_neg (by rw [h]; decide), if_neg (by rw [h]; decide)], by rw [h]; exact cd_0.symm, by rw [h]; decide⟩
set_option maxRecDepth 4000 in
theorem lx_body {G : me_G} {p : Program} {l : Launch} {e : Env} {s : State} {m : MethodId} {below : List Frame} {meth : Method} {c : Code} {b L : Nat} {xs : Nat → Int32} {Q : State → Prop} (h : LX G p l s m meth c b L xs) {A i : Nat} {s0 : Sx} {M : me_M} {k n : Nat} (I0 : LM M A s0 s0) (hi : i + 6 ≤ L) (hk : k + 130 ≤ 603072) (hn : n + 3400 ≤ 7198826) (next : ∀ (M' : me_M) (s' : Sx) (k' n' : Nat), LM M' A s' s' → k' ≤ k + 130 → n' ≤ n + 3400 → lx_W G p l e s m below meth c b Q (1422, lwl b A i [], [], M', k', n')) : lx_W G p l e s m below meth c b Q (33, lwl b A i [], [], M, k, n) := by
  have C := h.1
  refine x_step (x_aln (i := 0) dL_law_33) C (fun K => rfl) ?_
  refine x_step (x_il dL_law_34) C (fun K => rfl) ?_
  refine lx_ld h dL_law_36 (i := i) (by omega) ?_
  refine x_step (x_bipush (v := 31) dL_law_37 (by decide)) C (fun K => rfl) ?_
  refine x_step (x_iand dL_law_39) C (fun K => rfl) ?_
  obtain ⟨v, hv⟩ : ∃ v, v = xs i &&& 31 := ⟨_, rfl⟩
  show lx_W G p l e s m below meth c b Q (40, lwl b A i [], [.int (xs i &&& 31)], M, k, n)
  rw [← hv]
  have ts := x_ts (y := yL_law) (cc := code) (nL := 8) (ret := ret) (rm := room_1) (pc := 40) (df := 1422) (tg := [160, 292, 329, 366, 403, 471, 539, 576, 613, 650, 687, 754, 834, 977, 1002, 1051, 1088, 1125, 1162, 1211, 1236, 1261, 1310, 1359, 1384, 1409]) dL_law_40 (by decide) (by decide)
  by_cases hr : v.toInt < 0 ∨ 25 < v.toInt
  · exact x_step ts C (fun K => if_pos hr) (next _ _ _ _ I0 (by omega) (by omega))
  · obtain ⟨t, et⟩ : ∃ t : Nat, v.toInt = t := ⟨v.toInt.toNat, by omega⟩
    have key : ∀ q : Nat, ([160, 292, 329, 366, 403, 471, 539, 576, 613, 650, 687, 754, 834, 977, 1002, 1051, 1088, 1125, 1162, 1211, 1236, 1261, 1310, 1359, 1384, 1409] : List Nat)[t]? = some q → lx_W G p l e s m below meth c b Q (q, lwl b A i [], [], M, k, n) → lx_W G p l e s m below meth c b Q (40, lwl b A i [], [.int v], M, k, n) := fun q hq hw => x_step ts C (fun K => by
      show (if v.toInt < 0 ∨ 25 < v.toInt then K (1422, lwl b A i [], [], M, k, n) else (([160, 292, 329, 366, 403, 471, 539, 576, 613, 650, 687, 754, 834, 977, 1002, 1051, 1088, 1125, 1162, 1211, 1236, 1261, 1310, 1359, 1384, 1409] : List Nat)[(v.toInt - 0).toNat]?).bind fun q => K (q, lwl b A i [], [], M, k, n)) = _
      rw [if_neg hr, show (v.toInt - 0).toNat = t by omega, hq]
      rfl) hw
    rcases (show t = 0 ∨ t = 1 ∨ t = 2 ∨ t = 3 ∨ t = 4 ∨ t = 5 ∨ t = 6 ∨ t = 7 ∨ t = 8 ∨ t = 9 ∨ t = 10 ∨ t = 11 ∨ t = 12 ∨ t = 13 ∨ t = 14 ∨ t = 15 ∨ t = 16 ∨ t = 17 ∨ t = 18 ∨ t = 19 ∨ t = 20 ∨ t = 21 ∨ t = 22 ∨ t = 23 ∨ t = 24 ∨ t = 25 by omega) with rfl | rfl | rfl | rfl | rfl | rfl | rfl | rfl | rfl | rfl | rfl | rfl | rfl | rfl | rfl | rfl | rfl | rfl | rfl | rfl | rfl | rfl | rfl | rfl | rfl | rfl
    · obtain ⟨u, th, Z, r, fC, hr, hTH, hRef⟩ := lv_value (w0 := lgw (xs (i + 1)) (xs (i + 2))) (w1 := lgw (xs (i + 3)) (xs (i + 4))) I0
      exact key 160 rfl (lc_value h I0 hi hk hn next fC hr hTH hRef)
    · exact key 292 rfl (lc_add h I0 hi hk hn next)
    · exact key 329 rfl (lc_less h I0 hi hk hn next)
    · exact key 366 rfl (lc_times h I0 hi hk hn next)
    · obtain ⟨u, th, Z, r, fC, hr, hTH, hRef⟩ := lv_over (x := xs (i + 1)) (y := xs (i + 2)) I0
      exact key 403 rfl (lc_over h I0 hi hk hn next fC hr hTH hRef)
    · obtain ⟨u, th, Z, r, fC, hr, hTH, hRef⟩ := lv_rest (x := xs (i + 1)) (y := xs (i + 2)) I0
      exact key 471 rfl (lc_rest h I0 hi hk hn next fC hr hTH hRef)
    · exact key 539 rfl (lc_measure h I0 hi hk hn next)
    · exact key 576 rfl (lc_whole h I0 hi hk hn next)
    · exact key 613 rfl (lc_order h I0 hi hk hn next)
    · exact key 650 rfl (lc_of h I0 hi hk hn next)
    · obtain ⟨u, th, Z, r, fC, hr, hTH, hRef⟩ := lv_part (x := xs (i + 1)) (p := xs (i + 2)) I0
      exact key 687 rfl (lc_part h I0 hi hk hn next fC hr hTH hRef)
    · obtain ⟨u, th, Z, r, fC, hr, hTH, hRef⟩ := lv_limb (x := xs (i + 1)) (p := xs (i + 2)) (q := xs (i + 3)) I0
      exact key 754 rfl (lc_limb h I0 hi hk hn next fC hr hTH hRef)
    · obtain ⟨u, th, Z, r, fC, hr, hTH, hRef⟩ := lv_exact (x := xs (i + 1)) (a := lgw (xs (i + 2)) (xs (i + 3))) (b := lgw (xs (i + 4)) (xs (i + 5))) I0
      exact key 834 rfl (lc_exact h I0 hi hk hn next fC hr hTH hRef)
    · exact key 977 rfl (lc_row h I0 hi hk hn next)
    · exact key 1002 rfl (lc_put h I0 hi hk hn next)
    · exact key 1051 rfl (lc_take h I0 hi hk hn next)
    · exact key 1088 rfl (lc_dot h I0 hi hk hn next)
    · exact key 1125 rfl (lc_scale h I0 hi hk hn next)
    · exact key 1162 rfl (lc_eliminate h I0 hi hk hn next)
    · exact key 1211 rfl (lc_primitive h I0 hi hk hn next)
    · exact key 1236 rfl (lc_lead h I0 hi hk hn next)
    · exact key 1261 rfl (lc_alike h I0 hi hk hn next)
    · exact key 1310 rfl (lc_decimal h I0 hi hk hn next)
    · exact key 1359 rfl (lc_letter h I0 hi hk hn next)
    · exact key 1384 rfl (lc_count h I0 hi hk hn next)
    · exact key 1409 rfl (lc_clear h I0 hi hk hn next)
