/-! the law's first steps: both objects, the long -/
theorem PF.gr {M M' : me_M} {A : Nat} {s : Sx} (h : PF M A s) (h1 : M.1 ≤ M'.1) (hk : ∀ p, p < M.1 → M'.2 p = M.2 p) (hD' : Dm M') : PF M' A s := by
  obtain ⟨vs, vf, rf, ff, lf, df, h⟩ := h
  have hD := h.rk.dm
  have sf : Sf M M' := fun x hx => hk x (by
    rcases hx with ⟨ci, fs, e, -⟩ | ⟨g, e⟩
    · exact mo_lt hD e
    · exact mi_lt hD e)
  exact ⟨vs, vf, rf, ff, lf, df, h.fk (h.rk.sf sf hD') ⟨h1, fun p hp _ => hk p hp⟩⟩
set_option maxRecDepth 4000 in
theorem lx_first {G : me_G} {p : Program} {l : Launch} {e : Env} {s : State} {m : MethodId} {below : List Frame} {meth : Method} {c : Code} {b L : Nat} {xs : Nat → Int32} (h : LX G p l s m meth c b L xs) {A : Nat} : lx_W G p l e s m below meth c b (lw_Z below #[Value.ref b] s) (0, [(0, .ref b)], [], (A, fun _ => none), 0, 0) := by
  have C := h.1
  have d0 : Dm ((A, fun _ => none) : me_M) := fun q x e => nomatch e
  have d1 : Dm (me_new (A, fun _ => none) (.inr (6, [.null, .null, .null, .null, .null, .int 0, .int 0, .int 0, .int 0, .int 0]))) := d0.new
  obtain ⟨M2, g1, P2, n2, k2⟩ := pfInit d1 (nm5 _ 6 _) rfl
  have P2 : PF M2 A s_0 := P2
  have n2 : M2.1 = A + 38 := n2
  have D2 : Dm M2 := by
    obtain ⟨vs, vf, rf, ff, lf, df, q⟩ := P2
    exact q.rk.dm
  have d3 : Dm (me_new M2 (.inr (7, [.int 0, .null, .null, .null, .null, .null, .null, .null, .null, .int 0, .int 0, .null, .int 0, .null, .int 0, .null]))) := D2.new
  obtain ⟨M4, g2, P4, n4, k4, d4⟩ := mfInit (B := M2.1) d3 (nm5 _ 7 _) rfl
  rw [n2] at g2 P4 n4 k4
  have n4 : M4.1 = A + 50 := n4
  have Q4 : PF M4 A s_0 := P2.gr (by omega) (fun p hp => (k4 p (by omega)).trans (new_ne hp)) d4
  have I : LM (me_new M4 (.inl (1, 1, .inr (.inl (fun _ => 0))))) A s_0 s_0 := ⟨Q4.gr (by rw [new_1]; omega) (fun p hp => new_ne hp) d4.new, ⟨0, P4.kp (fun p _ hp => new_ne (by omega))⟩, ⟨fun _ => 0, by rw [← n4]; exact new_eq _ _⟩, by rw [new_1]; omega⟩
  refine x_step (x_new (ci := 6) (N := 10) dL_law_0 rfl in_X6 tyX6_ok lw_cl8 w21 w1 dfX6) C (fun K => rfl) ?_
  refine x_step (x_dup dL_law_3) C (fun K => rfl) ?_
  refine x_step (x_ci (np := 0) (ci := 6) (rmz := rm_X6_init) dL_law_4 V_X6_init (Or.inl w22) w23 rfl (by decide)) C (st := (7, [(0, .ref b)], [.ref A], M2, 38, 1773)) (fun K => ?_) ?_
  · show ((me_obj (me_new (A, fun _ => none) (.inr (6, [.null, .null, .null, .null, .null, .int 0, .int 0, .int 0, .int 0, .int 0]))) 6 A).bind fun _ => (f_X6_init [.ref A] (me_new (A, fun _ => none) (.inr (6, [.null, .null, .null, .null, .null, .int 0, .int 0, .int 0, .int 0, .int 0])))).bind fun r => cond (Nat.ble 38 603072 && Nat.ble 1773 7198826) (i_rk 0 r.1 fun ts => K (7, [(0, .ref b)], ts ++ [.ref A], r.2, 38, 1773)) none) = _
    rw [show me_obj (me_new (A, fun _ => none) (.inr (6, [.null, .null, .null, .null, .null, .int 0, .int 0, .int 0, .int 0, .int 0]))) 6 A = some [.null, .null, .null, .null, .null, .int 0, .int 0, .int 0, .int 0, .int 0] from nm5 _ 6 _, show f_X6_init [.ref A] (me_new (A, fun _ => none) (.inr (6, [.null, .null, .null, .null, .null, .int 0, .int 0, .int 0, .int 0, .int 0]))) = some (none, M2) from g1]
    rfl
  refine x_step (x_asn (i := 1) dL_law_7 (by decide)) C (fun K => rfl) ?_
  refine x_step (x_new (ci := 7) (N := 16) dL_law_8 rfl in_X7 tyX7_ok lw_cl39 w768 w8 dfX7) C (st := (11, [(0, .ref b), (1, .ref A)], [.ref (A + 38)], me_new M2 (.inr (7, [.int 0, .null, .null, .null, .null, .null, .null, .null, .null, .int 0, .int 0, .null, .int 0, .null, .int 0, .null])), 39, 1789)) (fun K => ?_) ?_
  · show K (11, [(0, .ref b), (1, .ref A)], [.ref M2.1], me_new M2 (.inr (7, [.int 0, .null, .null, .null, .null, .null, .null, .null, .null, .int 0, .int 0, .null, .int 0, .null, .int 0, .null])), 39, 1789) = _
    rw [n2]
  refine x_step (x_dup dL_law_11) C (fun K => rfl) ?_
  refine x_step (x_ci (np := 0) (ci := 7) (rmz := rm_X7_init) dL_law_12 V_X7_init (Or.inl w769) w770 rfl (by decide)) C (st := (15, [(0, .ref b), (1, .ref A)], [.ref (A + 38)], M4, 50, 35822)) (fun K => ?_) ?_
  · show ((me_obj (me_new M2 (.inr (7, [.int 0, .null, .null, .null, .null, .null, .null, .null, .null, .int 0, .int 0, .null, .int 0, .null, .int 0, .null]))) 7 (A + 38)).bind fun _ => (f_X7_init [.ref (A + 38)] (me_new M2 (.inr (7, [.int 0, .null, .null, .null, .null, .null, .null, .null, .null, .int 0, .int 0, .null, .int 0, .null, .int 0, .null])))).bind fun r => cond (Nat.ble 50 603072 && Nat.ble 35822 7198826) (i_rk 0 r.1 fun ts => K (15, [(0, .ref b), (1, .ref A)], ts ++ [.ref (A + 38)], r.2, 50, 35822)) none) = _
    rw [show me_obj (me_new M2 (.inr (7, [.int 0, .null, .null, .null, .null, .null, .null, .null, .null, .int 0, .int 0, .null, .int 0, .null, .int 0, .null]))) 7 (A + 38) = some [.int 0, .null, .null, .null, .null, .null, .null, .null, .null, .int 0, .int 0, .null, .int 0, .null, .int 0, .null] from by rw [← n2]; exact nm5 _ 7 _, g2]
    rfl
  refine x_step (x_asn (i := 2) dL_law_15 (by decide)) C (fun K => rfl) ?_
  refine x_step (x_iconst (v := 1) dL_law_16 (by decide)) C (fun K => rfl) ?_
  refine x_step (x_nl dL_law_17 lw_al) C (st := (19, [(0, .ref b), (1, .ref A), (2, .ref (A + 38))], [.ref (A + 50)], me_new M4 (.inl (1, 1, .inr (.inl (fun _ => 0)))), 51, 35823)) (fun K => ?_) ?_
  · show (if (1 : Int32) < 0 ∨ 67108864 < (1 : Int32).toNatClampNeg then none else cond (Nat.ble (50 + 1) 603072 && Nat.ble (35822 + (1 : Int32).toNatClampNeg) 7198826) (K (19, [(0, .ref b), (1, .ref A), (2, .ref (A + 38))], [.ref M4.1], me_new M4 (.inl (1, (1 : Int32).toNatClampNeg, .inr (.inl (fun _ => 0)))), 50 + 1, 35822 + (1 : Int32).toNatClampNeg)) none) = _
    rw [if_neg (by decide), show (1 : Int32).toNatClampNeg = 1 from by decide, n4]
    rfl
  refine x_step (x_asn (i := 3) dL_law_19 (by decide)) C (fun K => rfl) ?_
  refine x_step (x_iconst (v := 0) dL_law_20 (by decide)) C (fun K => rfl) ?_
  refine x_step (x_is dL_law_21 (by decide)) C (fun K => rfl) ?_
  exact lx_loop h L 0 _ s_0 51 35823 (by omega) I (by omega) (by omega) (by omega)
