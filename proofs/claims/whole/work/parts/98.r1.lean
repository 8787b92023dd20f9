set_option maxRecDepth 4000
theorem lc_add {G : me_G} {p : Program} {l : Launch} {e : Env} {s : State} {m : MethodId} {below : List Frame} {meth : Method} {c : Code} {b L : Nat} {xs : Nat → Int32} {Q : State → Prop} (h : LX G p l s m meth c b L xs) {A i : Nat} {s0 : Sx} {M : me_M} {k n : Nat} (I0 : LM M A s0 s0) (hi : i + 6 ≤ L) (hk : k + 130 ≤ 603072) (hn : n + 3400 ≤ 7198826) (next : ∀ (M' : me_M) (s' : Sx) (k' n' : Nat), LM M' A s' s' → k' ≤ k + 130 → n' ≤ n + 3400 → lx_W G p l e s m below meth c b Q (1422, lwl b A i [], [], M', k', n')) : lx_W G p l e s m below meth c b Q (292, lwl b A i [], [], M, k, n) := by
  have C := h.1
  have hL := h.2.2.2.2.2.2.2
  obtain ⟨fA, oA⟩ := I0.oA
  obtain ⟨M1, f1, I1⟩ := I0.ac (r := f_X6_add [.ref A, .int (xs (i + 1)), .int (xs (i + 2))] M) (add_s I0.1)
  obtain ⟨fB, oB⟩ := I1.oB
  obtain ⟨th, m0⟩ := I1.2.1
  obtain ⟨M2, f2, I2, -, -⟩ := I1.am (r := f_X7_add [.ref (A + 38), .int (xs (i + 1)), .int (xs (i + 2))] M1) (addM_g m0)
  refine x_step (x_aln (i := 1) dL_law_292) C (fun K => rfl) ?_
  refine lx_arg h (j := 1) (by omega) (by decide) dL_law_293 dL_law_294 dL_law_296 dL_law_297 dL_law_298 ?_
  refine lx_arg h (j := 2) (by omega) (by decide) dL_law_299 dL_law_300 dL_law_302 dL_law_303 dL_law_304 ?_
  refine lx_v (as := [.int (xs (i + 1)), .int (xs (i + 2))]) (rest := []) (A := A) (ci := 6) (rmz := rm_X6_add) h dL_law_305 V_X6_add w209 w210 w211 rfl (by decide) oA rfl (Nat.le_of_ble_eq_true rfl) f1 (show k + 6 ≤ 603072 by omega) (show n + 154 ≤ 7198826 by omega) ?_
  refine x_step (x_aln (i := 2) dL_law_308) C (fun K => rfl) ?_
  refine lx_arg h (j := 1) (by omega) (by decide) dL_law_309 dL_law_310 dL_law_312 dL_law_313 dL_law_314 ?_
  refine lx_arg h (j := 2) (by omega) (by decide) dL_law_315 dL_law_316 dL_law_318 dL_law_319 dL_law_320 ?_
  refine lx_v (as := [.int (xs (i + 1)), .int (xs (i + 2))]) (rest := [.int _]) (A := (A + 38)) (ci := 7) (rmz := rm_X7_add) h dL_law_321 V_X7_add w900 w901 w902 rfl (by decide) oB rfl (Nat.le_of_ble_eq_true rfl) f2 (show k + 6 + 0 ≤ 603072 by omega) (show n + 154 + 0 ≤ 7198826 by omega) ?_
  refine x_step (x_ic_eq (tgt := 1422) dL_law_324 (by decide)) C (fun K => if_pos rfl) ?_
  exact next M2 _ _ _ I2 (show k + 6 + 0 ≤ k + 130 by omega) (show n + 154 + 0 ≤ n + 3400 by omega)
theorem lc_less {G : me_G} {p : Program} {l : Launch} {e : Env} {s : State} {m : MethodId} {below : List Frame} {meth : Method} {c : Code} {b L : Nat} {xs : Nat → Int32} {Q : State → Prop} (h : LX G p l s m meth c b L xs) {A i : Nat} {s0 : Sx} {M : me_M} {k n : Nat} (I0 : LM M A s0 s0) (hi : i + 6 ≤ L) (hk : k + 130 ≤ 603072) (hn : n + 3400 ≤ 7198826) (next : ∀ (M' : me_M) (s' : Sx) (k' n' : Nat), LM M' A s' s' → k' ≤ k + 130 → n' ≤ n + 3400 → lx_W G p l e s m below meth c b Q (1422, lwl b A i [], [], M', k', n')) : lx_W G p l e s m below meth c b Q (329, lwl b A i [], [], M, k, n) := by
  have C := h.1
  have hL := h.2.2.2.2.2.2.2
  obtain ⟨fA, oA⟩ := I0.oA
  obtain ⟨M1, f1, I1⟩ := I0.ac (r := f_X6_less [.ref A, .int (xs (i + 1)), .int (xs (i + 2))] M) (less_s I0.1)
  obtain ⟨fB, oB⟩ := I1.oB
  obtain ⟨th, m0⟩ := I1.2.1
  obtain ⟨M2, f2, I2, -, -⟩ := I1.am (r := f_X7_less [.ref (A + 38), .int (xs (i + 1)), .int (xs (i + 2))] M1) (lessM_g m0)
  refine x_step (x_aln (i := 1) dL_law_329) C (fun K => rfl) ?_
  refine lx_arg h (j := 1) (by omega) (by decide) dL_law_330 dL_law_331 dL_law_333 dL_law_334 dL_law_335 ?_
  refine lx_arg h (j := 2) (by omega) (by decide) dL_law_336 dL_law_337 dL_law_339 dL_law_340 dL_law_341 ?_
  refine lx_v (as := [.int (xs (i + 1)), .int (xs (i + 2))]) (rest := []) (A := A) (ci := 6) (rmz := rm_X6_less) h dL_law_342 V_X6_less w375 w376 w377 rfl (by decide) oA rfl (Nat.le_of_ble_eq_true rfl) f1 (show k + 6 ≤ 603072 by omega) (show n + 154 ≤ 7198826 by omega) ?_
  refine x_step (x_aln (i := 2) dL_law_345) C (fun K => rfl) ?_
  refine lx_arg h (j := 1) (by omega) (by decide) dL_law_346 dL_law_347 dL_law_349 dL_law_350 dL_law_351 ?_
  refine lx_arg h (j := 2) (by omega) (by decide) dL_law_352 dL_law_353 dL_law_355 dL_law_356 dL_law_357 ?_
  refine lx_v (as := [.int (xs (i + 1)), .int (xs (i + 2))]) (rest := [.int _]) (A := (A + 38)) (ci := 7) (rmz := rm_X7_less) h dL_law_358 V_X7_less w948 w949 w950 rfl (by decide) oB rfl (Nat.le_of_ble_eq_true rfl) f2 (show k + 6 + 0 ≤ 603072 by omega) (show n + 154 + 0 ≤ 7198826 by omega) ?_
  refine x_step (x_ic_eq (tgt := 1422) dL_law_361 (by decide)) C (fun K => if_pos rfl) ?_
  exact next M2 _ _ _ I2 (show k + 6 + 0 ≤ k + 130 by omega) (show n + 154 + 0 ≤ n + 3400 by omega)
theorem lc_times {G : me_G} {p : Program} {l : Launch} {e : Env} {s : State} {m : MethodId} {below : List Frame} {meth : Method} {c : Code} {b L : Nat} {xs : Nat → Int32} {Q : State → Prop} (h : LX G p l s m meth c b L xs) {A i : Nat} {s0 : Sx} {M : me_M} {k n : Nat} (I0 : LM M A s0 s0) (hi : i + 6 ≤ L) (hk : k + 130 ≤ 603072) (hn : n + 3400 ≤ 7198826) (next : ∀ (M' : me_M) (s' : Sx) (k' n' : Nat), LM M' A s' s' → k' ≤ k + 130 → n' ≤ n + 3400 → lx_W G p l e s m below meth c b Q (1422, lwl b A i [], [], M', k', n')) : lx_W G p l e s m below meth c b Q (366, lwl b A i [], [], M, k, n) := by
  have C := h.1
  have hL := h.2.2.2.2.2.2.2
  obtain ⟨fA, oA⟩ := I0.oA
  obtain ⟨M1, f1, I1⟩ := I0.ac (r := f_X6_times [.ref A, .int (xs (i + 1)), .int (xs (i + 2))] M) (times_s I0.1)
  obtain ⟨fB, oB⟩ := I1.oB
  obtain ⟨th, m0⟩ := I1.2.1
  obtain ⟨M2, f2, I2, -, -⟩ := I1.am (r := f_X7_times [.ref (A + 38), .int (xs (i + 1)), .int (xs (i + 2))] M1) (timesM_g m0)
  refine x_step (x_aln (i := 1) dL_law_366) C (fun K => rfl) ?_
  refine lx_arg h (j := 1) (by omega) (by decide) dL_law_367 dL_law_368 dL_law_370 dL_law_371 dL_law_372 ?_
  refine lx_arg h (j := 2) (by omega) (by decide) dL_law_373 dL_law_374 dL_law_376 dL_law_377 dL_law_378 ?_
  refine lx_v (as := [.int (xs (i + 1)), .int (xs (i + 2))]) (rest := []) (A := A) (ci := 6) (rmz := rm_X6_times) h dL_law_379 V_X6_times w379 w380 w381 rfl (by decide) oA rfl (Nat.le_of_ble_eq_true rfl) f1 (show k + 5 ≤ 603072 by omega) (show n + 151 ≤ 7198826 by omega) ?_
  refine x_step (x_aln (i := 2) dL_law_382) C (fun K => rfl) ?_
  refine lx_arg h (j := 1) (by omega) (by decide) dL_law_383 dL_law_384 dL_law_386 dL_law_387 dL_law_388 ?_
  refine lx_arg h (j := 2) (by omega) (by decide) dL_law_389 dL_law_390 dL_law_392 dL_law_393 dL_law_394 ?_
  refine lx_v (as := [.int (xs (i + 1)), .int (xs (i + 2))]) (rest := [.int _]) (A := (A + 38)) (ci := 7) (rmz := rm_X7_times) h dL_law_395 V_X7_times w952 w953 w954 rfl (by decide) oB rfl (Nat.le_of_ble_eq_true rfl) f2 (show k + 5 + 0 ≤ 603072 by omega) (show n + 151 + 0 ≤ 7198826 by omega) ?_
  refine x_step (x_ic_eq (tgt := 1422) dL_law_398 (by decide)) C (fun K => if_pos rfl) ?_
  exact next M2 _ _ _ I2 (show k + 5 + 0 ≤ k + 130 by omega) (show n + 151 + 0 ≤ n + 3400 by omega)
theorem lc_measure {G : me_G} {p : Program} {l : Launch} {e : Env} {s : State} {m : MethodId} {below : List Frame} {meth : Method} {c : Code} {b L : Nat} {xs : Nat → Int32} {Q : State → Prop} (h : LX G p l s m meth c b L xs) {A i : Nat} {s0 : Sx} {M : me_M} {k n : Nat} (I0 : LM M A s0 s0) (hi : i + 6 ≤ L) (hk : k + 130 ≤ 603072) (hn : n + 3400 ≤ 7198826) (next : ∀ (M' : me_M) (s' : Sx) (k' n' : Nat), LM M' A s' s' → k' ≤ k + 130 → n' ≤ n + 3400 → lx_W G p l e s m below meth c b Q (1422, lwl b A i [], [], M', k', n')) : lx_W G p l e s m below meth c b Q (539, lwl b A i [], [], M, k, n) := by
  have C := h.1
  have hL := h.2.2.2.2.2.2.2
  obtain ⟨fA, oA⟩ := I0.oA
  obtain ⟨M1, f1, I1⟩ := I0.ac (r := f_X6_measure [.ref A, .int (xs (i + 1)), .int (xs (i + 2))] M) (measureV_s I0.1)
  obtain ⟨fB, oB⟩ := I1.oB
  obtain ⟨th, m0⟩ := I1.2.1
  obtain ⟨M2, f2, I2, -, -⟩ := I1.am (r := f_X7_measure [.ref (A + 38), .int (xs (i + 1)), .int (xs (i + 2))] M1) (measureM_g m0)
  refine x_step (x_aln (i := 1) dL_law_539) C (fun K => rfl) ?_
  refine lx_arg h (j := 1) (by omega) (by decide) dL_law_540 dL_law_541 dL_law_543 dL_law_544 dL_law_545 ?_
  refine lx_arg h (j := 2) (by omega) (by decide) dL_law_546 dL_law_547 dL_law_549 dL_law_550 dL_law_551 ?_
  refine lx_v (as := [.int (xs (i + 1)), .int (xs (i + 2))]) (rest := []) (A := A) (ci := 6) (rmz := rm_X6_measure) h dL_law_552 V_X6_measure w391 w392 w393 rfl (by decide) oA rfl (Nat.le_of_ble_eq_true rfl) f1 (show k + 5 ≤ 603072 by omega) (show n + 151 ≤ 7198826 by omega) ?_
  refine x_step (x_aln (i := 2) dL_law_555) C (fun K => rfl) ?_
  refine lx_arg h (j := 1) (by omega) (by decide) dL_law_556 dL_law_557 dL_law_559 dL_law_560 dL_law_561 ?_
  refine lx_arg h (j := 2) (by omega) (by decide) dL_law_562 dL_law_563 dL_law_565 dL_law_566 dL_law_567 ?_
  refine lx_v (as := [.int (xs (i + 1)), .int (xs (i + 2))]) (rest := [.int _]) (A := (A + 38)) (ci := 7) (rmz := rm_X7_measure) h dL_law_568 V_X7_measure w964 w965 w966 rfl (by decide) oB rfl (Nat.le_of_ble_eq_true rfl) f2 (show k + 5 + 0 ≤ 603072 by omega) (show n + 151 + 0 ≤ 7198826 by omega) ?_
  refine x_step (x_ic_eq (tgt := 1422) dL_law_571 (by decide)) C (fun K => if_pos rfl) ?_
  exact next M2 _ _ _ I2 (show k + 5 + 0 ≤ k + 130 by omega) (show n + 151 + 0 ≤ n + 3400 by omega)
theorem lc_whole {G : me_G} {p : Program} {l : Launch} {e : Env} {s : State} {m : MethodId} {below : List Frame} {meth : Method} {c : Code} {b L : Nat} {xs : Nat → Int32} {Q : State → Prop} (h : LX G p l s m meth c b L xs) {A i : Nat} {s0 : Sx} {M : me_M} {k n : Nat} (I0 : LM M A s0 s0) (hi : i + 6 ≤ L) (hk : k + 130 ≤ 603072) (hn : n + 3400 ≤ 7198826) (next : ∀ (M' : me_M) (s' : Sx) (k' n' : Nat), LM M' A s' s' → k' ≤ k + 130 → n' ≤ n + 3400 → lx_W G p l e s m below meth c b Q (1422, lwl b A i [], [], M', k', n')) : lx_W G p l e s m below meth c b Q (576, lwl b A i [], [], M, k, n) := by
  have C := h.1
  have hL := h.2.2.2.2.2.2.2
  obtain ⟨fA, oA⟩ := I0.oA
  obtain ⟨M1, f1, I1⟩ := I0.ac (r := f_X6_whole [.ref A, .int (xs (i + 1)), .int (xs (i + 2))] M) (wholeV_s I0.1)
  obtain ⟨fB, oB⟩ := I1.oB
  obtain ⟨th, m0⟩ := I1.2.1
  obtain ⟨M2, f2, I2, -, -⟩ := I1.am (r := f_X7_whole [.ref (A + 38), .int (xs (i + 1)), .int (xs (i + 2))] M1) (wholeM_g m0)
  refine x_step (x_aln (i := 1) dL_law_576) C (fun K => rfl) ?_
  refine lx_arg h (j := 1) (by omega) (by decide) dL_law_577 dL_law_578 dL_law_580 dL_law_581 dL_law_582 ?_
  refine lx_arg h (j := 2) (by omega) (by decide) dL_law_583 dL_law_584 dL_law_586 dL_law_587 dL_law_588 ?_
  refine lx_v (as := [.int (xs (i + 1)), .int (xs (i + 2))]) (rest := []) (A := A) (ci := 6) (rmz := rm_X6_whole) h dL_law_589 V_X6_whole w399 w400 w401 rfl (by decide) oA rfl (Nat.le_of_ble_eq_true rfl) f1 (show k + 5 ≤ 603072 by omega) (show n + 151 ≤ 7198826 by omega) ?_
  refine x_step (x_aln (i := 2) dL_law_592) C (fun K => rfl) ?_
  refine lx_arg h (j := 1) (by omega) (by decide) dL_law_593 dL_law_594 dL_law_596 dL_law_597 dL_law_598 ?_
  refine lx_arg h (j := 2) (by omega) (by decide) dL_law_599 dL_law_600 dL_law_602 dL_law_603 dL_law_604 ?_
  refine lx_v (as := [.int (xs (i + 1)), .int (xs (i + 2))]) (rest := [.int _]) (A := (A + 38)) (ci := 7) (rmz := rm_X7_whole) h dL_law_605 V_X7_whole w968 w969 w970 rfl (by decide) oB rfl (Nat.le_of_ble_eq_true rfl) f2 (show k + 5 + 0 ≤ 603072 by omega) (show n + 151 + 0 ≤ 7198826 by omega) ?_
  refine x_step (x_ic_eq (tgt := 1422) dL_law_608 (by decide)) C (fun K => if_pos rfl) ?_
  exact next M2 _ _ _ I2 (show k + 5 + 0 ≤ k + 130 by omega) (show n + 151 + 0 ≤ n + 3400 by omega)
theorem lc_order {G : me_G} {p : Program} {l : Launch} {e : Env} {s : State} {m : MethodId} {below : List Frame} {meth : Method} {c : Code} {b L : Nat} {xs : Nat → Int32} {Q : State → Prop} (h : LX G p l s m meth c b L xs) {A i : Nat} {s0 : Sx} {M : me_M} {k n : Nat} (I0 : LM M A s0 s0) (hi : i + 6 ≤ L) (hk : k + 130 ≤ 603072) (hn : n + 3400 ≤ 7198826) (next : ∀ (M' : me_M) (s' : Sx) (k' n' : Nat), LM M' A s' s' → k' ≤ k + 130 → n' ≤ n + 3400 → lx_W G p l e s m below meth c b Q (1422, lwl b A i [], [], M', k', n')) : lx_W G p l e s m below meth c b Q (613, lwl b A i [], [], M, k, n) := by
  have C := h.1
  have hL := h.2.2.2.2.2.2.2
  obtain ⟨fA, oA⟩ := I0.oA
  obtain ⟨M1, f1, I1⟩ := I0.ac (r := f_X6_order [.ref A, .int (xs (i + 1)), .int (xs (i + 2))] M) (order_s I0.1)
  obtain ⟨fB, oB⟩ := I1.oB
  obtain ⟨th, m0⟩ := I1.2.1
  obtain ⟨M2, f2, I2, -, -⟩ := I1.am (r := f_X7_order [.ref (A + 38), .int (xs (i + 1)), .int (xs (i + 2))] M1) (orderM_g m0)
  refine x_step (x_aln (i := 1) dL_law_613) C (fun K => rfl) ?_
  refine lx_arg h (j := 1) (by omega) (by decide) dL_law_614 dL_law_615 dL_law_617 dL_law_618 dL_law_619 ?_
  refine lx_arg h (j := 2) (by omega) (by decide) dL_law_620 dL_law_621 dL_law_623 dL_law_624 dL_law_625 ?_
  refine lx_v (as := [.int (xs (i + 1)), .int (xs (i + 2))]) (rest := []) (A := A) (ci := 6) (rmz := rm_X6_order) h dL_law_626 V_X6_order w419 w420 w421 rfl (by decide) oA rfl (Nat.le_of_ble_eq_true rfl) f1 (show k + 0 ≤ 603072 by omega) (show n + 0 ≤ 7198826 by omega) ?_
  refine x_step (x_aln (i := 2) dL_law_629) C (fun K => rfl) ?_
  refine lx_arg h (j := 1) (by omega) (by decide) dL_law_630 dL_law_631 dL_law_633 dL_law_634 dL_law_635 ?_
  refine lx_arg h (j := 2) (by omega) (by decide) dL_law_636 dL_law_637 dL_law_639 dL_law_640 dL_law_641 ?_
  refine lx_v (as := [.int (xs (i + 1)), .int (xs (i + 2))]) (rest := [.int _]) (A := (A + 38)) (ci := 7) (rmz := rm_X7_order) h dL_law_642 V_X7_order w972 w973 w974 rfl (by decide) oB rfl (Nat.le_of_ble_eq_true rfl) f2 (show k + 0 + 0 ≤ 603072 by omega) (show n + 0 + 0 ≤ 7198826 by omega) ?_
  refine x_step (x_ic_eq (tgt := 1422) dL_law_645 (by decide)) C (fun K => if_pos rfl) ?_
  exact next M2 _ _ _ I2 (show k + 0 + 0 ≤ k + 130 by omega) (show n + 0 + 0 ≤ n + 3400 by omega)
theorem lc_of {G : me_G} {p : Program} {l : Launch} {e : Env} {s : State} {m : MethodId} {below : List Frame} {meth : Method} {c : Code} {b L : Nat} {xs : Nat → Int32} {Q : State → Prop} (h : LX G p l s m meth c b L xs) {A i : Nat} {s0 : Sx} {M : me_M} {k n : Nat} (I0 : LM M A s0 s0) (hi : i + 6 ≤ L) (hk : k + 130 ≤ 603072) (hn : n + 3400 ≤ 7198826) (next : ∀ (M' : me_M) (s' : Sx) (k' n' : Nat), LM M' A s' s' → k' ≤ k + 130 → n' ≤ n + 3400 → lx_W G p l e s m below meth c b Q (1422, lwl b A i [], [], M', k', n')) : lx_W G p l e s m below meth c b Q (650, lwl b A i [], [], M, k, n) := by
  have C := h.1
  have hL := h.2.2.2.2.2.2.2
  obtain ⟨fA, oA⟩ := I0.oA
  obtain ⟨M1, f1, I1⟩ := I0.ac (r := f_X6_of [.ref A, .int (xs (i + 1)), .int (xs (i + 2))] M) (ofV_s I0.1)
  obtain ⟨fB, oB⟩ := I1.oB
  obtain ⟨th, m0⟩ := I1.2.1
  obtain ⟨M2, f2, I2, -, -⟩ := I1.am (r := f_X7_of [.ref (A + 38), .int (xs (i + 1)), .int (xs (i + 2))] M1) (ofM_g m0)
  refine x_step (x_aln (i := 1) dL_law_650) C (fun K => rfl) ?_
  refine lx_arg h (j := 1) (by omega) (by decide) dL_law_651 dL_law_652 dL_law_654 dL_law_655 dL_law_656 ?_
  refine lx_arg h (j := 2) (by omega) (by decide) dL_law_657 dL_law_658 dL_law_660 dL_law_661 dL_law_662 ?_
  refine lx_v (as := [.int (xs (i + 1)), .int (xs (i + 2))]) (rest := []) (A := A) (ci := 6) (rmz := rm_X6_of) h dL_law_663 V_X6_of w427 w428 w429 rfl (by decide) oA rfl (Nat.le_of_ble_eq_true rfl) f1 (show k + 0 ≤ 603072 by omega) (show n + 0 ≤ 7198826 by omega) ?_
  refine x_step (x_aln (i := 2) dL_law_666) C (fun K => rfl) ?_
  refine lx_arg h (j := 1) (by omega) (by decide) dL_law_667 dL_law_668 dL_law_670 dL_law_671 dL_law_672 ?_
  refine lx_arg h (j := 2) (by omega) (by decide) dL_law_673 dL_law_674 dL_law_676 dL_law_677 dL_law_678 ?_
  refine lx_v (as := [.int (xs (i + 1)), .int (xs (i + 2))]) (rest := [.int _]) (A := (A + 38)) (ci := 7) (rmz := rm_X7_of) h dL_law_679 V_X7_of w980 w981 w982 rfl (by decide) oB rfl (Nat.le_of_ble_eq_true rfl) f2 (show k + 0 + 0 ≤ 603072 by omega) (show n + 0 + 0 ≤ 7198826 by omega) ?_
  refine x_step (x_ic_eq (tgt := 1422) dL_law_682 (by decide)) C (fun K => if_pos rfl) ?_
  exact next M2 _ _ _ I2 (show k + 0 + 0 ≤ k + 130 by omega) (show n + 0 + 0 ≤ n + 3400 by omega)
theorem lc_row {G : me_G} {p : Program} {l : Launch} {e : Env} {s : State} {m : MethodId} {below : List Frame} {meth : Method} {c : Code} {b L : Nat} {xs : Nat → Int32} {Q : State → Prop} (h : LX G p l s m meth c b L xs) {A i : Nat} {s0 : Sx} {M : me_M} {k n : Nat} (I0 : LM M A s0 s0) (hi : i + 6 ≤ L) (hk : k + 130 ≤ 603072) (hn : n + 3400 ≤ 7198826) (next : ∀ (M' : me_M) (s' : Sx) (k' n' : Nat), LM M' A s' s' → k' ≤ k + 130 → n' ≤ n + 3400 → lx_W G p l e s m below meth c b Q (1422, lwl b A i [], [], M', k', n')) : lx_W G p l e s m below meth c b Q (977, lwl b A i [], [], M, k, n) := by
  have C := h.1
  have hL := h.2.2.2.2.2.2.2
  obtain ⟨fA, oA⟩ := I0.oA
  obtain ⟨M1, f1, I1⟩ := I0.ac (r := f_X6_row [.ref A, .int (xs (i + 1))] M) (rowV_s I0.1)
  obtain ⟨fB, oB⟩ := I1.oB
  obtain ⟨th, m0⟩ := I1.2.1
  obtain ⟨M2, f2, I2, -, -⟩ := I1.am (r := f_X7_row [.ref (A + 38), .int (xs (i + 1))] M1) (rowM_g m0)
  refine x_step (x_aln (i := 1) dL_law_977) C (fun K => rfl) ?_
  refine lx_arg h (j := 1) (by omega) (by decide) dL_law_978 dL_law_979 dL_law_981 dL_law_982 dL_law_983 ?_
  refine lx_v (as := [.int (xs (i + 1))]) (rest := []) (A := A) (ci := 6) (rmz := rm_X6_row) h dL_law_984 V_X6_row w433 w434 w435 rfl (by decide) oA rfl (Nat.le_of_ble_eq_true rfl) f1 (show k + 2 ≤ 603072 by omega) (show n + 11 ≤ 7198826 by omega) ?_
  refine x_step (x_aln (i := 2) dL_law_987) C (fun K => rfl) ?_
  refine lx_arg h (j := 1) (by omega) (by decide) dL_law_988 dL_law_989 dL_law_991 dL_law_992 dL_law_993 ?_
  refine lx_v (as := [.int (xs (i + 1))]) (rest := [.int _]) (A := (A + 38)) (ci := 7) (rmz := rm_X7_row) h dL_law_994 V_X7_row w1014 w1015 w1016 rfl (by decide) oB rfl (Nat.le_of_ble_eq_true rfl) f2 (show k + 2 + 0 ≤ 603072 by omega) (show n + 11 + 0 ≤ 7198826 by omega) ?_
  refine x_step (x_ic_eq (tgt := 1422) dL_law_997 (by decide)) C (fun K => if_pos rfl) ?_
  exact next M2 _ _ _ I2 (show k + 2 + 0 ≤ k + 130 by omega) (show n + 11 + 0 ≤ n + 3400 by omega)
theorem lc_put {G : me_G} {p : Program} {l : Launch} {e : Env} {s : State} {m : MethodId} {below : List Frame} {meth : Method} {c : Code} {b L : Nat} {xs : Nat → Int32} {Q : State → Prop} (h : LX G p l s m meth c b L xs) {A i : Nat} {s0 : Sx} {M : me_M} {k n : Nat} (I0 : LM M A s0 s0) (hi : i + 6 ≤ L) (hk : k + 130 ≤ 603072) (hn : n + 3400 ≤ 7198826) (next : ∀ (M' : me_M) (s' : Sx) (k' n' : Nat), LM M' A s' s' → k' ≤ k + 130 → n' ≤ n + 3400 → lx_W G p l e s m below meth c b Q (1422, lwl b A i [], [], M', k', n')) : lx_W G p l e s m below meth c b Q (1002, lwl b A i [], [], M, k, n) := by
  have C := h.1
  have hL := h.2.2.2.2.2.2.2
  obtain ⟨fA, oA⟩ := I0.oA
  obtain ⟨M1, f1, I1⟩ := I0.ac (r := f_X6_put [.ref A, .int (xs (i + 1)), .int (xs (i + 2)), .int (xs (i + 3))] M) (putV_s I0.1)
  obtain ⟨fB, oB⟩ := I1.oB
  obtain ⟨th, m0⟩ := I1.2.1
  obtain ⟨M2, f2, I2, -, -⟩ := I1.am (r := f_X7_put_ [.ref (A + 38), .int (xs (i + 1)), .int (xs (i + 2)), .int (xs (i + 3))] M1) (putM_g m0)
  refine x_step (x_aln (i := 1) dL_law_1002) C (fun K => rfl) ?_
  refine lx_arg h (j := 1) (by omega) (by decide) dL_law_1003 dL_law_1004 dL_law_1006 dL_law_1007 dL_law_1008 ?_
  refine lx_arg h (j := 2) (by omega) (by decide) dL_law_1009 dL_law_1010 dL_law_1012 dL_law_1013 dL_law_1014 ?_
  refine lx_arg h (j := 3) (by omega) (by decide) dL_law_1015 dL_law_1016 dL_law_1018 dL_law_1019 dL_law_1020 ?_
  refine lx_v (as := [.int (xs (i + 1)), .int (xs (i + 2)), .int (xs (i + 3))]) (rest := []) (A := A) (ci := 6) (rmz := rm_X6_put) h dL_law_1021 V_X6_put w449 w450 w451 rfl (by decide) oA rfl (Nat.le_of_ble_eq_true rfl) f1 (show k + 0 ≤ 603072 by omega) (show n + 0 ≤ 7198826 by omega) ?_
  refine x_step (x_aln (i := 2) dL_law_1024) C (fun K => rfl) ?_
  refine lx_arg h (j := 1) (by omega) (by decide) dL_law_1025 dL_law_1026 dL_law_1028 dL_law_1029 dL_law_1030 ?_
  refine lx_arg h (j := 2) (by omega) (by decide) dL_law_1031 dL_law_1032 dL_law_1034 dL_law_1035 dL_law_1036 ?_
  refine lx_arg h (j := 3) (by omega) (by decide) dL_law_1037 dL_law_1038 dL_law_1040 dL_law_1041 dL_law_1042 ?_
  refine lx_v (as := [.int (xs (i + 1)), .int (xs (i + 2)), .int (xs (i + 3))]) (rest := [.int _]) (A := (A + 38)) (ci := 7) (rmz := rm_X7_put_) h dL_law_1043 V_X7_put_ w1021 w1022 w1023 rfl (by decide) oB rfl (Nat.le_of_ble_eq_true rfl) f2 (show k + 0 + 0 ≤ 603072 by omega) (show n + 0 + 0 ≤ 7198826 by omega) ?_
  refine x_step (x_ic_eq (tgt := 1422) dL_law_1046 (by decide)) C (fun K => if_pos rfl) ?_
  exact next M2 _ _ _ I2 (show k + 0 + 0 ≤ k + 130 by omega) (show n + 0 + 0 ≤ n + 3400 by omega)
theorem lc_take {G : me_G} {p : Program} {l : Launch} {e : Env} {s : State} {m : MethodId} {below : List Frame} {meth : Method} {c : Code} {b L : Nat} {xs : Nat → Int32} {Q : State → Prop} (h : LX G p l s m meth c b L xs) {A i : Nat} {s0 : Sx} {M : me_M} {k n : Nat} (I0 : LM M A s0 s0) (hi : i + 6 ≤ L) (hk : k + 130 ≤ 603072) (hn : n + 3400 ≤ 7198826) (next : ∀ (M' : me_M) (s' : Sx) (k' n' : Nat), LM M' A s' s' → k' ≤ k + 130 → n' ≤ n + 3400 → lx_W G p l e s m below meth c b Q (1422, lwl b A i [], [], M', k', n')) : lx_W G p l e s m below meth c b Q (1051, lwl b A i [], [], M, k, n) := by
  have C := h.1
  have hL := h.2.2.2.2.2.2.2
  obtain ⟨fA, oA⟩ := I0.oA
  obtain ⟨M1, f1, I1⟩ := I0.ac (r := f_X6_take [.ref A, .int (xs (i + 1)), .int (xs (i + 2))] M) (takeV_s I0.1)
  obtain ⟨fB, oB⟩ := I1.oB
  obtain ⟨th, m0⟩ := I1.2.1
  obtain ⟨M2, f2, I2, -, -⟩ := I1.am (r := f_X7_take [.ref (A + 38), .int (xs (i + 1)), .int (xs (i + 2))] M1) (takeM_g m0)
  refine x_step (x_aln (i := 1) dL_law_1051) C (fun K => rfl) ?_
  refine lx_arg h (j := 1) (by omega) (by decide) dL_law_1052 dL_law_1053 dL_law_1055 dL_law_1056 dL_law_1057 ?_
  refine lx_arg h (j := 2) (by omega) (by decide) dL_law_1058 dL_law_1059 dL_law_1061 dL_law_1062 dL_law_1063 ?_
  refine lx_v (as := [.int (xs (i + 1)), .int (xs (i + 2))]) (rest := []) (A := A) (ci := 6) (rmz := rm_X6_take) h dL_law_1064 V_X6_take w461 w462 w463 rfl (by decide) oA rfl (Nat.le_of_ble_eq_true rfl) f1 (show k + 0 ≤ 603072 by omega) (show n + 0 ≤ 7198826 by omega) ?_
  refine x_step (x_aln (i := 2) dL_law_1067) C (fun K => rfl) ?_
  refine lx_arg h (j := 1) (by omega) (by decide) dL_law_1068 dL_law_1069 dL_law_1071 dL_law_1072 dL_law_1073 ?_
  refine lx_arg h (j := 2) (by omega) (by decide) dL_law_1074 dL_law_1075 dL_law_1077 dL_law_1078 dL_law_1079 ?_
  refine lx_v (as := [.int (xs (i + 1)), .int (xs (i + 2))]) (rest := [.int _]) (A := (A + 38)) (ci := 7) (rmz := rm_X7_take) h dL_law_1080 V_X7_take w1037 w1038 w1039 rfl (by decide) oB rfl (Nat.le_of_ble_eq_true rfl) f2 (show k + 0 + 0 ≤ 603072 by omega) (show n + 0 + 0 ≤ 7198826 by omega) ?_
  refine x_step (x_ic_eq (tgt := 1422) dL_law_1083 (by decide)) C (fun K => if_pos rfl) ?_
  exact next M2 _ _ _ I2 (show k + 0 + 0 ≤ k + 130 by omega) (show n + 0 + 0 ≤ n + 3400 by omega)
theorem lc_dot {G : me_G} {p : Program} {l : Launch} {e : Env} {s : State} {m : MethodId} {below : List Frame} {meth : Method} {c : Code} {b L : Nat} {xs : Nat → Int32} {Q : State → Prop} (h : LX G p l s m meth c b L xs) {A i : Nat} {s0 : Sx} {M : me_M} {k n : Nat} (I0 : LM M A s0 s0) (hi : i + 6 ≤ L) (hk : k + 130 ≤ 603072) (hn : n + 3400 ≤ 7198826) (next : ∀ (M' : me_M) (s' : Sx) (k' n' : Nat), LM M' A s' s' → k' ≤ k + 130 → n' ≤ n + 3400 → lx_W G p l e s m below meth c b Q (1422, lwl b A i [], [], M', k', n')) : lx_W G p l e s m below meth c b Q (1088, lwl b A i [], [], M, k, n) := by
  have C := h.1
  have hL := h.2.2.2.2.2.2.2
  obtain ⟨fA, oA⟩ := I0.oA
  obtain ⟨M1, f1, I1⟩ := I0.ac (r := f_X6_dot [.ref A, .int (xs (i + 1)), .int (xs (i + 2))] M) (dotV_s I0.1)
  obtain ⟨fB, oB⟩ := I1.oB
  obtain ⟨th, m0⟩ := I1.2.1
  obtain ⟨M2, f2, I2, -, -⟩ := I1.am (r := f_X7_dot [.ref (A + 38), .int (xs (i + 1)), .int (xs (i + 2))] M1) (dotM_g m0)
  refine x_step (x_aln (i := 1) dL_law_1088) C (fun K => rfl) ?_
  refine lx_arg h (j := 1) (by omega) (by decide) dL_law_1089 dL_law_1090 dL_law_1092 dL_law_1093 dL_law_1094 ?_
  refine lx_arg h (j := 2) (by omega) (by decide) dL_law_1095 dL_law_1096 dL_law_1098 dL_law_1099 dL_law_1100 ?_
  refine lx_v (as := [.int (xs (i + 1)), .int (xs (i + 2))]) (rest := []) (A := A) (ci := 6) (rmz := rm_X6_dot) h dL_law_1101 V_X6_dot w465 w466 w467 rfl (by decide) oA rfl (Nat.le_of_ble_eq_true rfl) f1 (show k + 120 ≤ 603072 by omega) (show n + 3200 ≤ 7198826 by omega) ?_
  refine x_step (x_aln (i := 2) dL_law_1104) C (fun K => rfl) ?_
  refine lx_arg h (j := 1) (by omega) (by decide) dL_law_1105 dL_law_1106 dL_law_1108 dL_law_1109 dL_law_1110 ?_
  refine lx_arg h (j := 2) (by omega) (by decide) dL_law_1111 dL_law_1112 dL_law_1114 dL_law_1115 dL_law_1116 ?_
  refine lx_v (as := [.int (xs (i + 1)), .int (xs (i + 2))]) (rest := [.int _]) (A := (A + 38)) (ci := 7) (rmz := rm_X7_dot) h dL_law_1117 V_X7_dot w1041 w1042 w1043 rfl (by decide) oB rfl (Nat.le_of_ble_eq_true rfl) f2 (show k + 120 + 0 ≤ 603072 by omega) (show n + 3200 + 0 ≤ 7198826 by omega) ?_
  refine x_step (x_ic_eq (tgt := 1422) dL_law_1120 (by decide)) C (fun K => if_pos rfl) ?_
  exact next M2 _ _ _ I2 (show k + 120 + 0 ≤ k + 130 by omega) (show n + 3200 + 0 ≤ n + 3400 by omega)
theorem lc_scale {G : me_G} {p : Program} {l : Launch} {e : Env} {s : State} {m : MethodId} {below : List Frame} {meth : Method} {c : Code} {b L : Nat} {xs : Nat → Int32} {Q : State → Prop} (h : LX G p l s m meth c b L xs) {A i : Nat} {s0 : Sx} {M : me_M} {k n : Nat} (I0 : LM M A s0 s0) (hi : i + 6 ≤ L) (hk : k + 130 ≤ 603072) (hn : n + 3400 ≤ 7198826) (next : ∀ (M' : me_M) (s' : Sx) (k' n' : Nat), LM M' A s' s' → k' ≤ k + 130 → n' ≤ n + 3400 → lx_W G p l e s m below meth c b Q (1422, lwl b A i [], [], M', k', n')) : lx_W G p l e s m below meth c b Q (1125, lwl b A i [], [], M, k, n) := by
  have C := h.1
  have hL := h.2.2.2.2.2.2.2
  obtain ⟨fA, oA⟩ := I0.oA
  obtain ⟨M1, f1, I1⟩ := I0.ac (r := f_X6_scale [.ref A, .int (xs (i + 1)), .int (xs (i + 2))] M) (scaleV_s I0.1)
  obtain ⟨fB, oB⟩ := I1.oB
  obtain ⟨th, m0⟩ := I1.2.1
  obtain ⟨M2, f2, I2, -, -⟩ := I1.am (r := f_X7_scale [.ref (A + 38), .int (xs (i + 1)), .int (xs (i + 2))] M1) (scaleM_g m0)
  refine x_step (x_aln (i := 1) dL_law_1125) C (fun K => rfl) ?_
  refine lx_arg h (j := 1) (by omega) (by decide) dL_law_1126 dL_law_1127 dL_law_1129 dL_law_1130 dL_law_1131 ?_
  refine lx_arg h (j := 2) (by omega) (by decide) dL_law_1132 dL_law_1133 dL_law_1135 dL_law_1136 dL_law_1137 ?_
  refine lx_v (as := [.int (xs (i + 1)), .int (xs (i + 2))]) (rest := []) (A := A) (ci := 6) (rmz := rm_X6_scale) h dL_law_1138 V_X6_scale w473 w474 w475 rfl (by decide) oA rfl (Nat.le_of_ble_eq_true rfl) f1 (show k + 60 ≤ 603072 by omega) (show n + 1600 ≤ 7198826 by omega) ?_
  refine x_step (x_aln (i := 2) dL_law_1141) C (fun K => rfl) ?_
  refine lx_arg h (j := 1) (by omega) (by decide) dL_law_1142 dL_law_1143 dL_law_1145 dL_law_1146 dL_law_1147 ?_
  refine lx_arg h (j := 2) (by omega) (by decide) dL_law_1148 dL_law_1149 dL_law_1151 dL_law_1152 dL_law_1153 ?_
  refine lx_v (as := [.int (xs (i + 1)), .int (xs (i + 2))]) (rest := [.int _]) (A := (A + 38)) (ci := 7) (rmz := rm_X7_scale) h dL_law_1154 V_X7_scale w1053 w1054 w1055 rfl (by decide) oB rfl (Nat.le_of_ble_eq_true rfl) f2 (show k + 60 + 0 ≤ 603072 by omega) (show n + 1600 + 0 ≤ 7198826 by omega) ?_
  refine x_step (x_ic_eq (tgt := 1422) dL_law_1157 (by decide)) C (fun K => if_pos rfl) ?_
  exact next M2 _ _ _ I2 (show k + 60 + 0 ≤ k + 130 by omega) (show n + 1600 + 0 ≤ n + 3400 by omega)
theorem lc_eliminate {G : me_G} {p : Program} {l : Launch} {e : Env} {s : State} {m : MethodId} {below : List Frame} {meth : Method} {c : Code} {b L : Nat} {xs : Nat → Int32} {Q : State → Prop} (h : LX G p l s m meth c b L xs) {A i : Nat} {s0 : Sx} {M : me_M} {k n : Nat} (I0 : LM M A s0 s0) (hi : i + 6 ≤ L) (hk : k + 130 ≤ 603072) (hn : n + 3400 ≤ 7198826) (next : ∀ (M' : me_M) (s' : Sx) (k' n' : Nat), LM M' A s' s' → k' ≤ k + 130 → n' ≤ n + 3400 → lx_W G p l e s m below meth c b Q (1422, lwl b A i [], [], M', k', n')) : lx_W G p l e s m below meth c b Q (1162, lwl b A i [], [], M, k, n) := by
  have C := h.1
  have hL := h.2.2.2.2.2.2.2
  obtain ⟨fA, oA⟩ := I0.oA
  obtain ⟨M1, f1, I1⟩ := I0.ac (r := f_X6_eliminate [.ref A, .int (xs (i + 1)), .int (xs (i + 2)), .int (xs (i + 3))] M) (elimV_s I0.1)
  obtain ⟨fB, oB⟩ := I1.oB
  obtain ⟨th, m0⟩ := I1.2.1
  obtain ⟨M2, f2, I2, -, -⟩ := I1.am (r := f_X7_eliminate [.ref (A + 38), .int (xs (i + 1)), .int (xs (i + 2)), .int (xs (i + 3))] M1) (elimM_g m0)
  refine x_step (x_aln (i := 1) dL_law_1162) C (fun K => rfl) ?_
  refine lx_arg h (j := 1) (by omega) (by decide) dL_law_1163 dL_law_1164 dL_law_1166 dL_law_1167 dL_law_1168 ?_
  refine lx_arg h (j := 2) (by omega) (by decide) dL_law_1169 dL_law_1170 dL_law_1172 dL_law_1173 dL_law_1174 ?_
  refine lx_arg h (j := 3) (by omega) (by decide) dL_law_1175 dL_law_1176 dL_law_1178 dL_law_1179 dL_law_1180 ?_
  refine lx_v (as := [.int (xs (i + 1)), .int (xs (i + 2)), .int (xs (i + 3))]) (rest := []) (A := A) (ci := 6) (rmz := rm_X6_eliminate) h dL_law_1181 V_X6_eliminate w481 w482 w483 rfl (by decide) oA rfl (Nat.le_of_ble_eq_true rfl) f1 (show k + 130 ≤ 603072 by omega) (show n + 3400 ≤ 7198826 by omega) ?_
  refine x_step (x_aln (i := 2) dL_law_1184) C (fun K => rfl) ?_
  refine lx_arg h (j := 1) (by omega) (by decide) dL_law_1185 dL_law_1186 dL_law_1188 dL_law_1189 dL_law_1190 ?_
  refine lx_arg h (j := 2) (by omega) (by decide) dL_law_1191 dL_law_1192 dL_law_1194 dL_law_1195 dL_law_1196 ?_
  refine lx_arg h (j := 3) (by omega) (by decide) dL_law_1197 dL_law_1198 dL_law_1200 dL_law_1201 dL_law_1202 ?_
  refine lx_v (as := [.int (xs (i + 1)), .int (xs (i + 2)), .int (xs (i + 3))]) (rest := [.int _]) (A := (A + 38)) (ci := 7) (rmz := rm_X7_eliminate) h dL_law_1203 V_X7_eliminate w1061 w1062 w1063 rfl (by decide) oB rfl (Nat.le_of_ble_eq_true rfl) f2 (show k + 130 + 0 ≤ 603072 by omega) (show n + 3400 + 0 ≤ 7198826 by omega) ?_
  refine x_step (x_ic_eq (tgt := 1422) dL_law_1206 (by decide)) C (fun K => if_pos rfl) ?_
  exact next M2 _ _ _ I2 (show k + 130 + 0 ≤ k + 130 by omega) (show n + 3400 + 0 ≤ n + 3400 by omega)
theorem lc_primitive {G : me_G} {p : Program} {l : Launch} {e : Env} {s : State} {m : MethodId} {below : List Frame} {meth : Method} {c : Code} {b L : Nat} {xs : Nat → Int32} {Q : State → Prop} (h : LX G p l s m meth c b L xs) {A i : Nat} {s0 : Sx} {M : me_M} {k n : Nat} (I0 : LM M A s0 s0) (hi : i + 6 ≤ L) (hk : k + 130 ≤ 603072) (hn : n + 3400 ≤ 7198826) (next : ∀ (M' : me_M) (s' : Sx) (k' n' : Nat), LM M' A s' s' → k' ≤ k + 130 → n' ≤ n + 3400 → lx_W G p l e s m below meth c b Q (1422, lwl b A i [], [], M', k', n')) : lx_W G p l e s m below meth c b Q (1211, lwl b A i [], [], M, k, n) := by
  have C := h.1
  have hL := h.2.2.2.2.2.2.2
  obtain ⟨fA, oA⟩ := I0.oA
  obtain ⟨M1, f1, I1⟩ := I0.ac (r := f_X6_primitive [.ref A, .int (xs (i + 1))] M) (primV_s I0.1)
  obtain ⟨fB, oB⟩ := I1.oB
  obtain ⟨th, m0⟩ := I1.2.1
  obtain ⟨M2, f2, I2, -, -⟩ := I1.am (r := f_X7_primitive [.ref (A + 38), .int (xs (i + 1))] M1) (primM_g m0)
  refine x_step (x_aln (i := 1) dL_law_1211) C (fun K => rfl) ?_
  refine lx_arg h (j := 1) (by omega) (by decide) dL_law_1212 dL_law_1213 dL_law_1215 dL_law_1216 dL_law_1217 ?_
  refine lx_v (as := [.int (xs (i + 1))]) (rest := []) (A := A) (ci := 6) (rmz := rm_X6_primitive) h dL_law_1218 V_X6_primitive w489 w490 w491 rfl (by decide) oA rfl (Nat.le_of_ble_eq_true rfl) f1 (show k + 130 ≤ 603072 by omega) (show n + 3400 ≤ 7198826 by omega) ?_
  refine x_step (x_aln (i := 2) dL_law_1221) C (fun K => rfl) ?_
  refine lx_arg h (j := 1) (by omega) (by decide) dL_law_1222 dL_law_1223 dL_law_1225 dL_law_1226 dL_law_1227 ?_
  refine lx_v (as := [.int (xs (i + 1))]) (rest := [.int _]) (A := (A + 38)) (ci := 7) (rmz := rm_X7_primitive) h dL_law_1228 V_X7_primitive w1065 w1066 w1067 rfl (by decide) oB rfl (Nat.le_of_ble_eq_true rfl) f2 (show k + 130 + 0 ≤ 603072 by omega) (show n + 3400 + 0 ≤ 7198826 by omega) ?_
  refine x_step (x_ic_eq (tgt := 1422) dL_law_1231 (by decide)) C (fun K => if_pos rfl) ?_
  exact next M2 _ _ _ I2 (show k + 130 + 0 ≤ k + 130 by omega) (show n + 3400 + 0 ≤ n + 3400 by omega)
theorem lc_lead {G : me_G} {p : Program} {l : Launch} {e : Env} {s : State} {m : MethodId} {below : List Frame} {meth : Method} {c : Code} {b L : Nat} {xs : Nat → Int32} {Q : State → Prop} (h : LX G p l s m meth c b L xs) {A i : Nat} {s0 : Sx} {M : me_M} {k n : Nat} (I0 : LM M A s0 s0) (hi : i + 6 ≤ L) (hk : k + 130 ≤ 603072) (hn : n + 3400 ≤ 7198826) (next : ∀ (M' : me_M) (s' : Sx) (k' n' : Nat), LM M' A s' s' → k' ≤ k + 130 → n' ≤ n + 3400 → lx_W G p l e s m below meth c b Q (1422, lwl b A i [], [], M', k', n')) : lx_W G p l e s m below meth c b Q (1236, lwl b A i [], [], M, k, n) := by
  have C := h.1
  have hL := h.2.2.2.2.2.2.2
  obtain ⟨fA, oA⟩ := I0.oA
  obtain ⟨M1, f1, I1⟩ := I0.ac (r := f_X6_lead [.ref A, .int (xs (i + 1))] M) (leadV_s I0.1)
  obtain ⟨fB, oB⟩ := I1.oB
  obtain ⟨th, m0⟩ := I1.2.1
  obtain ⟨M2, f2, I2, -, -⟩ := I1.am (r := f_X7_lead [.ref (A + 38), .int (xs (i + 1))] M1) (leadM_g m0)
  refine x_step (x_aln (i := 1) dL_law_1236) C (fun K => rfl) ?_
  refine lx_arg h (j := 1) (by omega) (by decide) dL_law_1237 dL_law_1238 dL_law_1240 dL_law_1241 dL_law_1242 ?_
  refine lx_v (as := [.int (xs (i + 1))]) (rest := []) (A := A) (ci := 6) (rmz := rm_X6_lead) h dL_law_1243 V_X6_lead w497 w498 w499 rfl (by decide) oA rfl (Nat.le_of_ble_eq_true rfl) f1 (show k + 0 ≤ 603072 by omega) (show n + 0 ≤ 7198826 by omega) ?_
  refine x_step (x_aln (i := 2) dL_law_1246) C (fun K => rfl) ?_
  refine lx_arg h (j := 1) (by omega) (by decide) dL_law_1247 dL_law_1248 dL_law_1250 dL_law_1251 dL_law_1252 ?_
  refine lx_v (as := [.int (xs (i + 1))]) (rest := [.int _]) (A := (A + 38)) (ci := 7) (rmz := rm_X7_lead) h dL_law_1253 V_X7_lead w1069 w1070 w1071 rfl (by decide) oB rfl (Nat.le_of_ble_eq_true rfl) f2 (show k + 0 + 0 ≤ 603072 by omega) (show n + 0 + 0 ≤ 7198826 by omega) ?_
  refine x_step (x_ic_eq (tgt := 1422) dL_law_1256 (by decide)) C (fun K => if_pos rfl) ?_
  exact next M2 _ _ _ I2 (show k + 0 + 0 ≤ k + 130 by omega) (show n + 0 + 0 ≤ n + 3400 by omega)
theorem lc_alike {G : me_G} {p : Program} {l : Launch} {e : Env} {s : State} {m : MethodId} {below : List Frame} {meth : Method} {c : Code} {b L : Nat} {xs : Nat → Int32} {Q : State → Prop} (h : LX G p l s m meth c b L xs) {A i : Nat} {s0 : Sx} {M : me_M} {k n : Nat} (I0 : LM M A s0 s0) (hi : i + 6 ≤ L) (hk : k + 130 ≤ 603072) (hn : n + 3400 ≤ 7198826) (next : ∀ (M' : me_M) (s' : Sx) (k' n' : Nat), LM M' A s' s' → k' ≤ k + 130 → n' ≤ n + 3400 → lx_W G p l e s m below meth c b Q (1422, lwl b A i [], [], M', k', n')) : lx_W G p l e s m below meth c b Q (1261, lwl b A i [], [], M, k, n) := by
  have C := h.1
  have hL := h.2.2.2.2.2.2.2
  obtain ⟨fA, oA⟩ := I0.oA
  obtain ⟨M1, f1, I1⟩ := I0.ac (r := f_X6_alike [.ref A, .int (xs (i + 1)), .int (xs (i + 2)), .int (xs (i + 3))] M) (alikeV_s I0.1)
  obtain ⟨fB, oB⟩ := I1.oB
  obtain ⟨th, m0⟩ := I1.2.1
  obtain ⟨M2, f2, I2, -, -⟩ := I1.am (r := f_X7_alike [.ref (A + 38), .int (xs (i + 1)), .int (xs (i + 2)), .int (xs (i + 3))] M1) (alikeM_g m0)
  refine x_step (x_aln (i := 1) dL_law_1261) C (fun K => rfl) ?_
  refine lx_arg h (j := 1) (by omega) (by decide) dL_law_1262 dL_law_1263 dL_law_1265 dL_law_1266 dL_law_1267 ?_
  refine lx_arg h (j := 2) (by omega) (by decide) dL_law_1268 dL_law_1269 dL_law_1271 dL_law_1272 dL_law_1273 ?_
  refine lx_arg h (j := 3) (by omega) (by decide) dL_law_1274 dL_law_1275 dL_law_1277 dL_law_1278 dL_law_1279 ?_
  refine lx_v (as := [.int (xs (i + 1)), .int (xs (i + 2)), .int (xs (i + 3))]) (rest := []) (A := A) (ci := 6) (rmz := rm_X6_alike) h dL_law_1280 V_X6_alike w505 w506 w507 rfl (by decide) oA rfl (Nat.le_of_ble_eq_true rfl) f1 (show k + 0 ≤ 603072 by omega) (show n + 0 ≤ 7198826 by omega) ?_
  refine x_step (x_aln (i := 2) dL_law_1283) C (fun K => rfl) ?_
  refine lx_arg h (j := 1) (by omega) (by decide) dL_law_1284 dL_law_1285 dL_law_1287 dL_law_1288 dL_law_1289 ?_
  refine lx_arg h (j := 2) (by omega) (by decide) dL_law_1290 dL_law_1291 dL_law_1293 dL_law_1294 dL_law_1295 ?_
  refine lx_arg h (j := 3) (by omega) (by decide) dL_law_1296 dL_law_1297 dL_law_1299 dL_law_1300 dL_law_1301 ?_
  refine lx_v (as := [.int (xs (i + 1)), .int (xs (i + 2)), .int (xs (i + 3))]) (rest := [.int _]) (A := (A + 38)) (ci := 7) (rmz := rm_X7_alike) h dL_law_1302 V_X7_alike w1077 w1078 w1079 rfl (by decide) oB rfl (Nat.le_of_ble_eq_true rfl) f2 (show k + 0 + 0 ≤ 603072 by omega) (show n + 0 + 0 ≤ 7198826 by omega) ?_
  refine x_step (x_ic_eq (tgt := 1422) dL_law_1305 (by decide)) C (fun K => if_pos rfl) ?_
  exact next M2 _ _ _ I2 (show k + 0 + 0 ≤ k + 130 by omega) (show n + 0 + 0 ≤ n + 3400 by omega)
theorem lc_decimal {G : me_G} {p : Program} {l : Launch} {e : Env} {s : State} {m : MethodId} {below : List Frame} {meth : Method} {c : Code} {b L : Nat} {xs : Nat → Int32} {Q : State → Prop} (h : LX G p l s m meth c b L xs) {A i : Nat} {s0 : Sx} {M : me_M} {k n : Nat} (I0 : LM M A s0 s0) (hi : i + 6 ≤ L) (hk : k + 130 ≤ 603072) (hn : n + 3400 ≤ 7198826) (next : ∀ (M' : me_M) (s' : Sx) (k' n' : Nat), LM M' A s' s' → k' ≤ k + 130 → n' ≤ n + 3400 → lx_W G p l e s m below meth c b Q (1422, lwl b A i [], [], M', k', n')) : lx_W G p l e s m below meth c b Q (1310, lwl b A i [], [], M, k, n) := by
  have C := h.1
  have hL := h.2.2.2.2.2.2.2
  obtain ⟨fA, oA⟩ := I0.oA
  obtain ⟨M1, f1, I1⟩ := I0.ac (r := f_X6_decimal [.ref A, .int (xs (i + 1)), .int (xs (i + 2)), .int (xs (i + 3))] M) (decimalV_s I0.1)
  obtain ⟨fB, oB⟩ := I1.oB
  obtain ⟨th, m0⟩ := I1.2.1
  obtain ⟨M2, f2, I2, -, -⟩ := I1.am (r := f_X7_decimal [.ref (A + 38), .int (xs (i + 1)), .int (xs (i + 2)), .int (xs (i + 3))] M1) (decimalM_g m0)
  refine x_step (x_aln (i := 1) dL_law_1310) C (fun K => rfl) ?_
  refine lx_arg h (j := 1) (by omega) (by decide) dL_law_1311 dL_law_1312 dL_law_1314 dL_law_1315 dL_law_1316 ?_
  refine lx_arg h (j := 2) (by omega) (by decide) dL_law_1317 dL_law_1318 dL_law_1320 dL_law_1321 dL_law_1322 ?_
  refine lx_arg h (j := 3) (by omega) (by decide) dL_law_1323 dL_law_1324 dL_law_1326 dL_law_1327 dL_law_1328 ?_
  refine lx_v (as := [.int (xs (i + 1)), .int (xs (i + 2)), .int (xs (i + 3))]) (rest := []) (A := A) (ci := 6) (rmz := rm_X6_decimal) h dL_law_1329 V_X6_decimal w526 w527 w528 rfl (by decide) oA rfl (Nat.le_of_ble_eq_true rfl) f1 (show k + 0 ≤ 603072 by omega) (show n + 0 ≤ 7198826 by omega) ?_
  refine x_step (x_aln (i := 2) dL_law_1332) C (fun K => rfl) ?_
  refine lx_arg h (j := 1) (by omega) (by decide) dL_law_1333 dL_law_1334 dL_law_1336 dL_law_1337 dL_law_1338 ?_
  refine lx_arg h (j := 2) (by omega) (by decide) dL_law_1339 dL_law_1340 dL_law_1342 dL_law_1343 dL_law_1344 ?_
  refine lx_arg h (j := 3) (by omega) (by decide) dL_law_1345 dL_law_1346 dL_law_1348 dL_law_1349 dL_law_1350 ?_
  refine lx_v (as := [.int (xs (i + 1)), .int (xs (i + 2)), .int (xs (i + 3))]) (rest := [.int _]) (A := (A + 38)) (ci := 7) (rmz := rm_X7_decimal) h dL_law_1351 V_X7_decimal w1085 w1086 w1087 rfl (by decide) oB rfl (Nat.le_of_ble_eq_true rfl) f2 (show k + 0 + 0 ≤ 603072 by omega) (show n + 0 + 0 ≤ 7198826 by omega) ?_
  refine x_step (x_ic_eq (tgt := 1422) dL_law_1354 (by decide)) C (fun K => if_pos rfl) ?_
  exact next M2 _ _ _ I2 (show k + 0 + 0 ≤ k + 130 by omega) (show n + 0 + 0 ≤ n + 3400 by omega)
theorem lc_letter {G : me_G} {p : Program} {l : Launch} {e : Env} {s : State} {m : MethodId} {below : List Frame} {meth : Method} {c : Code} {b L : Nat} {xs : Nat → Int32} {Q : State → Prop} (h : LX G p l s m meth c b L xs) {A i : Nat} {s0 : Sx} {M : me_M} {k n : Nat} (I0 : LM M A s0 s0) (hi : i + 6 ≤ L) (hk : k + 130 ≤ 603072) (hn : n + 3400 ≤ 7198826) (next : ∀ (M' : me_M) (s' : Sx) (k' n' : Nat), LM M' A s' s' → k' ≤ k + 130 → n' ≤ n + 3400 → lx_W G p l e s m below meth c b Q (1422, lwl b A i [], [], M', k', n')) : lx_W G p l e s m below meth c b Q (1359, lwl b A i [], [], M, k, n) := by
  have C := h.1
  have hL := h.2.2.2.2.2.2.2
  obtain ⟨fA, oA⟩ := I0.oA
  obtain ⟨M1, f1, I1⟩ := I0.ac (r := f_X6_letter [.ref A, .int (xs (i + 1))] M) (letterV_s I0.1)
  obtain ⟨fB, oB⟩ := I1.oB
  obtain ⟨th, m0⟩ := I1.2.1
  obtain ⟨M2, f2, I2, -, -⟩ := I1.am (r := f_X7_letter [.ref (A + 38), .int (xs (i + 1))] M1) (letterM_g m0)
  refine x_step (x_aln (i := 1) dL_law_1359) C (fun K => rfl) ?_
  refine lx_arg h (j := 1) (by omega) (by decide) dL_law_1360 dL_law_1361 dL_law_1363 dL_law_1364 dL_law_1365 ?_
  refine lx_v (as := [.int (xs (i + 1))]) (rest := []) (A := A) (ci := 6) (rmz := rm_X6_letter) h dL_law_1366 V_X6_letter w552 w553 w554 rfl (by decide) oA rfl (Nat.le_of_ble_eq_true rfl) f1 (show k + 0 ≤ 603072 by omega) (show n + 0 ≤ 7198826 by omega) ?_
  refine x_step (x_aln (i := 2) dL_law_1369) C (fun K => rfl) ?_
  refine lx_arg h (j := 1) (by omega) (by decide) dL_law_1370 dL_law_1371 dL_law_1373 dL_law_1374 dL_law_1375 ?_
  refine lx_v (as := [.int (xs (i + 1))]) (rest := [.int _]) (A := (A + 38)) (ci := 7) (rmz := rm_X7_letter) h dL_law_1376 V_X7_letter w1098 w1099 w1100 rfl (by decide) oB rfl (Nat.le_of_ble_eq_true rfl) f2 (show k + 0 + 0 ≤ 603072 by omega) (show n + 0 + 0 ≤ 7198826 by omega) ?_
  refine x_step (x_ic_eq (tgt := 1422) dL_law_1379 (by decide)) C (fun K => if_pos rfl) ?_
  exact next M2 _ _ _ I2 (show k + 0 + 0 ≤ k + 130 by omega) (show n + 0 + 0 ≤ n + 3400 by omega)
theorem lc_count {G : me_G} {p : Program} {l : Launch} {e : Env} {s : State} {m : MethodId} {below : List Frame} {meth : Method} {c : Code} {b L : Nat} {xs : Nat → Int32} {Q : State → Prop} (h : LX G p l s m meth c b L xs) {A i : Nat} {s0 : Sx} {M : me_M} {k n : Nat} (I0 : LM M A s0 s0) (hi : i + 6 ≤ L) (hk : k + 130 ≤ 603072) (hn : n + 3400 ≤ 7198826) (next : ∀ (M' : me_M) (s' : Sx) (k' n' : Nat), LM M' A s' s' → k' ≤ k + 130 → n' ≤ n + 3400 → lx_W G p l e s m below meth c b Q (1422, lwl b A i [], [], M', k', n')) : lx_W G p l e s m below meth c b Q (1384, lwl b A i [], [], M, k, n) := by
  have C := h.1
  have hL := h.2.2.2.2.2.2.2
  obtain ⟨fA, oA⟩ := I0.oA
  obtain ⟨M1, f1, I1⟩ := I0.ac (r := f_X6_count [.ref A, .int (xs (i + 1))] M) (countV_s I0.1)
  obtain ⟨fB, oB⟩ := I1.oB
  obtain ⟨th, m0⟩ := I1.2.1
  obtain ⟨M2, f2, I2, -, -⟩ := I1.am (r := f_X7_count [.ref (A + 38), .int (xs (i + 1))] M1) (countM_g m0)
  refine x_step (x_aln (i := 1) dL_law_1384) C (fun K => rfl) ?_
  refine lx_arg h (j := 1) (by omega) (by decide) dL_law_1385 dL_law_1386 dL_law_1388 dL_law_1389 dL_law_1390 ?_
  refine lx_v (as := [.int (xs (i + 1))]) (rest := []) (A := A) (ci := 6) (rmz := rm_X6_count) h dL_law_1391 V_X6_count w556 w557 w558 rfl (by decide) oA rfl (Nat.le_of_ble_eq_true rfl) f1 (show k + 0 ≤ 603072 by omega) (show n + 0 ≤ 7198826 by omega) ?_
  refine x_step (x_aln (i := 2) dL_law_1394) C (fun K => rfl) ?_
  refine lx_arg h (j := 1) (by omega) (by decide) dL_law_1395 dL_law_1396 dL_law_1398 dL_law_1399 dL_law_1400 ?_
  refine lx_v (as := [.int (xs (i + 1))]) (rest := [.int _]) (A := (A + 38)) (ci := 7) (rmz := rm_X7_count) h dL_law_1401 V_X7_count w1102 w1103 w1104 rfl (by decide) oB rfl (Nat.le_of_ble_eq_true rfl) f2 (show k + 0 + 0 ≤ 603072 by omega) (show n + 0 + 0 ≤ 7198826 by omega) ?_
  refine x_step (x_ic_eq (tgt := 1422) dL_law_1404 (by decide)) C (fun K => if_pos rfl) ?_
  exact next M2 _ _ _ I2 (show k + 0 + 0 ≤ k + 130 by omega) (show n + 0 + 0 ≤ n + 3400 by omega)
theorem lc_clear {G : me_G} {p : Program} {l : Launch} {e : Env} {s : State} {m : MethodId} {below : List Frame} {meth : Method} {c : Code} {b L : Nat} {xs : Nat → Int32} {Q : State → Prop} (h : LX G p l s m meth c b L xs) {A i : Nat} {s0 : Sx} {M : me_M} {k n : Nat} (I0 : LM M A s0 s0) (hi : i + 6 ≤ L) (hk : k + 130 ≤ 603072) (hn : n + 3400 ≤ 7198826) (next : ∀ (M' : me_M) (s' : Sx) (k' n' : Nat), LM M' A s' s' → k' ≤ k + 130 → n' ≤ n + 3400 → lx_W G p l e s m below meth c b Q (1422, lwl b A i [], [], M', k', n')) : lx_W G p l e s m below meth c b Q (1409, lwl b A i [], [], M, k, n) := by
  have C := h.1
  have hL := h.2.2.2.2.2.2.2
  obtain ⟨fA, oA⟩ := I0.oA
  obtain ⟨M1, f1, I1⟩ := I0.ac (r := f_X6_clear [.ref A] M) (clearV_s I0.1)
  obtain ⟨fB, oB⟩ := I1.oB
  obtain ⟨th, m0⟩ := I1.2.1
  obtain ⟨M2, f2, I2, -, -⟩ := I1.am (r := f_X7_clear [.ref (A + 38)] M1) (clearM_g m0)
  refine x_step (x_aln (i := 1) dL_law_1409) C (fun K => rfl) ?_
  refine lx_v (as := []) (rest := []) (A := A) (ci := 6) (rmz := rm_X6_clear) h dL_law_1410 V_X6_clear w560 w561 w562 rfl (by decide) oA rfl (Nat.le_of_ble_eq_true rfl) f1 (show k + 0 ≤ 603072 by omega) (show n + 0 ≤ 7198826 by omega) ?_
  refine x_step (x_aln (i := 2) dL_law_1413) C (fun K => rfl) ?_
  refine lx_v (as := []) (rest := [.int _]) (A := (A + 38)) (ci := 7) (rmz := rm_X7_clear) h dL_law_1414 V_X7_clear w1106 w1107 w1108 rfl (by decide) oB rfl (Nat.le_of_ble_eq_true rfl) f2 (show k + 0 + 0 ≤ 603072 by omega) (show n + 0 + 0 ≤ 7198826 by omega) ?_
  refine x_step (x_ic_eq (tgt := 1422) dL_law_1417 (by decide)) C (fun K => if_pos rfl) ?_
  exact next M2 _ _ _ I2 (show k + 0 + 0 ≤ k + 130 by omega) (show n + 0 + 0 ≤ n + 3400 by omega)
