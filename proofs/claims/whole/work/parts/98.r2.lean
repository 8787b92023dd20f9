set_option maxRecDepth 4000
theorem lc_value {G : me_G} {p : Program} {l : Launch} {e : Env} {s : State} {m : MethodId} {below : List Frame} {meth : Method} {c : Code} {b L : Nat} {xs : Nat → Int32} {Q : State → Prop} (h : LX G p l s m meth c b L xs) {A i : Nat} {s0 : Sx} {M : me_M} {k n : Nat} (I0 : LM M A s0 s0) (hi : i + 6 ≤ L) (hk : k + 130 ≤ 603072) (hn : n + 3400 ≤ 7198826) (next : ∀ (M' : me_M) (s' : Sx) (k' n' : Nat), LM M' A s' s' → k' ≤ k + 130 → n' ≤ n + 3400 → lx_W G p l e s m below meth c b Q (1422, lwl b A i [], [], M', k', n')) {u : Sx} {th : Int32} {Z : Int64} {r : sm_R} (fC : f_X6_value [.ref A, .long (lgw (xs (i + 1)) (xs (i + 2))), .long (lgw (xs (i + 3)) (xs (i + 4)))] M = some r) (hr : (∃ (x : Int32) (g : Nat → Int64), r.1 = some (.int x) ∧ r.2.2 (A + 50) = some (.inl (1, 1, .inr (.inl g)))) ∨ r.1 = some (.float 0)) (hTH : TH A s0 u r th (fun _ => 1) Z) (hRef : ∀ (M1 : me_M) (t0 : Int32), MF M1 (A + 38) t0 s0 → ∃ (M2 : me_M) (y : Int32), f_X7_value [.ref (A + 38), .long (lgw (xs (i + 1)) (xs (i + 2))), .long (lgw (xs (i + 3)) (xs (i + 4)))] M1 = some (some (.int y), M2) ∧ MF M2 (A + 38) th u ∧ FB M1 M2 (A + 38) ∧ (th = 0 → y.toInt64 = Z)) : lx_W G p l e s m below meth c b Q (160, lwl b A i [], [], M, k, n) := by
  have C := h.1
  have hL := h.2.2.2.2.2.2.2
  obtain ⟨fA, oA⟩ := I0.oA
  refine x_step (x_aln (i := 1) dL_law_160) C (fun K => rfl) ?_
  refine lx_arg h (j := 1) (by omega) (by decide) dL_law_161 dL_law_162 dL_law_164 dL_law_165 dL_law_166 ?_
  refine x_step (x_i2l dL_law_167) C (fun K => rfl) ?_
  refine x_step (x_bipush (v := 32) dL_law_168 (by decide)) C (fun K => rfl) ?_
  refine x_step (x_lshl dL_law_170) C (fun K => rfl) ?_
  refine lx_arg h (j := 2) (by omega) (by decide) dL_law_171 dL_law_172 dL_law_174 dL_law_175 dL_law_176 ?_
  refine x_step (x_i2l dL_law_177) C (fun K => rfl) ?_
  refine x_step (x_ldc2 dL_law_178 lw_c42) C (fun K => rfl) ?_
  refine x_step (x_land dL_law_181) C (fun K => rfl) ?_
  refine x_step (x_lor dL_law_182) C (fun K => rfl) ?_
  refine lx_arg h (j := 3) (by omega) (by decide) dL_law_183 dL_law_184 dL_law_186 dL_law_187 dL_law_188 ?_
  refine x_step (x_i2l dL_law_189) C (fun K => rfl) ?_
  refine x_step (x_bipush (v := 32) dL_law_190 (by decide)) C (fun K => rfl) ?_
  refine x_step (x_lshl dL_law_192) C (fun K => rfl) ?_
  refine lx_arg h (j := 4) (by omega) (by decide) dL_law_193 dL_law_194 dL_law_196 dL_law_197 dL_law_198 ?_
  refine x_step (x_i2l dL_law_199) C (fun K => rfl) ?_
  refine x_step (x_ldc2 dL_law_200 lw_c42) C (fun K => rfl) ?_
  refine x_step (x_land dL_law_203) C (fun K => rfl) ?_
  refine x_step (x_lor dL_law_204) C (fun K => rfl) ?_
  refine x_step (x_aln (i := 3) dL_law_205) C (fun K => rfl) ?_
  refine lx_s (as := [.ref A, .long (lgw (xs (i + 1)) (xs (i + 2))), .long (lgw (xs (i + 3)) (xs (i + 4))), .ref (A + 50)]) (rest := []) (np := 4) (rmz := rm_L_value) h dL_law_206 (V_L_value h.2.1 fC oA hr) lw_ml_value lw_st_value lw_cw_value lw_init (by decide +kernel) (by decide) rfl (Nat.le_of_ble_eq_true rfl) (show k + 6 ≤ 603072 by omega) (show n + 157 ≤ 7198826 by omega) ?_
  intro kk M1 hw
  obtain ⟨rfl, I1, hz⟩ := ww_th hTH hw
  obtain ⟨fB, oB⟩ := I1.oB
  obtain ⟨t0, m0⟩ := I1.2.1
  obtain ⟨M2, y2, f2, m2, F2, e2⟩ := hRef M1 t0 m0
  obtain ⟨I2, d2⟩ := I1.fb F2 m2
  refine x_step (x_is dL_law_209 (by decide)) C (fun K => rfl) ?_
  refine x_step (x_aln (i := 2) dL_law_211) C (fun K => rfl) ?_
  refine lx_arg h (j := 1) (by omega) (by decide) dL_law_212 dL_law_213 dL_law_215 dL_law_216 dL_law_217 ?_
  refine x_step (x_i2l dL_law_218) C (fun K => rfl) ?_
  refine x_step (x_bipush (v := 32) dL_law_219 (by decide)) C (fun K => rfl) ?_
  refine x_step (x_lshl dL_law_221) C (fun K => rfl) ?_
  refine lx_arg h (j := 2) (by omega) (by decide) dL_law_222 dL_law_223 dL_law_225 dL_law_226 dL_law_227 ?_
  refine x_step (x_i2l dL_law_228) C (fun K => rfl) ?_
  refine x_step (x_ldc2 dL_law_229 lw_c42) C (fun K => rfl) ?_
  refine x_step (x_land dL_law_232) C (fun K => rfl) ?_
  refine x_step (x_lor dL_law_233) C (fun K => rfl) ?_
  refine lx_arg h (j := 3) (by omega) (by decide) dL_law_234 dL_law_235 dL_law_237 dL_law_238 dL_law_239 ?_
  refine x_step (x_i2l dL_law_240) C (fun K => rfl) ?_
  refine x_step (x_bipush (v := 32) dL_law_241 (by decide)) C (fun K => rfl) ?_
  refine x_step (x_lshl dL_law_243) C (fun K => rfl) ?_
  refine lx_arg h (j := 4) (by omega) (by decide) dL_law_244 dL_law_245 dL_law_247 dL_law_248 dL_law_249 ?_
  refine x_step (x_i2l dL_law_250) C (fun K => rfl) ?_
  refine x_step (x_ldc2 dL_law_251 lw_c42) C (fun K => rfl) ?_
  refine x_step (x_land dL_law_254) C (fun K => rfl) ?_
  refine x_step (x_lor dL_law_255) C (fun K => rfl) ?_
  refine lx_v (as := [.long (lgw (xs (i + 1)) (xs (i + 2))), .long (lgw (xs (i + 3)) (xs (i + 4)))]) (rest := []) (A := (A + 38)) (ci := 7) (rmz := rm_X7_value) h dL_law_256 V_X7_value w831 w832 w833 rfl (by decide) oB rfl (Nat.le_of_ble_eq_true rfl) f2 (show k + 6 + 0 ≤ 603072 by omega) (show n + 157 + 0 ≤ 7198826 by omega) ?_
  refine x_step (x_is dL_law_259 (by decide)) C (fun K => rfl) ?_
  exact lx_ti h I2 m2 (fun z => by obtain ⟨g, g1, g2⟩ := hz z; exact ⟨g, d2.trans g1, g2.trans (e2 z).symm⟩) (show k + 6 + 0 ≤ 603072 by omega) (show n + 157 + 0 ≤ 7198826 by omega) dL_law_261 dL_law_262 dL_law_265 dL_law_267 dL_law_272 dL_law_274 dL_law_277 dL_law_278 dL_law_279 dL_law_280 dL_law_282 dL_law_283 dL_law_284 dL_law_289 (by decide) (next _ _ _ _ I2 (show k + 6 + 0 ≤ k + 130 by omega) (show n + 157 + 0 ≤ n + 3400 by omega))
theorem lc_over {G : me_G} {p : Program} {l : Launch} {e : Env} {s : State} {m : MethodId} {below : List Frame} {meth : Method} {c : Code} {b L : Nat} {xs : Nat → Int32} {Q : State → Prop} (h : LX G p l s m meth c b L xs) {A i : Nat} {s0 : Sx} {M : me_M} {k n : Nat} (I0 : LM M A s0 s0) (hi : i + 6 ≤ L) (hk : k + 130 ≤ 603072) (hn : n + 3400 ≤ 7198826) (next : ∀ (M' : me_M) (s' : Sx) (k' n' : Nat), LM M' A s' s' → k' ≤ k + 130 → n' ≤ n + 3400 → lx_W G p l e s m below meth c b Q (1422, lwl b A i [], [], M', k', n')) {u : Sx} {th : Int32} {Z : Int64} {r : sm_R} (fC : f_X6_over [.ref A, .int (xs (i + 1)), .int (xs (i + 2))] M = some r) (hr : (∃ (x : Int32) (g : Nat → Int64), r.1 = some (.int x) ∧ r.2.2 (A + 50) = some (.inl (1, 1, .inr (.inl g)))) ∨ r.1 = some (.float 0)) (hTH : TH A s0 u r th (fun _ => 1) Z) (hRef : ∀ (M1 : me_M) (t0 : Int32), MF M1 (A + 38) t0 s0 → ∃ (M2 : me_M) (y : Int32), f_X7_over [.ref (A + 38), .int (xs (i + 1)), .int (xs (i + 2))] M1 = some (some (.int y), M2) ∧ MF M2 (A + 38) th u ∧ FB M1 M2 (A + 38) ∧ (th = 0 → y.toInt64 = Z)) : lx_W G p l e s m below meth c b Q (403, lwl b A i [], [], M, k, n) := by
  have C := h.1
  have hL := h.2.2.2.2.2.2.2
  obtain ⟨fA, oA⟩ := I0.oA
  refine x_step (x_aln (i := 1) dL_law_403) C (fun K => rfl) ?_
  refine lx_arg h (j := 1) (by omega) (by decide) dL_law_404 dL_law_405 dL_law_407 dL_law_408 dL_law_409 ?_
  refine lx_arg h (j := 2) (by omega) (by decide) dL_law_410 dL_law_411 dL_law_413 dL_law_414 dL_law_415 ?_
  refine x_step (x_aln (i := 3) dL_law_416) C (fun K => rfl) ?_
  refine lx_s (as := [.ref A, .int (xs (i + 1)), .int (xs (i + 2)), .ref (A + 50)]) (rest := []) (np := 4) (rmz := rm_L_over) h dL_law_417 (V_L_over h.2.1 fC oA hr) lw_ml_over lw_st_over lw_cw_over lw_init (by decide +kernel) (by decide) rfl (Nat.le_of_ble_eq_true rfl) (show k + 6 ≤ 603072 by omega) (show n + 157 ≤ 7198826 by omega) ?_
  intro kk M1 hw
  obtain ⟨rfl, I1, hz⟩ := ww_th hTH hw
  obtain ⟨fB, oB⟩ := I1.oB
  obtain ⟨t0, m0⟩ := I1.2.1
  obtain ⟨M2, y2, f2, m2, F2, e2⟩ := hRef M1 t0 m0
  obtain ⟨I2, d2⟩ := I1.fb F2 m2
  refine x_step (x_is dL_law_420 (by decide)) C (fun K => rfl) ?_
  refine x_step (x_aln (i := 2) dL_law_422) C (fun K => rfl) ?_
  refine lx_arg h (j := 1) (by omega) (by decide) dL_law_423 dL_law_424 dL_law_426 dL_law_427 dL_law_428 ?_
  refine lx_arg h (j := 2) (by omega) (by decide) dL_law_429 dL_law_430 dL_law_432 dL_law_433 dL_law_434 ?_
  refine lx_v (as := [.int (xs (i + 1)), .int (xs (i + 2))]) (rest := []) (A := (A + 38)) (ci := 7) (rmz := rm_X7_over) h dL_law_435 V_X7_over w956 w957 w958 rfl (by decide) oB rfl (Nat.le_of_ble_eq_true rfl) f2 (show k + 6 + 0 ≤ 603072 by omega) (show n + 157 + 0 ≤ 7198826 by omega) ?_
  refine x_step (x_is dL_law_438 (by decide)) C (fun K => rfl) ?_
  exact lx_ti h I2 m2 (fun z => by obtain ⟨g, g1, g2⟩ := hz z; exact ⟨g, d2.trans g1, g2.trans (e2 z).symm⟩) (show k + 6 + 0 ≤ 603072 by omega) (show n + 157 + 0 ≤ 7198826 by omega) dL_law_440 dL_law_441 dL_law_444 dL_law_446 dL_law_451 dL_law_453 dL_law_456 dL_law_457 dL_law_458 dL_law_459 dL_law_461 dL_law_462 dL_law_463 dL_law_468 (by decide) (next _ _ _ _ I2 (show k + 6 + 0 ≤ k + 130 by omega) (show n + 157 + 0 ≤ n + 3400 by omega))
theorem lc_rest {G : me_G} {p : Program} {l : Launch} {e : Env} {s : State} {m : MethodId} {below : List Frame} {meth : Method} {c : Code} {b L : Nat} {xs : Nat → Int32} {Q : State → Prop} (h : LX G p l s m meth c b L xs) {A i : Nat} {s0 : Sx} {M : me_M} {k n : Nat} (I0 : LM M A s0 s0) (hi : i + 6 ≤ L) (hk : k + 130 ≤ 603072) (hn : n + 3400 ≤ 7198826) (next : ∀ (M' : me_M) (s' : Sx) (k' n' : Nat), LM M' A s' s' → k' ≤ k + 130 → n' ≤ n + 3400 → lx_W G p l e s m below meth c b Q (1422, lwl b A i [], [], M', k', n')) {u : Sx} {th : Int32} {Z : Int64} {r : sm_R} (fC : f_X6_rest [.ref A, .int (xs (i + 1)), .int (xs (i + 2))] M = some r) (hr : (∃ (x : Int32) (g : Nat → Int64), r.1 = some (.int x) ∧ r.2.2 (A + 50) = some (.inl (1, 1, .inr (.inl g)))) ∨ r.1 = some (.float 0)) (hTH : TH A s0 u r th (fun _ => 1) Z) (hRef : ∀ (M1 : me_M) (t0 : Int32), MF M1 (A + 38) t0 s0 → ∃ (M2 : me_M) (y : Int32), f_X7_rest [.ref (A + 38), .int (xs (i + 1)), .int (xs (i + 2))] M1 = some (some (.int y), M2) ∧ MF M2 (A + 38) th u ∧ FB M1 M2 (A + 38) ∧ (th = 0 → y.toInt64 = Z)) : lx_W G p l e s m below meth c b Q (471, lwl b A i [], [], M, k, n) := by
  have C := h.1
  have hL := h.2.2.2.2.2.2.2
  obtain ⟨fA, oA⟩ := I0.oA
  refine x_step (x_aln (i := 1) dL_law_471) C (fun K => rfl) ?_
  refine lx_arg h (j := 1) (by omega) (by decide) dL_law_472 dL_law_473 dL_law_475 dL_law_476 dL_law_477 ?_
  refine lx_arg h (j := 2) (by omega) (by decide) dL_law_478 dL_law_479 dL_law_481 dL_law_482 dL_law_483 ?_
  refine x_step (x_aln (i := 3) dL_law_484) C (fun K => rfl) ?_
  refine lx_s (as := [.ref A, .int (xs (i + 1)), .int (xs (i + 2)), .ref (A + 50)]) (rest := []) (np := 4) (rmz := rm_L_rest) h dL_law_485 (V_L_rest h.2.1 fC oA hr) lw_ml_rest lw_st_rest lw_cw_rest lw_init (by decide +kernel) (by decide) rfl (Nat.le_of_ble_eq_true rfl) (show k + 6 ≤ 603072 by omega) (show n + 157 ≤ 7198826 by omega) ?_
  intro kk M1 hw
  obtain ⟨rfl, I1, hz⟩ := ww_th hTH hw
  obtain ⟨fB, oB⟩ := I1.oB
  obtain ⟨t0, m0⟩ := I1.2.1
  obtain ⟨M2, y2, f2, m2, F2, e2⟩ := hRef M1 t0 m0
  obtain ⟨I2, d2⟩ := I1.fb F2 m2
  refine x_step (x_is dL_law_488 (by decide)) C (fun K => rfl) ?_
  refine x_step (x_aln (i := 2) dL_law_490) C (fun K => rfl) ?_
  refine lx_arg h (j := 1) (by omega) (by decide) dL_law_491 dL_law_492 dL_law_494 dL_law_495 dL_law_496 ?_
  refine lx_arg h (j := 2) (by omega) (by decide) dL_law_497 dL_law_498 dL_law_500 dL_law_501 dL_law_502 ?_
  refine lx_v (as := [.int (xs (i + 1)), .int (xs (i + 2))]) (rest := []) (A := (A + 38)) (ci := 7) (rmz := rm_X7_rest) h dL_law_503 V_X7_rest w960 w961 w962 rfl (by decide) oB rfl (Nat.le_of_ble_eq_true rfl) f2 (show k + 6 + 0 ≤ 603072 by omega) (show n + 157 + 0 ≤ 7198826 by omega) ?_
  refine x_step (x_is dL_law_506 (by decide)) C (fun K => rfl) ?_
  exact lx_ti h I2 m2 (fun z => by obtain ⟨g, g1, g2⟩ := hz z; exact ⟨g, d2.trans g1, g2.trans (e2 z).symm⟩) (show k + 6 + 0 ≤ 603072 by omega) (show n + 157 + 0 ≤ 7198826 by omega) dL_law_508 dL_law_509 dL_law_512 dL_law_514 dL_law_519 dL_law_521 dL_law_524 dL_law_525 dL_law_526 dL_law_527 dL_law_529 dL_law_530 dL_law_531 dL_law_536 (by decide) (next _ _ _ _ I2 (show k + 6 + 0 ≤ k + 130 by omega) (show n + 157 + 0 ≤ n + 3400 by omega))
theorem lc_part {G : me_G} {p : Program} {l : Launch} {e : Env} {s : State} {m : MethodId} {below : List Frame} {meth : Method} {c : Code} {b L : Nat} {xs : Nat → Int32} {Q : State → Prop} (h : LX G p l s m meth c b L xs) {A i : Nat} {s0 : Sx} {M : me_M} {k n : Nat} (I0 : LM M A s0 s0) (hi : i + 6 ≤ L) (hk : k + 130 ≤ 603072) (hn : n + 3400 ≤ 7198826) (next : ∀ (M' : me_M) (s' : Sx) (k' n' : Nat), LM M' A s' s' → k' ≤ k + 130 → n' ≤ n + 3400 → lx_W G p l e s m below meth c b Q (1422, lwl b A i [], [], M', k', n')) {u : Sx} {th : Int32} {Z : Int64} {r : sm_R} (fC : f_X6_part [.ref A, .int (xs (i + 1)), .int (xs (i + 2))] M = some r) (hr : (∃ (x : Int64) (g : Nat → Int64), r.1 = some (.long x) ∧ r.2.2 (A + 50) = some (.inl (1, 1, .inr (.inl g)))) ∨ r.1 = some (.float 1) ∨ r.1 = some (.float 0)) (hTH : TH A s0 u r th (fun k => if k = 1 then 1 else 2) Z) (hRef : ∀ (M1 : me_M) (t0 : Int32), MF M1 (A + 38) t0 s0 → ∃ (M2 : me_M) (y : Int64), f_X7_part [.ref (A + 38), .int (xs (i + 1)), .int (xs (i + 2))] M1 = some (some (.long y), M2) ∧ MF M2 (A + 38) th u ∧ FB M1 M2 (A + 38) ∧ (th = 0 → y = Z)) : lx_W G p l e s m below meth c b Q (687, lwl b A i [], [], M, k, n) := by
  have C := h.1
  have hL := h.2.2.2.2.2.2.2
  obtain ⟨fA, oA⟩ := I0.oA
  refine x_step (x_aln (i := 1) dL_law_687) C (fun K => rfl) ?_
  refine lx_arg h (j := 1) (by omega) (by decide) dL_law_688 dL_law_689 dL_law_691 dL_law_692 dL_law_693 ?_
  refine lx_arg h (j := 2) (by omega) (by decide) dL_law_694 dL_law_695 dL_law_697 dL_law_698 dL_law_699 ?_
  refine x_step (x_aln (i := 3) dL_law_700) C (fun K => rfl) ?_
  refine lx_s (as := [.ref A, .int (xs (i + 1)), .int (xs (i + 2)), .ref (A + 50)]) (rest := []) (np := 4) (rmz := rm_L_part) h dL_law_701 (V_L_part h.2.1 fC oA hr) lw_ml_part lw_st_part lw_cw_part lw_init (by decide +kernel) (by decide) rfl (Nat.le_of_ble_eq_true rfl) (show k + 2 ≤ 603072 by omega) (show n + 12 ≤ 7198826 by omega) ?_
  intro kk M1 hw
  obtain ⟨rfl, I1, hz⟩ := ww_th hTH hw
  obtain ⟨fB, oB⟩ := I1.oB
  obtain ⟨t0, m0⟩ := I1.2.1
  obtain ⟨M2, y2, f2, m2, F2, e2⟩ := hRef M1 t0 m0
  obtain ⟨I2, d2⟩ := I1.fb F2 m2
  refine x_step (x_is dL_law_704 (by decide)) C (fun K => rfl) ?_
  refine x_step (x_aln (i := 2) dL_law_706) C (fun K => rfl) ?_
  refine lx_arg h (j := 1) (by omega) (by decide) dL_law_707 dL_law_708 dL_law_710 dL_law_711 dL_law_712 ?_
  refine lx_arg h (j := 2) (by omega) (by decide) dL_law_713 dL_law_714 dL_law_716 dL_law_717 dL_law_718 ?_
  refine lx_v (as := [.int (xs (i + 1)), .int (xs (i + 2))]) (rest := []) (A := (A + 38)) (ci := 7) (rmz := rm_X7_part) h dL_law_719 V_X7_part w993 w994 w995 rfl (by decide) oB rfl (Nat.le_of_ble_eq_true rfl) f2 (show k + 2 + 0 ≤ 603072 by omega) (show n + 12 + 0 ≤ 7198826 by omega) ?_
  refine x_step (x_ls dL_law_722 (by decide)) C (fun K => rfl) ?_
  exact lx_tl h I2 m2 (fun z => by obtain ⟨g, g1, g2⟩ := hz z; exact ⟨g, d2.trans g1, g2.trans (e2 z).symm⟩) (show k + 2 + 0 ≤ 603072 by omega) (show n + 12 + 0 ≤ 7198826 by omega) dL_law_724 dL_law_725 dL_law_728 dL_law_730 dL_law_735 dL_law_737 dL_law_740 dL_law_741 dL_law_742 dL_law_743 dL_law_745 dL_law_746 dL_law_751 (by decide) (next _ _ _ _ I2 (show k + 2 + 0 ≤ k + 130 by omega) (show n + 12 + 0 ≤ n + 3400 by omega))
theorem lc_limb {G : me_G} {p : Program} {l : Launch} {e : Env} {s : State} {m : MethodId} {below : List Frame} {meth : Method} {c : Code} {b L : Nat} {xs : Nat → Int32} {Q : State → Prop} (h : LX G p l s m meth c b L xs) {A i : Nat} {s0 : Sx} {M : me_M} {k n : Nat} (I0 : LM M A s0 s0) (hi : i + 6 ≤ L) (hk : k + 130 ≤ 603072) (hn : n + 3400 ≤ 7198826) (next : ∀ (M' : me_M) (s' : Sx) (k' n' : Nat), LM M' A s' s' → k' ≤ k + 130 → n' ≤ n + 3400 → lx_W G p l e s m below meth c b Q (1422, lwl b A i [], [], M', k', n')) {u : Sx} {th : Int32} {Z : Int64} {r : sm_R} (fC : f_X6_limb [.ref A, .int (xs (i + 1)), .int (xs (i + 2)), .int (xs (i + 3))] M = some r) (hr : (∃ (x : Int32) (g : Nat → Int64), r.1 = some (.int x) ∧ r.2.2 (A + 50) = some (.inl (1, 1, .inr (.inl g)))) ∨ r.1 = some (.float 1) ∨ r.1 = some (.float 2)) (hTH : TH A s0 u r th (fun k => if k = 1 then 1 else 2) Z) (hRef : ∀ (M1 : me_M) (t0 : Int32), MF M1 (A + 38) t0 s0 → ∃ (M2 : me_M) (y : Int32), f_X7_limb [.ref (A + 38), .int (xs (i + 1)), .int (xs (i + 2)), .int (xs (i + 3))] M1 = some (some (.int y), M2) ∧ MF M2 (A + 38) th u ∧ FB M1 M2 (A + 38) ∧ (th = 0 → y.toInt64 = Z)) : lx_W G p l e s m below meth c b Q (754, lwl b A i [], [], M, k, n) := by
  have C := h.1
  have hL := h.2.2.2.2.2.2.2
  obtain ⟨fA, oA⟩ := I0.oA
  refine x_step (x_aln (i := 1) dL_law_754) C (fun K => rfl) ?_
  refine lx_arg h (j := 1) (by omega) (by decide) dL_law_755 dL_law_756 dL_law_758 dL_law_759 dL_law_760 ?_
  refine lx_arg h (j := 2) (by omega) (by decide) dL_law_761 dL_law_762 dL_law_764 dL_law_765 dL_law_766 ?_
  refine lx_arg h (j := 3) (by omega) (by decide) dL_law_767 dL_law_768 dL_law_770 dL_law_771 dL_law_772 ?_
  refine x_step (x_aln (i := 3) dL_law_773) C (fun K => rfl) ?_
  refine lx_s (as := [.ref A, .int (xs (i + 1)), .int (xs (i + 2)), .int (xs (i + 3)), .ref (A + 50)]) (rest := []) (np := 5) (rmz := rm_L_limb) h dL_law_774 (V_L_limb h.2.1 fC oA hr) lw_ml_limb lw_st_limb lw_cw_limb lw_init (by decide +kernel) (by decide) rfl (Nat.le_of_ble_eq_true rfl) (show k + 2 ≤ 603072 by omega) (show n + 12 ≤ 7198826 by omega) ?_
  intro kk M1 hw
  obtain ⟨rfl, I1, hz⟩ := ww_th hTH hw
  obtain ⟨fB, oB⟩ := I1.oB
  obtain ⟨t0, m0⟩ := I1.2.1
  obtain ⟨M2, y2, f2, m2, F2, e2⟩ := hRef M1 t0 m0
  obtain ⟨I2, d2⟩ := I1.fb F2 m2
  refine x_step (x_is dL_law_777 (by decide)) C (fun K => rfl) ?_
  refine x_step (x_aln (i := 2) dL_law_779) C (fun K => rfl) ?_
  refine lx_arg h (j := 1) (by omega) (by decide) dL_law_780 dL_law_781 dL_law_783 dL_law_784 dL_law_785 ?_
  refine lx_arg h (j := 2) (by omega) (by decide) dL_law_786 dL_law_787 dL_law_789 dL_law_790 dL_law_791 ?_
  refine lx_arg h (j := 3) (by omega) (by decide) dL_law_792 dL_law_793 dL_law_795 dL_law_796 dL_law_797 ?_
  refine lx_v (as := [.int (xs (i + 1)), .int (xs (i + 2)), .int (xs (i + 3))]) (rest := []) (A := (A + 38)) (ci := 7) (rmz := rm_X7_limb) h dL_law_798 V_X7_limb w997 w998 w999 rfl (by decide) oB rfl (Nat.le_of_ble_eq_true rfl) f2 (show k + 2 + 0 ≤ 603072 by omega) (show n + 12 + 0 ≤ 7198826 by omega) ?_
  refine x_step (x_is dL_law_801 (by decide)) C (fun K => rfl) ?_
  exact lx_ti h I2 m2 (fun z => by obtain ⟨g, g1, g2⟩ := hz z; exact ⟨g, d2.trans g1, g2.trans (e2 z).symm⟩) (show k + 2 + 0 ≤ 603072 by omega) (show n + 12 + 0 ≤ 7198826 by omega) dL_law_803 dL_law_804 dL_law_807 dL_law_809 dL_law_814 dL_law_816 dL_law_819 dL_law_820 dL_law_821 dL_law_822 dL_law_824 dL_law_825 dL_law_826 dL_law_831 (by decide) (next _ _ _ _ I2 (show k + 2 + 0 ≤ k + 130 by omega) (show n + 12 + 0 ≤ n + 3400 by omega))
theorem lc_exact {G : me_G} {p : Program} {l : Launch} {e : Env} {s : State} {m : MethodId} {below : List Frame} {meth : Method} {c : Code} {b L : Nat} {xs : Nat → Int32} {Q : State → Prop} (h : LX G p l s m meth c b L xs) {A i : Nat} {s0 : Sx} {M : me_M} {k n : Nat} (I0 : LM M A s0 s0) (hi : i + 6 ≤ L) (hk : k + 130 ≤ 603072) (hn : n + 3400 ≤ 7198826) (next : ∀ (M' : me_M) (s' : Sx) (k' n' : Nat), LM M' A s' s' → k' ≤ k + 130 → n' ≤ n + 3400 → lx_W G p l e s m below meth c b Q (1422, lwl b A i [], [], M', k', n')) {u : Sx} {th : Int32} {Z : Int64} {r : sm_R} (fC : f_X6_exact [.ref A, .int (xs (i + 1)), .long (lgw (xs (i + 2)) (xs (i + 3))), .long (lgw (xs (i + 4)) (xs (i + 5)))] M = some r) (hr : (∃ (x : Int64) (g : Nat → Int64), r.1 = some (.long x) ∧ r.2.2 (A + 50) = some (.inl (1, 1, .inr (.inl g)))) ∨ r.1 = some (.float 1) ∨ r.1 = some (.float 0)) (hTH : TH A s0 u r th (fun k => if k = 1 then 1 else 2) Z) (hRef : ∀ (M1 : me_M) (t0 : Int32), MF M1 (A + 38) t0 s0 → ∃ (M2 : me_M) (y : Int64), f_X7_exact [.ref (A + 38), .int (xs (i + 1)), .long (lgw (xs (i + 2)) (xs (i + 3))), .long (lgw (xs (i + 4)) (xs (i + 5)))] M1 = some (some (.long y), M2) ∧ MF M2 (A + 38) th u ∧ FB M1 M2 (A + 38) ∧ (th = 0 → y = Z)) : lx_W G p l e s m below meth c b Q (834, lwl b A i [], [], M, k, n) := by
  have C := h.1
  have hL := h.2.2.2.2.2.2.2
  obtain ⟨fA, oA⟩ := I0.oA
  refine x_step (x_aln (i := 1) dL_law_834) C (fun K => rfl) ?_
  refine lx_arg h (j := 1) (by omega) (by decide) dL_law_835 dL_law_836 dL_law_838 dL_law_839 dL_law_840 ?_
  refine lx_arg h (j := 2) (by omega) (by decide) dL_law_841 dL_law_842 dL_law_844 dL_law_845 dL_law_846 ?_
  refine x_step (x_i2l dL_law_847) C (fun K => rfl) ?_
  refine x_step (x_bipush (v := 32) dL_law_848 (by decide)) C (fun K => rfl) ?_
  refine x_step (x_lshl dL_law_850) C (fun K => rfl) ?_
  refine lx_arg h (j := 3) (by omega) (by decide) dL_law_851 dL_law_852 dL_law_854 dL_law_855 dL_law_856 ?_
  refine x_step (x_i2l dL_law_857) C (fun K => rfl) ?_
  refine x_step (x_ldc2 dL_law_858 lw_c42) C (fun K => rfl) ?_
  refine x_step (x_land dL_law_861) C (fun K => rfl) ?_
  refine x_step (x_lor dL_law_862) C (fun K => rfl) ?_
  refine lx_arg h (j := 4) (by omega) (by decide) dL_law_863 dL_law_864 dL_law_866 dL_law_867 dL_law_868 ?_
  refine x_step (x_i2l dL_law_869) C (fun K => rfl) ?_
  refine x_step (x_bipush (v := 32) dL_law_870 (by decide)) C (fun K => rfl) ?_
  refine x_step (x_lshl dL_law_872) C (fun K => rfl) ?_
  refine lx_arg h (j := 5) (by omega) (by decide) dL_law_873 dL_law_874 dL_law_876 dL_law_877 dL_law_878 ?_
  refine x_step (x_i2l dL_law_879) C (fun K => rfl) ?_
  refine x_step (x_ldc2 dL_law_880 lw_c42) C (fun K => rfl) ?_
  refine x_step (x_land dL_law_883) C (fun K => rfl) ?_
  refine x_step (x_lor dL_law_884) C (fun K => rfl) ?_
  refine x_step (x_aln (i := 3) dL_law_885) C (fun K => rfl) ?_
  refine lx_s (as := [.ref A, .int (xs (i + 1)), .long (lgw (xs (i + 2)) (xs (i + 3))), .long (lgw (xs (i + 4)) (xs (i + 5))), .ref (A + 50)]) (rest := []) (np := 5) (rmz := rm_L_exact) h dL_law_886 (V_L_exact h.2.1 fC oA hr) lw_ml_exact lw_st_exact lw_cw_exact lw_init (by decide +kernel) (by decide) rfl (Nat.le_of_ble_eq_true rfl) (show k + 9 ≤ 603072 by omega) (show n + 54 ≤ 7198826 by omega) ?_
  intro kk M1 hw
  obtain ⟨rfl, I1, hz⟩ := ww_th hTH hw
  obtain ⟨fB, oB⟩ := I1.oB
  obtain ⟨t0, m0⟩ := I1.2.1
  obtain ⟨M2, y2, f2, m2, F2, e2⟩ := hRef M1 t0 m0
  obtain ⟨I2, d2⟩ := I1.fb F2 m2
  refine x_step (x_is dL_law_889 (by decide)) C (fun K => rfl) ?_
  refine x_step (x_aln (i := 2) dL_law_891) C (fun K => rfl) ?_
  refine lx_arg h (j := 1) (by omega) (by decide) dL_law_892 dL_law_893 dL_law_895 dL_law_896 dL_law_897 ?_
  refine lx_arg h (j := 2) (by omega) (by decide) dL_law_898 dL_law_899 dL_law_901 dL_law_902 dL_law_903 ?_
  refine x_step (x_i2l dL_law_904) C (fun K => rfl) ?_
  refine x_step (x_bipush (v := 32) dL_law_905 (by decide)) C (fun K => rfl) ?_
  refine x_step (x_lshl dL_law_907) C (fun K => rfl) ?_
  refine lx_arg h (j := 3) (by omega) (by decide) dL_law_908 dL_law_909 dL_law_911 dL_law_912 dL_law_913 ?_
  refine x_step (x_i2l dL_law_914) C (fun K => rfl) ?_
  refine x_step (x_ldc2 dL_law_915 lw_c42) C (fun K => rfl) ?_
  refine x_step (x_land dL_law_918) C (fun K => rfl) ?_
  refine x_step (x_lor dL_law_919) C (fun K => rfl) ?_
  refine lx_arg h (j := 4) (by omega) (by decide) dL_law_920 dL_law_921 dL_law_923 dL_law_924 dL_law_925 ?_
  refine x_step (x_i2l dL_law_926) C (fun K => rfl) ?_
  refine x_step (x_bipush (v := 32) dL_law_927 (by decide)) C (fun K => rfl) ?_
  refine x_step (x_lshl dL_law_929) C (fun K => rfl) ?_
  refine lx_arg h (j := 5) (by omega) (by decide) dL_law_930 dL_law_931 dL_law_933 dL_law_934 dL_law_935 ?_
  refine x_step (x_i2l dL_law_936) C (fun K => rfl) ?_
  refine x_step (x_ldc2 dL_law_937 lw_c42) C (fun K => rfl) ?_
  refine x_step (x_land dL_law_940) C (fun K => rfl) ?_
  refine x_step (x_lor dL_law_941) C (fun K => rfl) ?_
  refine lx_v (as := [.int (xs (i + 1)), .long (lgw (xs (i + 2)) (xs (i + 3))), .long (lgw (xs (i + 4)) (xs (i + 5)))]) (rest := []) (A := (A + 38)) (ci := 7) (rmz := rm_X7_exact) h dL_law_942 V_X7_exact w1001 w1002 w1003 rfl (by decide) oB rfl (Nat.le_of_ble_eq_true rfl) f2 (show k + 9 + 0 ≤ 603072 by omega) (show n + 54 + 0 ≤ 7198826 by omega) ?_
  refine x_step (x_ls dL_law_945 (by decide)) C (fun K => rfl) ?_
  exact lx_tl h I2 m2 (fun z => by obtain ⟨g, g1, g2⟩ := hz z; exact ⟨g, d2.trans g1, g2.trans (e2 z).symm⟩) (show k + 9 + 0 ≤ 603072 by omega) (show n + 54 + 0 ≤ 7198826 by omega) dL_law_947 dL_law_948 dL_law_951 dL_law_953 dL_law_958 dL_law_960 dL_law_963 dL_law_964 dL_law_965 dL_law_966 dL_law_968 dL_law_969 dL_law_974 (by decide) (next _ _ _ _ I2 (show k + 9 + 0 ≤ k + 130 by omega) (show n + 54 + 0 ≤ n + 3400 by omega))
