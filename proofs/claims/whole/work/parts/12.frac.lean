/-! X2_init -/
abbrev rm_X2_init : Room := { frames := 1, cells := 0, slots := 0, locals := 20 }
noncomputable def T_X2_init : sm_T := [(0, i_al 0 1), (1, i_oi 4), (4, i_al 0 5), (5, i_il 1 6), (6, i_pi 2 0 9), (9, i_al 0 10), (10, i_al 2 11), (11, i_pr 2 1 14), (14, i_al 0 15), (15, i_al 3 16), (16, i_pr 2 2 19), (19, i_rv 0 0)]
set_option maxRecDepth 20000 in
theorem A_X2_init : sd_A yX2_init cX2_init 4 none rm_X2_init T_X2_init := by
  refine sd_c (pc := 0) (f := i_al 0 1) (s_aln (i := 0) dX2_init_0) ?_
  refine sd_c (pc := 1) (f := i_oi 4) (s_oi dX2_init_1 w99 w26 w27 (by decide)) ?_
  refine sd_c (pc := 4) (f := i_al 0 5) (s_aln (i := 0) dX2_init_4) ?_
  refine sd_c (pc := 5) (f := i_il 1 6) (s_iln (i := 1) dX2_init_5) ?_
  refine sd_c (pc := 6) (f := i_pi 2 0 9) (s_pi (ci := 2) (k := 0) dX2_init_6 rfl in_X2 tyX2_ok nmX2 (by decide) w100 (Or.inr ⟨rfl, rfl, rfl⟩) rfl) ?_
  refine sd_c (pc := 9) (f := i_al 0 10) (s_aln (i := 0) dX2_init_9) ?_
  refine sd_c (pc := 10) (f := i_al 2 11) (s_aln (i := 2) dX2_init_10) ?_
  refine sd_c (pc := 11) (f := i_pr 2 1 14) (s_pr (ci := 2) (k := 1) dX2_init_11 rfl in_X2 tyX2_ok nmX2 (by decide) w104 (Or.inr ⟨rfl, rfl, rfl⟩) (Or.inl ⟨_, rfl⟩)) ?_
  refine sd_c (pc := 14) (f := i_al 0 15) (s_aln (i := 0) dX2_init_14) ?_
  refine sd_c (pc := 15) (f := i_al 3 16) (s_aln (i := 3) dX2_init_15) ?_
  refine sd_c (pc := 16) (f := i_pr 2 2 19) (s_pr (ci := 2) (k := 2) dX2_init_16 rfl in_X2 tyX2_ok nmX2 (by decide) w107 (Or.inr ⟨rfl, rfl, rfl⟩) (Or.inl ⟨_, rfl⟩)) ?_
  refine sd_c (pc := 19) (f := i_rv 0 0) (s_rv dX2_init_19 rfl) ?_
  exact sd_n
noncomputable def f_X2_init : List Value → me_M → Option sm_R := sd_f 4 T_X2_init
theorem V_X2_init : sd_V yX2_init cX2_init 4 none rm_X2_init 3 f_X2_init := ⟨sd_met A_X2_init (by decide +kernel), w98, w6, by decide +kernel⟩
set_option maxRecDepth 20000 in
theorem e_X2_init (x0 : Nat) (x1 : Int32) (x2 : Nat) (x3 : Nat) (M : me_M) : f_X2_init [.ref x0, .int x1, .ref x2, .ref x3] M = (me_obj M 2 x0).bind fun f1 => if 0 < f1.length then ((me_obj (me_set M x0 (.inr (2, f1.set 0 (.int x1)))) 2 x0).bind fun f2 => if 1 < f2.length then ((me_obj (me_set (me_set M x0 (.inr (2, f1.set 0 (.int x1)))) x0 (.inr (2, f2.set 1 (.ref x2)))) 2 x0).bind fun f3 => if 2 < f3.length then (if 0 ≤ 0 ∧ 0 ≤ 0 then some (none, (me_set (me_set (me_set M x0 (.inr (2, f1.set 0 (.int x1)))) x0 (.inr (2, f2.set 1 (.ref x2)))) x0 (.inr (2, f3.set 2 (.ref x3))))) else none) else none) else none) else none := (show f_X2_init [.ref x0, .int x1, .ref x2, .ref x3] M = sm T_X2_init (0, [(0, .ref x0), (1, .int x1), (2, .ref x2), (3, .ref x3)], [], M, 0, 0) from rfl).trans (by have hF := sm_fx A_X2_init; generalize sm T_X2_init = F_ at hF ⊢; exact (sm_h hF (f := i_al 0 1) rfl).trans (q_al rfl ((sm_h hF (f := i_oi 4) rfl).trans (q_oi rfl (vr ((sm_h hF (f := i_al 0 5) rfl).trans (q_al rfl ((sm_h hF (f := i_il 1 6) rfl).trans (q_il rfl ((sm_h hF (f := i_pi 2 0 9) rfl).trans (q_pi (vi (vr (ob fun f1 => ic ((sm_h hF (f := i_al 0 10) rfl).trans (q_al rfl ((sm_h hF (f := i_al 2 11) rfl).trans (q_al rfl ((sm_h hF (f := i_pr 2 1 14) rfl).trans (q_pr (vn (vr (ob fun f2 => ic ((sm_h hF (f := i_al 0 15) rfl).trans (q_al rfl ((sm_h hF (f := i_al 3 16) rfl).trans (q_al rfl ((sm_h hF (f := i_pr 2 2 19) rfl).trans (q_pr (vn (vr (ob fun f3 => ic ((sm_h hF (f := i_rv 0 0) rfl).trans (q_rv (rfl))) (rfl)))))))))) (rfl)))))))))) (rfl)))))))))))))))
/-! X2_side -/
abbrev rm_X2_side : Room := { frames := 0, cells := 0, slots := 0, locals := 0 }
noncomputable def T_X2_side : sm_T := [(0, i_il 1 1), (1, i_z (fun x => x = 0) 4 11), (4, i_al 0 5), (5, i_gf 2 1 8), (8, i_g 15), (11, i_al 0 12), (12, i_gf 2 2 15), (15, i_ra 0 0)]
set_option maxRecDepth 20000 in
theorem A_X2_side : sd_A yX2_side cX2_side 2 (some (.object RX5)) rm_X2_side T_X2_side := by
  refine sd_c (pc := 0) (f := i_il 1 1) (s_iln (i := 1) dX2_side_0) ?_
  refine sd_c (pc := 1) (f := i_z (fun x => x = 0) 4 11) (s_if_ne (tgt := 11) dX2_side_1 (by decide)) ?_
  refine sd_c (pc := 4) (f := i_al 0 5) (s_aln (i := 0) dX2_side_4) ?_
  refine sd_c (pc := 5) (f := i_gf 2 1 8) (s_gf (ci := 2) (k := 1) dX2_side_5 rfl in_X2 (by decide) w104) ?_
  refine sd_c (pc := 8) (f := i_g 15) (s_goto (tgt := 15) dX2_side_8 (by decide)) ?_
  refine sd_c (pc := 11) (f := i_al 0 12) (s_aln (i := 0) dX2_side_11) ?_
  refine sd_c (pc := 12) (f := i_gf 2 2 15) (s_gf (ci := 2) (k := 2) dX2_side_12 rfl in_X2 (by decide) w107) ?_
  refine sd_c (pc := 15) (f := i_ra 0 0) (s_ra dX2_side_15 rfl) ?_
  exact sd_n
noncomputable def f_X2_side : List Value → me_M → Option sm_R := sd_f 2 T_X2_side
theorem V_X2_side : sd_V yX2_side cX2_side 2 (some (.object RX5)) rm_X2_side 1 f_X2_side := ⟨sd_met A_X2_side (by decide +kernel), w694, w6, by decide +kernel⟩
set_option maxRecDepth 20000 in
theorem e_X2_side (x0 : Nat) (x1 : Int32) (M : me_M) : f_X2_side [.ref x0, .int x1] M = if x1 = 0 then ((me_obj M 2 x0).bind fun f3 => (f3[1]?).bind fun w4 => (v_rn w4).bind fun _ => if 0 ≤ 0 ∧ 0 ≤ 0 then some (some (w4), M) else none) else (me_obj M 2 x0).bind fun f1 => (f1[2]?).bind fun w2 => (v_rn w2).bind fun _ => if 0 ≤ 0 ∧ 0 ≤ 0 then some (some (w2), M) else none := (show f_X2_side [.ref x0, .int x1] M = sm T_X2_side (0, [(0, .ref x0), (1, .int x1)], [], M, 0, 0) from rfl).trans (by have hF := sm_fx A_X2_side; generalize sm T_X2_side = F_ at hF ⊢; exact (sm_h hF (f := i_il 1 1) rfl).trans (q_il rfl ((sm_h hF (f := i_z (fun x => x = 0) 4 11) rfl).trans (q_z (vi (ic ((sm_h hF (f := i_al 0 5) rfl).trans (q_al rfl ((sm_h hF (f := i_gf 2 1 8) rfl).trans (q_gf (vr (ob fun f3 => ob fun w4 => (sm_h hF (f := i_g 15) rfl).trans (q_g ((sm_h hF (f := i_ra 0 0) rfl).trans (q_ra (ob fun _ => rfl)))))))))) ((sm_h hF (f := i_al 0 12) rfl).trans (q_al rfl ((sm_h hF (f := i_gf 2 2 15) rfl).trans (q_gf (vr (ob fun f1 => ob fun w2 => (sm_h hF (f := i_ra 0 0) rfl).trans (q_ra (ob fun _ => rfl))))))))))))))
/-! X2_isSmall -/
abbrev rm_X2_isSmall : Room := { frames := 3, cells := 0, slots := 0, locals := 63 }
noncomputable def T_X2_isSmall : sm_T := [(0, i_al 0 1), (1, i_gf 2 1 4), (4, i_al 0 5), (5, i_gf 2 0 8), (8, i_z (fun x => 0 ≤ x) 15 11), (11, i_c (.int (1)) 12), (12, i_w [(16, [0])] (i_g 16)), (15, i_w [(16, [0])] (i_c (.int (0)) 16)), (16, i_cv 5 2 1 f_X5_fitsLong 0 0 0 0 19), (19, i_z (fun x => x = 0) 37 22), (22, i_al 0 23), (23, i_gf 2 2 26), (26, i_c (.int (0)) 27), (27, i_cv 5 2 1 f_X5_fitsLong 0 0 0 0 30), (30, i_z (fun x => x = 0) 37 33), (33, i_c (.int (1)) 34), (34, i_g 38), (37, i_c (.int (0)) 38), (38, i_rz 0 0)]
set_option maxRecDepth 20000 in
theorem A_X2_isSmall : sd_A yX2_isSmall cX2_isSmall 1 (some .boolean) rm_X2_isSmall T_X2_isSmall := by
  refine sd_c (pc := 0) (f := i_al 0 1) (s_aln (i := 0) dX2_isSmall_0) ?_
  refine sd_c (pc := 1) (f := i_gf 2 1 4) (s_gf (ci := 2) (k := 1) dX2_isSmall_1 rfl in_X2 (by decide) w104) ?_
  refine sd_c (pc := 4) (f := i_al 0 5) (s_aln (i := 0) dX2_isSmall_4) ?_
  refine sd_c (pc := 5) (f := i_gf 2 0 8) (s_gf (ci := 2) (k := 0) dX2_isSmall_5 rfl in_X2 (by decide) w100) ?_
  refine sd_c (pc := 8) (f := i_z (fun x => 0 ≤ x) 15 11) (s_if_ge (tgt := 15) dX2_isSmall_8 (by decide)) ?_
  refine sd_c (pc := 11) (f := i_c (.int (1)) 12) (s_iconst dX2_isSmall_11 (by decide)) ?_
  refine sd_c (pc := 12) (f := i_w [(16, [0])] (i_g 16)) (s_w (s_goto (tgt := 16) dX2_isSmall_12 (by decide))) ?_
  refine sd_c (pc := 15) (f := i_w [(16, [0])] (i_c (.int (0)) 16)) (s_w (s_iconst dX2_isSmall_15 (by decide))) ?_
  refine sd_c (pc := 16) (f := i_cv 5 2 1 f_X5_fitsLong 0 0 0 0 19) (s_cv (np := 1) (rk := 1) (ci := 5) (rmz := rm_X5_fitsLong) dX2_isSmall_16 V_X5_fitsLong w361 w362 w363 rfl (by decide)) ?_
  refine sd_c (pc := 19) (f := i_z (fun x => x = 0) 37 22) (s_if_eq (tgt := 37) dX2_isSmall_19 (by decide)) ?_
  refine sd_c (pc := 22) (f := i_al 0 23) (s_aln (i := 0) dX2_isSmall_22) ?_
  refine sd_c (pc := 23) (f := i_gf 2 2 26) (s_gf (ci := 2) (k := 2) dX2_isSmall_23 rfl in_X2 (by decide) w107) ?_
  refine sd_c (pc := 26) (f := i_c (.int (0)) 27) (s_iconst dX2_isSmall_26 (by decide)) ?_
  refine sd_c (pc := 27) (f := i_cv 5 2 1 f_X5_fitsLong 0 0 0 0 30) (s_cv (np := 1) (rk := 1) (ci := 5) (rmz := rm_X5_fitsLong) dX2_isSmall_27 V_X5_fitsLong w361 w362 w363 rfl (by decide)) ?_
  refine sd_c (pc := 30) (f := i_z (fun x => x = 0) 37 33) (s_if_eq (tgt := 37) dX2_isSmall_30 (by decide)) ?_
  refine sd_c (pc := 33) (f := i_c (.int (1)) 34) (s_iconst dX2_isSmall_33 (by decide)) ?_
  refine sd_c (pc := 34) (f := i_g 38) (s_goto (tgt := 38) dX2_isSmall_34 (by decide)) ?_
  refine sd_c (pc := 37) (f := i_c (.int (0)) 38) (s_iconst dX2_isSmall_37 (by decide)) ?_
  refine sd_c (pc := 38) (f := i_rz 0 0) (s_rz dX2_isSmall_38 rfl) ?_
  exact sd_n
noncomputable def f_X2_isSmall : List Value → me_M → Option sm_R := sd_f 1 T_X2_isSmall
theorem V_X2_isSmall : sd_V yX2_isSmall cX2_isSmall 1 (some .boolean) rm_X2_isSmall 0 f_X2_isSmall := ⟨sd_met A_X2_isSmall (by decide +kernel), w360, w6, by decide +kernel⟩
set_option maxRecDepth 20000 in
theorem e_X2_isSmall (x0 : Nat) (M : me_M) : f_X2_isSmall [.ref x0] M = (me_obj M 2 x0).bind fun f1 => (f1[1]?).bind fun w2 => (me_obj M 2 x0).bind fun f3 => (f3[0]?).bind fun w4 => (v_int w4).bind fun y5 => if 0 ≤ y5 then (sm T_X2_isSmall (16, [(0, .ref x0)], [.int (0 : Int32), w2], M, 0, 0)) else sm T_X2_isSmall (16, [(0, .ref x0)], [.int (1 : Int32), w2], M, 0, 0) := (show f_X2_isSmall [.ref x0] M = sm T_X2_isSmall (0, [(0, .ref x0)], [], M, 0, 0) from rfl).trans (by have hF := sm_fx A_X2_isSmall; generalize sm T_X2_isSmall = F_ at hF ⊢; exact (sm_h hF (f := i_al 0 1) rfl).trans (q_al rfl ((sm_h hF (f := i_gf 2 1 4) rfl).trans (q_gf (vr (ob fun f1 => ob fun w2 => (sm_h hF (f := i_al 0 5) rfl).trans (q_al rfl ((sm_h hF (f := i_gf 2 0 8) rfl).trans (q_gf (vr (ob fun f3 => ob fun w4 => (sm_h hF (f := i_z (fun x => 0 ≤ x) 15 11) rfl).trans (q_z (ob fun y5 => ic ((sm_h hF (f := i_w [(16, [0])] (i_c (.int (0)) 16)) rfl).trans (q_w (q_c (rfl)))) ((sm_h hF (f := i_c (.int (1)) 12) rfl).trans (q_c ((sm_h hF (f := i_w [(16, [0])] (i_g 16)) rfl).trans (q_w (q_g (rfl)))))))))))))))))))
set_option maxRecDepth 20000 in
theorem e_X2_isSmall_16 (x0 : Nat) (s0 : Int32) (s1 : Value) (M : me_M) : sm T_X2_isSmall (16, [(0, .ref x0)], [.int s0, s1], M, 0, 0) = (v_ref s1).bind fun a1 => (me_obj M 5 a1).bind fun _ => (f_X5_fitsLong [.ref a1, .int s0] M).bind fun r2 => r2.1.bind fun v3 => (v_int v3).bind fun y4 => if y4 = 0 then (if (0 : Int32) = 0 ∨ (0 : Int32) = 1 then (if 0 ≤ 0 ∧ 0 ≤ 0 then some (some (.int (0 : Int32)), r2.2) else none) else none) else (me_obj r2.2 2 x0).bind fun f5 => (f5[2]?).bind fun w6 => (v_ref w6).bind fun a7 => (me_obj r2.2 5 a7).bind fun _ => (f_X5_fitsLong [.ref a7, .int (0 : Int32)] r2.2).bind fun r8 => r8.1.bind fun v9 => (v_int v9).bind fun y10 => if y10 = 0 then (if (0 : Int32) = 0 ∨ (0 : Int32) = 1 then (if 0 ≤ 0 ∧ 0 ≤ 0 then some (some (.int (0 : Int32)), r8.2) else none) else none) else if (1 : Int32) = 0 ∨ (1 : Int32) = 1 then (if 0 ≤ 0 ∧ 0 ≤ 0 then some (some (.int (1 : Int32)), r8.2) else none) else none := (by have hF := sm_fx A_X2_isSmall; generalize sm T_X2_isSmall = F_ at hF ⊢; exact (sm_h hF (f := i_cv 5 2 1 f_X5_fitsLong 0 0 0 0 19) rfl).trans (q_cv rfl rfl rfl (ob fun a1 => ob fun _ => ob fun r2 => cT rfl (q_r1 (ob fun v3 => ob fun y4 => (sm_h hF (f := i_z (fun x => x = 0) 37 22) rfl).trans (q_z (vi (ic ((sm_h hF (f := i_c (.int (0)) 38) rfl).trans (q_c ((sm_h hF (f := i_rz 0 0) rfl).trans (q_rz (vi (rfl)))))) ((sm_h hF (f := i_al 0 23) rfl).trans (q_al rfl ((sm_h hF (f := i_gf 2 2 26) rfl).trans (q_gf (vr (ob fun f5 => ob fun w6 => (sm_h hF (f := i_c (.int (0)) 27) rfl).trans (q_c ((sm_h hF (f := i_cv 5 2 1 f_X5_fitsLong 0 0 0 0 30) rfl).trans (q_cv rfl rfl rfl (ob fun a7 => ob fun _ => ob fun r8 => cT rfl (q_r1 (ob fun v9 => ob fun y10 => (sm_h hF (f := i_z (fun x => x = 0) 37 33) rfl).trans (q_z (vi (ic ((sm_h hF (f := i_c (.int (0)) 38) rfl).trans (q_c ((sm_h hF (f := i_rz 0 0) rfl).trans (q_rz (vi (rfl)))))) ((sm_h hF (f := i_c (.int (1)) 34) rfl).trans (q_c ((sm_h hF (f := i_g 38) rfl).trans (q_g ((sm_h hF (f := i_rz 0 0) rfl).trans (q_rz (vi (rfl)))))))))))))))))))))))))))))))
/-! X2_greaterLength -/
abbrev rm_X2_greaterLength : Room := { frames := 2, cells := 0, slots := 0, locals := 41 }
noncomputable def T_X2_greaterLength : sm_T := [(0, i_al 0 1), (1, i_gf 2 1 4), (4, i_cv 5 1 1 f_X5_length 0 0 0 0 7), (7, i_al 0 8), (8, i_gf 2 2 11), (11, i_cv 5 1 1 f_X5_length 0 0 0 0 14), (14, i_mx 17 0 0), (17, i_ri 0 0)]
set_option maxRecDepth 20000 in
theorem A_X2_greaterLength : sd_A yX2_greaterLength cX2_greaterLength 1 (some .int) rm_X2_greaterLength T_X2_greaterLength := by
  refine sd_c (pc := 0) (f := i_al 0 1) (s_aln (i := 0) dX2_greaterLength_0) ?_
  refine sd_c (pc := 1) (f := i_gf 2 1 4) (s_gf (ci := 2) (k := 1) dX2_greaterLength_1 rfl in_X2 (by decide) w104) ?_
  refine sd_c (pc := 4) (f := i_cv 5 1 1 f_X5_length 0 0 0 0 7) (s_cv (np := 0) (rk := 1) (ci := 5) (rmz := rm_X5_length) dX2_greaterLength_4 V_X5_length w372 w340 w341 rfl (by decide)) ?_
  refine sd_c (pc := 7) (f := i_al 0 8) (s_aln (i := 0) dX2_greaterLength_7) ?_
  refine sd_c (pc := 8) (f := i_gf 2 2 11) (s_gf (ci := 2) (k := 2) dX2_greaterLength_8 rfl in_X2 (by decide) w107) ?_
  refine sd_c (pc := 11) (f := i_cv 5 1 1 f_X5_length 0 0 0 0 14) (s_cv (np := 0) (rk := 1) (ci := 5) (rmz := rm_X5_length) dX2_greaterLength_11 V_X5_length w372 w340 w341 rfl (by decide)) ?_
  refine sd_c (pc := 14) (f := i_mx 17 0 0) (s_mx dX2_greaterLength_14 w373 w47 w5 w48 (by decide)) ?_
  refine sd_c (pc := 17) (f := i_ri 0 0) (s_ri dX2_greaterLength_17 rfl) ?_
  exact sd_n
noncomputable def f_X2_greaterLength : List Value → me_M → Option sm_R := sd_f 1 T_X2_greaterLength
theorem V_X2_greaterLength : sd_V yX2_greaterLength cX2_greaterLength 1 (some .int) rm_X2_greaterLength 0 f_X2_greaterLength := ⟨sd_met A_X2_greaterLength (by decide +kernel), w371, w6, by decide +kernel⟩
set_option maxRecDepth 20000 in
theorem e_X2_greaterLength (x0 : Nat) (M : me_M) : f_X2_greaterLength [.ref x0] M = (me_obj M 2 x0).bind fun f1 => (f1[1]?).bind fun w2 => (v_ref w2).bind fun a3 => (me_obj M 5 a3).bind fun _ => (f_X5_length [.ref a3] M).bind fun r4 => r4.1.bind fun v5 => (v_int v5).bind fun y6 => (me_obj r4.2 2 x0).bind fun f7 => (f7[2]?).bind fun w8 => (v_ref w8).bind fun a9 => (me_obj r4.2 5 a9).bind fun _ => (f_X5_length [.ref a9] r4.2).bind fun r10 => r10.1.bind fun v11 => (v_int v11).bind fun y12 => if 0 ≤ 0 ∧ 0 ≤ 0 then some (some (.int (if y6 < y12 then y12 else y6)), r10.2) else none := (show f_X2_greaterLength [.ref x0] M = sm T_X2_greaterLength (0, [(0, .ref x0)], [], M, 0, 0) from rfl).trans (by have hF := sm_fx A_X2_greaterLength; generalize sm T_X2_greaterLength = F_ at hF ⊢; exact (sm_h hF (f := i_al 0 1) rfl).trans (q_al rfl ((sm_h hF (f := i_gf 2 1 4) rfl).trans (q_gf (vr (ob fun f1 => ob fun w2 => (sm_h hF (f := i_cv 5 1 1 f_X5_length 0 0 0 0 7) rfl).trans (q_cv rfl rfl rfl (ob fun a3 => ob fun _ => ob fun r4 => cT rfl (q_r1 (ob fun v5 => ob fun y6 => (sm_h hF (f := i_al 0 8) rfl).trans (q_al rfl ((sm_h hF (f := i_gf 2 2 11) rfl).trans (q_gf (vr (ob fun f7 => ob fun w8 => (sm_h hF (f := i_cv 5 1 1 f_X5_length 0 0 0 0 14) rfl).trans (q_cv rfl rfl rfl (ob fun a9 => ob fun _ => ob fun r10 => cT rfl (q_r1 (ob fun v11 => ob fun y12 => (sm_h hF (f := i_mx 17 0 0) rfl).trans (q_mx (cT rfl (vi (vi ((sm_h hF (f := i_ri 0 0) rfl).trans (q_ri (vi (rfl)))))))))))))))))))))))))))
/-! X2_isSame -/
abbrev rm_X2_isSame : Room := { frames := 1, cells := 0, slots := 0, locals := 22 }
noncomputable def T_X2_isSame : sm_T := [(0, i_al 0 1), (1, i_gf 2 0 4), (4, i_al 1 5), (5, i_gf 2 0 8), (8, i_zz (fun x z => x = z) 11 43), (11, i_al 0 12), (12, i_gf 2 1 15), (15, i_al 1 16), (16, i_gf 2 1 19), (19, i_cv 5 2 1 f_X5_compareWith 0 0 0 0 22), (22, i_z (fun x => x = 0) 25 43), (25, i_al 0 26), (26, i_gf 2 2 29), (29, i_al 1 30), (30, i_gf 2 2 33), (33, i_cv 5 2 1 f_X5_compareWith 0 0 0 0 36), (36, i_z (fun x => x = 0) 39 43), (39, i_c (.int (1)) 40), (40, i_g 44), (43, i_c (.int (0)) 44), (44, i_rz 0 0)]
set_option maxRecDepth 20000 in
theorem A_X2_isSame : sd_A yX2_isSame cX2_isSame 2 (some .boolean) rm_X2_isSame T_X2_isSame := by
  refine sd_c (pc := 0) (f := i_al 0 1) (s_aln (i := 0) dX2_isSame_0) ?_
  refine sd_c (pc := 1) (f := i_gf 2 0 4) (s_gf (ci := 2) (k := 0) dX2_isSame_1 rfl in_X2 (by decide) w100) ?_
  refine sd_c (pc := 4) (f := i_al 1 5) (s_aln (i := 1) dX2_isSame_4) ?_
  refine sd_c (pc := 5) (f := i_gf 2 0 8) (s_gf (ci := 2) (k := 0) dX2_isSame_5 rfl in_X2 (by decide) w100) ?_
  refine sd_c (pc := 8) (f := i_zz (fun x z => x = z) 11 43) (s_ic_ne (tgt := 43) dX2_isSame_8 (by decide)) ?_
  refine sd_c (pc := 11) (f := i_al 0 12) (s_aln (i := 0) dX2_isSame_11) ?_
  refine sd_c (pc := 12) (f := i_gf 2 1 15) (s_gf (ci := 2) (k := 1) dX2_isSame_12 rfl in_X2 (by decide) w104) ?_
  refine sd_c (pc := 15) (f := i_al 1 16) (s_aln (i := 1) dX2_isSame_15) ?_
  refine sd_c (pc := 16) (f := i_gf 2 1 19) (s_gf (ci := 2) (k := 1) dX2_isSame_16 rfl in_X2 (by decide) w104) ?_
  refine sd_c (pc := 19) (f := i_cv 5 2 1 f_X5_compareWith 0 0 0 0 22) (s_cv (np := 1) (rk := 1) (ci := 5) (rmz := rm_X5_compareWith) dX2_isSame_19 V_X5_compareWith w517 w239 w240 rfl (by decide)) ?_
  refine sd_c (pc := 22) (f := i_z (fun x => x = 0) 25 43) (s_if_ne (tgt := 43) dX2_isSame_22 (by decide)) ?_
  refine sd_c (pc := 25) (f := i_al 0 26) (s_aln (i := 0) dX2_isSame_25) ?_
  refine sd_c (pc := 26) (f := i_gf 2 2 29) (s_gf (ci := 2) (k := 2) dX2_isSame_26 rfl in_X2 (by decide) w107) ?_
  refine sd_c (pc := 29) (f := i_al 1 30) (s_aln (i := 1) dX2_isSame_29) ?_
  refine sd_c (pc := 30) (f := i_gf 2 2 33) (s_gf (ci := 2) (k := 2) dX2_isSame_30 rfl in_X2 (by decide) w107) ?_
  refine sd_c (pc := 33) (f := i_cv 5 2 1 f_X5_compareWith 0 0 0 0 36) (s_cv (np := 1) (rk := 1) (ci := 5) (rmz := rm_X5_compareWith) dX2_isSame_33 V_X5_compareWith w517 w239 w240 rfl (by decide)) ?_
  refine sd_c (pc := 36) (f := i_z (fun x => x = 0) 39 43) (s_if_ne (tgt := 43) dX2_isSame_36 (by decide)) ?_
  refine sd_c (pc := 39) (f := i_c (.int (1)) 40) (s_iconst dX2_isSame_39 (by decide)) ?_
  refine sd_c (pc := 40) (f := i_g 44) (s_goto (tgt := 44) dX2_isSame_40 (by decide)) ?_
  refine sd_c (pc := 43) (f := i_c (.int (0)) 44) (s_iconst dX2_isSame_43 (by decide)) ?_
  refine sd_c (pc := 44) (f := i_rz 0 0) (s_rz dX2_isSame_44 rfl) ?_
  exact sd_n
noncomputable def f_X2_isSame : List Value → me_M → Option sm_R := sd_f 2 T_X2_isSame
theorem V_X2_isSame : sd_V yX2_isSame cX2_isSame 2 (some .boolean) rm_X2_isSame 1 f_X2_isSame := ⟨sd_met A_X2_isSame (by decide +kernel), w516, w6, by decide +kernel⟩
set_option maxRecDepth 20000 in
theorem e_X2_isSame (x0 : Nat) (x1 : Nat) (M : me_M) : f_X2_isSame [.ref x0, .ref x1] M = (me_obj M 2 x0).bind fun f1 => (f1[0]?).bind fun w2 => (me_obj M 2 x1).bind fun f3 => (f3[0]?).bind fun w4 => (v_int w2).bind fun y5 => (v_int w4).bind fun y6 => if y5 = y6 then ((me_obj M 2 x0).bind fun f7 => (f7[1]?).bind fun w8 => (me_obj M 2 x1).bind fun f9 => (f9[1]?).bind fun w10 => (v_ref w8).bind fun a11 => (me_obj M 5 a11).bind fun _ => (f_X5_compareWith [.ref a11, w10] M).bind fun r12 => r12.1.bind fun v13 => (v_int v13).bind fun y14 => if y14 = 0 then ((me_obj r12.2 2 x0).bind fun f15 => (f15[2]?).bind fun w16 => (me_obj r12.2 2 x1).bind fun f17 => (f17[2]?).bind fun w18 => (v_ref w16).bind fun a19 => (me_obj r12.2 5 a19).bind fun _ => (f_X5_compareWith [.ref a19, w18] r12.2).bind fun r20 => r20.1.bind fun v21 => (v_int v21).bind fun y22 => if y22 = 0 then (if (1 : Int32) = 0 ∨ (1 : Int32) = 1 then (if 0 ≤ 0 ∧ 0 ≤ 0 then some (some (.int (1 : Int32)), r20.2) else none) else none) else if (0 : Int32) = 0 ∨ (0 : Int32) = 1 then (if 0 ≤ 0 ∧ 0 ≤ 0 then some (some (.int (0 : Int32)), r20.2) else none) else none) else if (0 : Int32) = 0 ∨ (0 : Int32) = 1 then (if 0 ≤ 0 ∧ 0 ≤ 0 then some (some (.int (0 : Int32)), r12.2) else none) else none) else if (0 : Int32) = 0 ∨ (0 : Int32) = 1 then (if 0 ≤ 0 ∧ 0 ≤ 0 then some (some (.int (0 : Int32)), M) else none) else none := (show f_X2_isSame [.ref x0, .ref x1] M = sm T_X2_isSame (0, [(0, .ref x0), (1, .ref x1)], [], M, 0, 0) from rfl).trans (by have hF := sm_fx A_X2_isSame; generalize sm T_X2_isSame = F_ at hF ⊢; exact (sm_h hF (f := i_al 0 1) rfl).trans (q_al rfl ((sm_h hF (f := i_gf 2 0 4) rfl).trans (q_gf (vr (ob fun f1 => ob fun w2 => (sm_h hF (f := i_al 1 5) rfl).trans (q_al rfl ((sm_h hF (f := i_gf 2 0 8) rfl).trans (q_gf (vr (ob fun f3 => ob fun w4 => (sm_h hF (f := i_zz (fun x z => x = z) 11 43) rfl).trans (q_zz (ob fun y5 => ob fun y6 => ic ((sm_h hF (f := i_al 0 12) rfl).trans (q_al rfl ((sm_h hF (f := i_gf 2 1 15) rfl).trans (q_gf (vr (ob fun f7 => ob fun w8 => (sm_h hF (f := i_al 1 16) rfl).trans (q_al rfl ((sm_h hF (f := i_gf 2 1 19) rfl).trans (q_gf (vr (ob fun f9 => ob fun w10 => (sm_h hF (f := i_cv 5 2 1 f_X5_compareWith 0 0 0 0 22) rfl).trans (q_cv rfl rfl rfl (ob fun a11 => ob fun _ => ob fun r12 => cT rfl (q_r1 (ob fun v13 => ob fun y14 => (sm_h hF (f := i_z (fun x => x = 0) 25 43) rfl).trans (q_z (vi (ic ((sm_h hF (f := i_al 0 26) rfl).trans (q_al rfl ((sm_h hF (f := i_gf 2 2 29) rfl).trans (q_gf (vr (ob fun f15 => ob fun w16 => (sm_h hF (f := i_al 1 30) rfl).trans (q_al rfl ((sm_h hF (f := i_gf 2 2 33) rfl).trans (q_gf (vr (ob fun f17 => ob fun w18 => (sm_h hF (f := i_cv 5 2 1 f_X5_compareWith 0 0 0 0 36) rfl).trans (q_cv rfl rfl rfl (ob fun a19 => ob fun _ => ob fun r20 => cT rfl (q_r1 (ob fun v21 => ob fun y22 => (sm_h hF (f := i_z (fun x => x = 0) 39 43) rfl).trans (q_z (vi (ic ((sm_h hF (f := i_c (.int (1)) 40) rfl).trans (q_c ((sm_h hF (f := i_g 44) rfl).trans (q_g ((sm_h hF (f := i_rz 0 0) rfl).trans (q_rz (vi (rfl)))))))) ((sm_h hF (f := i_c (.int (0)) 44) rfl).trans (q_c ((sm_h hF (f := i_rz 0 0) rfl).trans (q_rz (vi (rfl)))))))))))))))))))))))) ((sm_h hF (f := i_c (.int (0)) 44) rfl).trans (q_c ((sm_h hF (f := i_rz 0 0) rfl).trans (q_rz (vi (rfl)))))))))))))))))))))))) ((sm_h hF (f := i_c (.int (0)) 44) rfl).trans (q_c ((sm_h hF (f := i_rz 0 0) rfl).trans (q_rz (vi (rfl)))))))))))))))))))
/-! X4_init -/
abbrev rm_X4_init : Room := { frames := 1, cells := 1, slots := 10, locals := 24 }
noncomputable def T_X4_init : sm_T := [(0, i_al 0 1), (1, i_oi 4), (4, i_al 0 5), (5, i_il 1 6), (6, i_c (.int (0)) 7), (7, i_mx 10 1 10), (10, i_nr 3 1 10 13), (13, i_pr 4 0 16), (16, i_c (.int (0)) 17), (17, i_w [(18, [0, 2, 3])] (i_is 3 18)), (18, i_il 3 19), (19, i_al 0 20), (20, i_gf 4 0 23), (23, i_len 24), (24, i_zz (fun x z => z ≤ x) 40 27), (27, i_al 0 28), (28, i_gf 4 0 31), (31, i_il 3 32), (32, i_al 2 33), (33, i_ast 3 2 34), (34, i_inc 3 (1) 37), (37, i_w [(18, [0, 2, 3])] (i_g 18)), (40, i_rv 1 10)]
set_option maxRecDepth 20000 in
theorem A_X4_init : sd_A yX4_init cX4_init 4 none rm_X4_init T_X4_init := by
  refine sd_c (pc := 0) (f := i_al 0 1) (s_aln (i := 0) dX4_init_0) ?_
  refine sd_c (pc := 1) (f := i_oi 4) (s_oi dX4_init_1 w441 w26 w27 (by decide)) ?_
  refine sd_c (pc := 4) (f := i_al 0 5) (s_aln (i := 0) dX4_init_4) ?_
  refine sd_c (pc := 5) (f := i_il 1 6) (s_iln (i := 1) dX4_init_5) ?_
  refine sd_c (pc := 6) (f := i_c (.int (0)) 7) (s_iconst dX4_init_6 (by decide)) ?_
  refine sd_c (pc := 7) (f := i_mx 10 1 10) (s_mx dX4_init_7 w442 w47 w5 w48 (by decide)) ?_
  refine sd_c (pc := 10) (f := i_nr 3 1 10 13) (s_nr (kd := 3) dX4_init_10 (by decide) w443 (fun _ _ h => me_of2 h) (fun _ => rfl)) ?_
  refine sd_c (pc := 13) (f := i_pr 4 0 16) (s_pr (ci := 4) (k := 0) dX4_init_13 rfl in_X4 tyX4_ok nmX4 (by decide) w444 (Or.inr ⟨rfl, rfl, rfl⟩) (Or.inr ⟨_, rfl⟩)) ?_
  refine sd_c (pc := 16) (f := i_c (.int (0)) 17) (s_iconst dX4_init_16 (by decide)) ?_
  refine sd_c (pc := 17) (f := i_w [(18, [0, 2, 3])] (i_is 3 18)) (s_w (s_isn (i := 3) dX4_init_17 (by decide))) ?_
  refine sd_c (pc := 18) (f := i_il 3 19) (s_iln (i := 3) dX4_init_18) ?_
  refine sd_c (pc := 19) (f := i_al 0 20) (s_aln (i := 0) dX4_init_19) ?_
  refine sd_c (pc := 20) (f := i_gf 4 0 23) (s_gf (ci := 4) (k := 0) dX4_init_20 rfl in_X4 (by decide) w444) ?_
  refine sd_c (pc := 23) (f := i_len 24) (s_len dX4_init_23) ?_
  refine sd_c (pc := 24) (f := i_zz (fun x z => z ≤ x) 40 27) (s_ic_ge (tgt := 40) dX4_init_24 (by decide)) ?_
  refine sd_c (pc := 27) (f := i_al 0 28) (s_aln (i := 0) dX4_init_27) ?_
  refine sd_c (pc := 28) (f := i_gf 4 0 31) (s_gf (ci := 4) (k := 0) dX4_init_28 rfl in_X4 (by decide) w444) ?_
  refine sd_c (pc := 31) (f := i_il 3 32) (s_iln (i := 3) dX4_init_31) ?_
  refine sd_c (pc := 32) (f := i_al 2 33) (s_aln (i := 2) dX4_init_32) ?_
  refine sd_c (pc := 33) (f := i_ast 3 2 34) (s_ast (kd := 3) (ci := 2) dX4_init_33 rfl (fun _ => rfl)) ?_
  refine sd_c (pc := 34) (f := i_inc 3 (1) 37) (s_inc dX4_init_34 (by decide) (by decide)) ?_
  refine sd_c (pc := 37) (f := i_w [(18, [0, 2, 3])] (i_g 18)) (s_w (s_goto (tgt := 18) dX4_init_37 (by decide))) ?_
  refine sd_c (pc := 40) (f := i_rv 1 10) (s_rv dX4_init_40 rfl) ?_
  exact sd_n
noncomputable def f_X4_init : List Value → me_M → Option sm_R := sd_f 4 T_X4_init
theorem V_X4_init : sd_V yX4_init cX4_init 4 none rm_X4_init 2 f_X4_init := ⟨sd_met A_X4_init (by decide +kernel), w440, w19, by decide +kernel⟩
set_option maxRecDepth 20000 in
theorem e_X4_init (x0 : Nat) (x1 : Int32) (x2 : Nat) (M : me_M) : f_X4_init [.ref x0, .int x1, .ref x2] M = if (if x1 < (0 : Int32) then (0 : Int32) else x1) < 0 then (none) else cond (Nat.ble 1 1 && Nat.ble (0 + (if x1 < (0 : Int32) then (0 : Int32) else x1).toNatClampNeg) 10) ((me_obj (me_new M (.inl (3, (if x1 < (0 : Int32) then (0 : Int32) else x1).toNatClampNeg, .inr (.inr (.inr (.inr (fun _ => none))))))) 4 x0).bind fun f1 => if 0 < f1.length then (sm T_X4_init (18, [(0, .ref x0), (2, .ref x2), (3, .int (0 : Int32))], [], (me_set (me_new M (.inl (3, (if x1 < (0 : Int32) then (0 : Int32) else x1).toNatClampNeg, .inr (.inr (.inr (.inr (fun _ => none))))))) x0 (.inr (4, f1.set 0 (.ref M.1)))), 1, (0 + (if x1 < (0 : Int32) then (0 : Int32) else x1).toNatClampNeg))) else none) none := (show f_X4_init [.ref x0, .int x1, .ref x2] M = sm T_X4_init (0, [(0, .ref x0), (1, .int x1), (2, .ref x2)], [], M, 0, 0) from rfl).trans (by have hF := sm_fx A_X4_init; generalize sm T_X4_init = F_ at hF ⊢; exact (sm_h hF (f := i_al 0 1) rfl).trans (q_al rfl ((sm_h hF (f := i_oi 4) rfl).trans (q_oi rfl (vr ((sm_h hF (f := i_al 0 5) rfl).trans (q_al rfl ((sm_h hF (f := i_il 1 6) rfl).trans (q_il rfl ((sm_h hF (f := i_c (.int (0)) 7) rfl).trans (q_c ((sm_h hF (f := i_mx 10 1 10) rfl).trans (q_mx (cT rfl (vi (vi ((sm_h hF (f := i_nr 3 1 10 13) rfl).trans (q_nr (vi (ic (rfl) (cg ((sm_h hF (f := i_pr 4 0 16) rfl).trans (q_pr (vn (vr (ob fun f1 => ic ((sm_h hF (f := i_c (.int (0)) 17) rfl).trans (q_c ((sm_h hF (f := i_w [(18, [0, 2, 3])] (i_is 3 18)) rfl).trans (q_w (q_is (fun x_ => [(0, .ref x0), (1, .int x1), (2, .ref x2), (3, .int x_)]) (fun _ => rfl) (vi (rfl))))))) (rfl)))))) rfl)))))))))))))))))))))
set_option maxRecDepth 20000 in
theorem e_X4_init_18 (x0 : Nat) (x2 : Nat) (x3 : Int32) (M : me_M) (c n : Nat) : sm T_X4_init (18, [(0, .ref x0), (2, .ref x2), (3, .int x3)], [], M, c, n) = (me_obj M 4 x0).bind fun f1 => (f1[0]?).bind fun w2 => (v_ref w2).bind fun a3 => (me_len M a3).bind fun z4 => if (Int32.ofNat z4) ≤ x3 then (if c ≤ 1 ∧ n ≤ 10 then some (none, M) else none) else (me_obj M 4 x0).bind fun f5 => (f5[0]?).bind fun w6 => (v_ref w6).bind fun a7 => (me_ref M 3 a7).bind fun f8 => if x3 < 0 ∨ f8.1 ≤ x3.toNatClampNeg then (none) else cond (i_okx M 2 (some x2)) (sm T_X4_init (18, [(0, .ref x0), (2, .ref x2), (3, .int (x3 + (1)))], [], (me_set M a7 (.inl (3, f8.1, .inr (.inr (.inr (.inr (va_up f8.2 x3.toNatClampNeg (some x2)))))))), c, n)) none := (by have hF := sm_fx A_X4_init; generalize sm T_X4_init = F_ at hF ⊢; exact (sm_h hF (f := i_il 3 19) rfl).trans (q_il rfl ((sm_h hF (f := i_al 0 20) rfl).trans (q_al rfl ((sm_h hF (f := i_gf 4 0 23) rfl).trans (q_gf (vr (ob fun f1 => ob fun w2 => (sm_h hF (f := i_len 24) rfl).trans (q_len (ob fun a3 => ob fun z4 => (sm_h hF (f := i_zz (fun x z => z ≤ x) 40 27) rfl).trans (q_zz (vi (vi (ic ((sm_h hF (f := i_rv 1 10) rfl).trans (q_rv (rfl))) ((sm_h hF (f := i_al 0 28) rfl).trans (q_al rfl ((sm_h hF (f := i_gf 4 0 31) rfl).trans (q_gf (vr (ob fun f5 => ob fun w6 => (sm_h hF (f := i_il 3 32) rfl).trans (q_il rfl ((sm_h hF (f := i_al 2 33) rfl).trans (q_al rfl ((sm_h hF (f := i_ast 3 2 34) rfl).trans (q_ast (vi (ob fun a7 => ob fun f8 => ic (rfl) (vn (cg ((sm_h hF (f := i_inc 3 (1) 37) rfl).trans (q_inc ([(0, .ref x0), (2, .ref x2), (3, .int (x3 + (1)))]) rfl rfl ((sm_h hF (f := i_w [(18, [0, 2, 3])] (i_g 18)) rfl).trans (q_w (q_g (rfl)))))) rfl)))))))))))))))))))))))))))))
/-! X4_firstNotZero -/
abbrev rm_X4_firstNotZero : Room := { frames := 0, cells := 0, slots := 0, locals := 0 }
noncomputable def T_X4_firstNotZero : sm_T := [(0, i_c (.int (0)) 1), (1, i_w [(2, [0, 1])] (i_is 1 2)), (2, i_il 1 3), (3, i_al 0 4), (4, i_gf 4 0 7), (7, i_len 8), (8, i_zz (fun x z => z ≤ x) 31 11), (11, i_al 0 12), (12, i_gf 4 0 15), (15, i_il 1 16), (16, i_aa 3 17), (17, i_gf 2 0 20), (20, i_z (fun x => x = 0) 25 23), (23, i_il 1 24), (24, i_ri 0 0), (25, i_inc 1 (1) 28), (28, i_w [(2, [0, 1])] (i_g 2)), (31, i_c (.int (-1)) 32), (32, i_ri 0 0)]
set_option maxRecDepth 20000 in
theorem A_X4_firstNotZero : sd_A yX4_firstNotZero cX4_firstNotZero 2 (some .int) rm_X4_firstNotZero T_X4_firstNotZero := by
  refine sd_c (pc := 0) (f := i_c (.int (0)) 1) (s_iconst dX4_firstNotZero_0 (by decide)) ?_
  refine sd_c (pc := 1) (f := i_w [(2, [0, 1])] (i_is 1 2)) (s_w (s_isn (i := 1) dX4_firstNotZero_1 (by decide))) ?_
  refine sd_c (pc := 2) (f := i_il 1 3) (s_iln (i := 1) dX4_firstNotZero_2) ?_
  refine sd_c (pc := 3) (f := i_al 0 4) (s_aln (i := 0) dX4_firstNotZero_3) ?_
  refine sd_c (pc := 4) (f := i_gf 4 0 7) (s_gf (ci := 4) (k := 0) dX4_firstNotZero_4 rfl in_X4 (by decide) w444) ?_
  refine sd_c (pc := 7) (f := i_len 8) (s_len dX4_firstNotZero_7) ?_
  refine sd_c (pc := 8) (f := i_zz (fun x z => z ≤ x) 31 11) (s_ic_ge (tgt := 31) dX4_firstNotZero_8 (by decide)) ?_
  refine sd_c (pc := 11) (f := i_al 0 12) (s_aln (i := 0) dX4_firstNotZero_11) ?_
  refine sd_c (pc := 12) (f := i_gf 4 0 15) (s_gf (ci := 4) (k := 0) dX4_firstNotZero_12 rfl in_X4 (by decide) w444) ?_
  refine sd_c (pc := 15) (f := i_il 1 16) (s_iln (i := 1) dX4_firstNotZero_15) ?_
  refine sd_c (pc := 16) (f := i_aa 3 17) (s_aald (kd := 3) dX4_firstNotZero_16 (Or.inl rfl)) ?_
  refine sd_c (pc := 17) (f := i_gf 2 0 20) (s_gf (ci := 2) (k := 0) dX4_firstNotZero_17 rfl in_X2 (by decide) w101) ?_
  refine sd_c (pc := 20) (f := i_z (fun x => x = 0) 25 23) (s_if_eq (tgt := 25) dX4_firstNotZero_20 (by decide)) ?_
  refine sd_c (pc := 23) (f := i_il 1 24) (s_iln (i := 1) dX4_firstNotZero_23) ?_
  refine sd_c (pc := 24) (f := i_ri 0 0) (s_ri dX4_firstNotZero_24 rfl) ?_
  refine sd_c (pc := 25) (f := i_inc 1 (1) 28) (s_inc dX4_firstNotZero_25 (by decide) (by decide)) ?_
  refine sd_c (pc := 28) (f := i_w [(2, [0, 1])] (i_g 2)) (s_w (s_goto (tgt := 2) dX4_firstNotZero_28 (by decide))) ?_
  refine sd_c (pc := 31) (f := i_c (.int (-1)) 32) (s_iconst dX4_firstNotZero_31 (by decide)) ?_
  refine sd_c (pc := 32) (f := i_ri 0 0) (s_ri dX4_firstNotZero_32 rfl) ?_
  exact sd_n
noncomputable def f_X4_firstNotZero : List Value → me_M → Option sm_R := sd_f 2 T_X4_firstNotZero
theorem V_X4_firstNotZero : sd_V yX4_firstNotZero cX4_firstNotZero 2 (some .int) rm_X4_firstNotZero 0 f_X4_firstNotZero := ⟨sd_met A_X4_firstNotZero (by decide +kernel), w504, w19, by decide +kernel⟩
set_option maxRecDepth 20000 in
theorem e_X4_firstNotZero (x0 : Nat) (M : me_M) : f_X4_firstNotZero [.ref x0] M = sm T_X4_firstNotZero (2, [(0, .ref x0), (1, .int (0 : Int32))], [], M, 0, 0) := (show f_X4_firstNotZero [.ref x0] M = sm T_X4_firstNotZero (0, [(0, .ref x0)], [], M, 0, 0) from rfl).trans (by have hF := sm_fx A_X4_firstNotZero; generalize sm T_X4_firstNotZero = F_ at hF ⊢; exact (sm_h hF (f := i_c (.int (0)) 1) rfl).trans (q_c ((sm_h hF (f := i_w [(2, [0, 1])] (i_is 1 2)) rfl).trans (q_w (q_is (fun x_ => [(0, .ref x0), (1, .int x_)]) (fun _ => rfl) (vi (rfl)))))))
set_option maxRecDepth 20000 in
theorem e_X4_firstNotZero_2 (x0 : Nat) (x1 : Int32) (M : me_M) : sm T_X4_firstNotZero (2, [(0, .ref x0), (1, .int x1)], [], M, 0, 0) = (me_obj M 4 x0).bind fun f1 => (f1[0]?).bind fun w2 => (v_ref w2).bind fun a3 => (me_len M a3).bind fun z4 => if (Int32.ofNat z4) ≤ x1 then (if 0 ≤ 0 ∧ 0 ≤ 0 then some (some (.int (-1 : Int32)), M) else none) else (me_obj M 4 x0).bind fun f5 => (f5[0]?).bind fun w6 => (v_ref w6).bind fun a7 => (me_ref M 3 a7).bind fun f8 => if x1 < 0 ∨ f8.1 ≤ x1.toNatClampNeg then (none) else (v_ref (va_rf (f8.2 x1.toNatClampNeg))).bind fun a9 => (me_obj M 2 a9).bind fun f10 => (f10[0]?).bind fun w11 => (v_int w11).bind fun y12 => if y12 = 0 then (sm T_X4_firstNotZero (2, [(0, .ref x0), (1, .int (x1 + (1)))], [], M, 0, 0)) else if 0 ≤ 0 ∧ 0 ≤ 0 then some (some (.int x1), M) else none := (by have hF := sm_fx A_X4_firstNotZero; generalize sm T_X4_firstNotZero = F_ at hF ⊢; exact (sm_h hF (f := i_il 1 3) rfl).trans (q_il rfl ((sm_h hF (f := i_al 0 4) rfl).trans (q_al rfl ((sm_h hF (f := i_gf 4 0 7) rfl).trans (q_gf (vr (ob fun f1 => ob fun w2 => (sm_h hF (f := i_len 8) rfl).trans (q_len (ob fun a3 => ob fun z4 => (sm_h hF (f := i_zz (fun x z => z ≤ x) 31 11) rfl).trans (q_zz (vi (vi (ic ((sm_h hF (f := i_c (.int (-1)) 32) rfl).trans (q_c ((sm_h hF (f := i_ri 0 0) rfl).trans (q_ri (vi (rfl)))))) ((sm_h hF (f := i_al 0 12) rfl).trans (q_al rfl ((sm_h hF (f := i_gf 4 0 15) rfl).trans (q_gf (vr (ob fun f5 => ob fun w6 => (sm_h hF (f := i_il 1 16) rfl).trans (q_il rfl ((sm_h hF (f := i_aa 3 17) rfl).trans (q_aa (vi (ob fun a7 => ob fun f8 => ic (rfl) ((sm_h hF (f := i_gf 2 0 20) rfl).trans (q_gf (ob fun a9 => ob fun f10 => ob fun w11 => (sm_h hF (f := i_z (fun x => x = 0) 25 23) rfl).trans (q_z (ob fun y12 => ic ((sm_h hF (f := i_inc 1 (1) 28) rfl).trans (q_inc ([(0, .ref x0), (1, .int (x1 + (1)))]) rfl rfl ((sm_h hF (f := i_w [(2, [0, 1])] (i_g 2)) rfl).trans (q_w (q_g (rfl)))))) ((sm_h hF (f := i_il 1 24) rfl).trans (q_il rfl ((sm_h hF (f := i_ri 0 0) rfl).trans (q_ri (vi (rfl))))))))))))))))))))))))))))))))))))
