/-! X5_trim -/
abbrev rm_X5_trim : Room := { frames := 0, cells := 0, slots := 0, locals := 0 }
noncomputable def T_X5_trim : sm_T := [(0, i_al 0 1), (1, i_gf 5 1 4), (4, i_z (fun x => x ≤ 0) 34 7), (7, i_al 0 8), (8, i_gf 5 0 11), (11, i_al 0 12), (12, i_gf 5 1 15), (15, i_c (.int (1)) 16), (16, i_bi (fun x z => x - z) 17), (17, i_ia 0 18), (18, i_z (fun x => x = 0) 21 34), (21, i_al 0 22), (22, i_dup 23), (23, i_gf 5 1 26), (26, i_c (.int (1)) 27), (27, i_bi (fun x z => x - z) 28), (28, i_pi 5 1 31), (31, i_w [(0, [0])] (i_g 0)), (34, i_rv 0 0)]
set_option maxRecDepth 20000 in
theorem A_X5_trim : sd_A yX5_trim cX5_trim 1 none rm_X5_trim T_X5_trim := by
  refine sd_c (pc := 0) (f := i_al 0 1) (s_aln (i := 0) dX5_trim_0) ?_
  refine sd_c (pc := 1) (f := i_gf 5 1 4) (s_gf (ci := 5) (k := 1) dX5_trim_1 rfl in_X5 (by decide) w52) ?_
  refine sd_c (pc := 4) (f := i_z (fun x => x ≤ 0) 34 7) (s_if_le (tgt := 34) dX5_trim_4 (by decide)) ?_
  refine sd_c (pc := 7) (f := i_al 0 8) (s_aln (i := 0) dX5_trim_7) ?_
  refine sd_c (pc := 8) (f := i_gf 5 0 11) (s_gf (ci := 5) (k := 0) dX5_trim_8 rfl in_X5 (by decide) w49) ?_
  refine sd_c (pc := 11) (f := i_al 0 12) (s_aln (i := 0) dX5_trim_11) ?_
  refine sd_c (pc := 12) (f := i_gf 5 1 15) (s_gf (ci := 5) (k := 1) dX5_trim_12 rfl in_X5 (by decide) w52) ?_
  refine sd_c (pc := 15) (f := i_c (.int (1)) 16) (s_iconst dX5_trim_15 (by decide)) ?_
  refine sd_c (pc := 16) (f := i_bi (fun x z => x - z) 17) (s_isub dX5_trim_16) ?_
  refine sd_c (pc := 17) (f := i_ia 0 18) (s_iald dX5_trim_17) ?_
  refine sd_c (pc := 18) (f := i_z (fun x => x = 0) 21 34) (s_if_ne (tgt := 34) dX5_trim_18 (by decide)) ?_
  refine sd_c (pc := 21) (f := i_al 0 22) (s_aln (i := 0) dX5_trim_21) ?_
  refine sd_c (pc := 22) (f := i_dup 23) (s_dup dX5_trim_22) ?_
  refine sd_c (pc := 23) (f := i_gf 5 1 26) (s_gf (ci := 5) (k := 1) dX5_trim_23 rfl in_X5 (by decide) w52) ?_
  refine sd_c (pc := 26) (f := i_c (.int (1)) 27) (s_iconst dX5_trim_26 (by decide)) ?_
  refine sd_c (pc := 27) (f := i_bi (fun x z => x - z) 28) (s_isub dX5_trim_27) ?_
  refine sd_c (pc := 28) (f := i_pi 5 1 31) (s_pi (ci := 5) (k := 1) dX5_trim_28 rfl in_X5 tyX5_ok nmX5 (by decide) w52 (Or.inl rfl) rfl) ?_
  refine sd_c (pc := 31) (f := i_w [(0, [0])] (i_g 0)) (s_w (s_goto (tgt := 0) dX5_trim_31 (by decide))) ?_
  refine sd_c (pc := 34) (f := i_rv 0 0) (s_rv dX5_trim_34 rfl) ?_
  exact sd_n
noncomputable def f_X5_trim : List Value → me_M → Option sm_R := sd_f 1 T_X5_trim
theorem V_X5_trim : sd_V yX5_trim cX5_trim 1 none rm_X5_trim 0 f_X5_trim := ⟨sd_met A_X5_trim (by decide +kernel), w93, w4, by decide +kernel⟩
set_option maxRecDepth 20000 in
theorem e_X5_trim (x0 : Nat) (M : me_M) : f_X5_trim [.ref x0] M = (me_obj M 5 x0).bind fun f1 => (f1[1]?).bind fun w2 => (v_int w2).bind fun y3 => if y3 ≤ 0 then (if 0 ≤ 0 ∧ 0 ≤ 0 then some (none, M) else none) else (me_obj M 5 x0).bind fun f4 => (f4[0]?).bind fun w5 => (me_obj M 5 x0).bind fun f6 => (f6[1]?).bind fun w7 => (v_int w7).bind fun y8 => (v_ref w5).bind fun a9 => (me_int M 0 a9).bind fun f10 => if (y8 - (1 : Int32)) < 0 ∨ f10.1 ≤ (y8 - (1 : Int32)).toNatClampNeg then (none) else if (f10.2 (y8 - (1 : Int32)).toNatClampNeg) = 0 then ((me_obj M 5 x0).bind fun f11 => (f11[1]?).bind fun w12 => (v_int w12).bind fun y13 => (me_obj M 5 x0).bind fun f14 => if 1 < f14.length then (sm T_X5_trim (0, [(0, .ref x0)], [], (me_set M x0 (.inr (5, f14.set 1 (.int (y13 - (1 : Int32)))))), 0, 0)) else none) else if 0 ≤ 0 ∧ 0 ≤ 0 then some (none, M) else none := (show f_X5_trim [.ref x0] M = sm T_X5_trim (0, [(0, .ref x0)], [], M, 0, 0) from rfl).trans (by have hF := sm_fx A_X5_trim; generalize sm T_X5_trim = F_ at hF ⊢; exact (sm_h hF (f := i_al 0 1) rfl).trans (q_al rfl ((sm_h hF (f := i_gf 5 1 4) rfl).trans (q_gf (vr (ob fun f1 => ob fun w2 => (sm_h hF (f := i_z (fun x => x ≤ 0) 34 7) rfl).trans (q_z (ob fun y3 => ic ((sm_h hF (f := i_rv 0 0) rfl).trans (q_rv (rfl))) ((sm_h hF (f := i_al 0 8) rfl).trans (q_al rfl ((sm_h hF (f := i_gf 5 0 11) rfl).trans (q_gf (vr (ob fun f4 => ob fun w5 => (sm_h hF (f := i_al 0 12) rfl).trans (q_al rfl ((sm_h hF (f := i_gf 5 1 15) rfl).trans (q_gf (vr (ob fun f6 => ob fun w7 => (sm_h hF (f := i_c (.int (1)) 16) rfl).trans (q_c ((sm_h hF (f := i_bi (fun x z => x - z) 17) rfl).trans (q_bi (ob fun y8 => vi ((sm_h hF (f := i_ia 0 18) rfl).trans (q_ia (vi (ob fun a9 => ob fun f10 => ic (rfl) ((sm_h hF (f := i_z (fun x => x = 0) 21 34) rfl).trans (q_z (vi (ic ((sm_h hF (f := i_al 0 22) rfl).trans (q_al rfl ((sm_h hF (f := i_dup 23) rfl).trans (q_dup (vr ((sm_h hF (f := i_gf 5 1 26) rfl).trans (q_gf (vr (ob fun f11 => ob fun w12 => (sm_h hF (f := i_c (.int (1)) 27) rfl).trans (q_c ((sm_h hF (f := i_bi (fun x z => x - z) 28) rfl).trans (q_bi (ob fun y13 => vi ((sm_h hF (f := i_pi 5 1 31) rfl).trans (q_pi (vi (vr (ob fun f14 => ic ((sm_h hF (f := i_w [(0, [0])] (i_g 0)) rfl).trans (q_w (q_g (rfl)))) (rfl))))))))))))))))))) ((sm_h hF (f := i_rv 0 0) rfl).trans (q_rv (rfl))))))))))))))))))))))))))))))))))
set_option maxRecDepth 20000 in
theorem e_X5_trim_0 (x0 : Nat) (M : me_M) : sm T_X5_trim (0, [(0, .ref x0)], [], M, 0, 0) = (me_obj M 5 x0).bind fun f1 => (f1[1]?).bind fun w2 => (v_int w2).bind fun y3 => if y3 ≤ 0 then (if 0 ≤ 0 ∧ 0 ≤ 0 then some (none, M) else none) else (me_obj M 5 x0).bind fun f4 => (f4[0]?).bind fun w5 => (me_obj M 5 x0).bind fun f6 => (f6[1]?).bind fun w7 => (v_int w7).bind fun y8 => (v_ref w5).bind fun a9 => (me_int M 0 a9).bind fun f10 => if (y8 - (1 : Int32)) < 0 ∨ f10.1 ≤ (y8 - (1 : Int32)).toNatClampNeg then (none) else if (f10.2 (y8 - (1 : Int32)).toNatClampNeg) = 0 then ((me_obj M 5 x0).bind fun f11 => (f11[1]?).bind fun w12 => (v_int w12).bind fun y13 => (me_obj M 5 x0).bind fun f14 => if 1 < f14.length then (sm T_X5_trim (0, [(0, .ref x0)], [], (me_set M x0 (.inr (5, f14.set 1 (.int (y13 - (1 : Int32)))))), 0, 0)) else none) else if 0 ≤ 0 ∧ 0 ≤ 0 then some (none, M) else none := (by have hF := sm_fx A_X5_trim; generalize sm T_X5_trim = F_ at hF ⊢; exact (sm_h hF (f := i_al 0 1) rfl).trans (q_al rfl ((sm_h hF (f := i_gf 5 1 4) rfl).trans (q_gf (vr (ob fun f1 => ob fun w2 => (sm_h hF (f := i_z (fun x => x ≤ 0) 34 7) rfl).trans (q_z (ob fun y3 => ic ((sm_h hF (f := i_rv 0 0) rfl).trans (q_rv (rfl))) ((sm_h hF (f := i_al 0 8) rfl).trans (q_al rfl ((sm_h hF (f := i_gf 5 0 11) rfl).trans (q_gf (vr (ob fun f4 => ob fun w5 => (sm_h hF (f := i_al 0 12) rfl).trans (q_al rfl ((sm_h hF (f := i_gf 5 1 15) rfl).trans (q_gf (vr (ob fun f6 => ob fun w7 => (sm_h hF (f := i_c (.int (1)) 16) rfl).trans (q_c ((sm_h hF (f := i_bi (fun x z => x - z) 17) rfl).trans (q_bi (ob fun y8 => vi ((sm_h hF (f := i_ia 0 18) rfl).trans (q_ia (vi (ob fun a9 => ob fun f10 => ic (rfl) ((sm_h hF (f := i_z (fun x => x = 0) 21 34) rfl).trans (q_z (vi (ic ((sm_h hF (f := i_al 0 22) rfl).trans (q_al rfl ((sm_h hF (f := i_dup 23) rfl).trans (q_dup (vr ((sm_h hF (f := i_gf 5 1 26) rfl).trans (q_gf (vr (ob fun f11 => ob fun w12 => (sm_h hF (f := i_c (.int (1)) 27) rfl).trans (q_c ((sm_h hF (f := i_bi (fun x z => x - z) 28) rfl).trans (q_bi (ob fun y13 => vi ((sm_h hF (f := i_pi 5 1 31) rfl).trans (q_pi (vi (vr (ob fun f14 => ic ((sm_h hF (f := i_w [(0, [0])] (i_g 0)) rfl).trans (q_w (q_g (rfl)))) (rfl))))))))))))))))))) ((sm_h hF (f := i_rv 0 0) rfl).trans (q_rv (rfl))))))))))))))))))))))))))))))))))
/-! X5_shrink -/
abbrev rm_X5_shrink : Room := { frames := 1, cells := 0, slots := 0, locals := 20 }
noncomputable def T_X5_shrink : sm_T := [(0, i_il 1 1), (1, i_z (fun x => 0 < x) 6 4), (4, i_c (.int (0)) 5), (5, i_ri 0 0), (6, i_c (.long (0)) 7), (7, i_ls 2 8), (8, i_al 0 9), (9, i_gf 5 1 12), (12, i_c (.int (1)) 13), (13, i_bi (fun x z => x - z) 14), (14, i_w [(16, [0, 1, 2, 4])] (i_is 4 16)), (16, i_il 4 18), (18, i_z (fun x => x < 0) 58 21), (21, i_ll 2 22), (22, i_c (.int (31)) 24), (24, i_sl (fun x z => x <<< (z.toInt64 &&& 63)) 25), (25, i_al 0 26), (26, i_gf 5 0 29), (29, i_il 4 31), (31, i_ia 0 32), (32, i_u12 (fun x => x.toInt64) 33), (33, i_bl (fun x z => x ||| z) 34), (34, i_ls 2 35), (35, i_al 0 36), (36, i_gf 5 0 39), (39, i_il 4 41), (41, i_ll 2 42), (42, i_il 1 43), (43, i_u12 (fun x => x.toInt64) 44), (44, i_ql (fun x z => x / z) 45), (45, i_u21 (fun x => x.toInt32) 46), (46, i_ist 47), (47, i_ll 2 48), (48, i_il 1 49), (49, i_u12 (fun x => x.toInt64) 50), (50, i_ql (fun x z => x - x / z * z) 51), (51, i_ls 2 52), (52, i_inc 4 (-1) 55), (55, i_w [(16, [0, 1, 2, 4])] (i_g 16)), (58, i_al 0 59), (59, i_cv 5 1 0 f_X5_trim 0 0 0 0 62), (62, i_ll 2 63), (63, i_u21 (fun x => x.toInt32) 64), (64, i_ri 0 0)]
set_option maxRecDepth 20000 in
theorem A_X5_shrink : sd_A yX5_shrink cX5_shrink 5 (some .int) rm_X5_shrink T_X5_shrink := by
  refine sd_c (pc := 0) (f := i_il 1 1) (s_iln (i := 1) dX5_shrink_0) ?_
  refine sd_c (pc := 1) (f := i_z (fun x => 0 < x) 6 4) (s_if_gt (tgt := 6) dX5_shrink_1 (by decide)) ?_
  refine sd_c (pc := 4) (f := i_c (.int (0)) 5) (s_iconst dX5_shrink_4 (by decide)) ?_
  refine sd_c (pc := 5) (f := i_ri 0 0) (s_ri dX5_shrink_5 rfl) ?_
  refine sd_c (pc := 6) (f := i_c (.long (0)) 7) (s_lconst dX5_shrink_6 (by decide)) ?_
  refine sd_c (pc := 7) (f := i_ls 2 8) (s_lsn (i := 2) dX5_shrink_7 (by decide)) ?_
  refine sd_c (pc := 8) (f := i_al 0 9) (s_aln (i := 0) dX5_shrink_8) ?_
  refine sd_c (pc := 9) (f := i_gf 5 1 12) (s_gf (ci := 5) (k := 1) dX5_shrink_9 rfl in_X5 (by decide) w52) ?_
  refine sd_c (pc := 12) (f := i_c (.int (1)) 13) (s_iconst dX5_shrink_12 (by decide)) ?_
  refine sd_c (pc := 13) (f := i_bi (fun x z => x - z) 14) (s_isub dX5_shrink_13) ?_
  refine sd_c (pc := 14) (f := i_w [(16, [0, 1, 2, 4])] (i_is 4 16)) (s_w (s_is (i := 4) dX5_shrink_14 (by decide))) ?_
  refine sd_c (pc := 16) (f := i_il 4 18) (s_il dX5_shrink_16) ?_
  refine sd_c (pc := 18) (f := i_z (fun x => x < 0) 58 21) (s_if_lt (tgt := 58) dX5_shrink_18 (by decide)) ?_
  refine sd_c (pc := 21) (f := i_ll 2 22) (s_lln (i := 2) dX5_shrink_21) ?_
  refine sd_c (pc := 22) (f := i_c (.int (31)) 24) (s_bipush dX5_shrink_22 (by decide)) ?_
  refine sd_c (pc := 24) (f := i_sl (fun x z => x <<< (z.toInt64 &&& 63)) 25) (s_lshl dX5_shrink_24) ?_
  refine sd_c (pc := 25) (f := i_al 0 26) (s_aln (i := 0) dX5_shrink_25) ?_
  refine sd_c (pc := 26) (f := i_gf 5 0 29) (s_gf (ci := 5) (k := 0) dX5_shrink_26 rfl in_X5 (by decide) w49) ?_
  refine sd_c (pc := 29) (f := i_il 4 31) (s_il dX5_shrink_29) ?_
  refine sd_c (pc := 31) (f := i_ia 0 32) (s_iald dX5_shrink_31) ?_
  refine sd_c (pc := 32) (f := i_u12 (fun x => x.toInt64) 33) (s_i2l dX5_shrink_32) ?_
  refine sd_c (pc := 33) (f := i_bl (fun x z => x ||| z) 34) (s_lor dX5_shrink_33) ?_
  refine sd_c (pc := 34) (f := i_ls 2 35) (s_lsn (i := 2) dX5_shrink_34 (by decide)) ?_
  refine sd_c (pc := 35) (f := i_al 0 36) (s_aln (i := 0) dX5_shrink_35) ?_
  refine sd_c (pc := 36) (f := i_gf 5 0 39) (s_gf (ci := 5) (k := 0) dX5_shrink_36 rfl in_X5 (by decide) w49) ?_
  refine sd_c (pc := 39) (f := i_il 4 41) (s_il dX5_shrink_39) ?_
  refine sd_c (pc := 41) (f := i_ll 2 42) (s_lln (i := 2) dX5_shrink_41) ?_
  refine sd_c (pc := 42) (f := i_il 1 43) (s_iln (i := 1) dX5_shrink_42) ?_
  refine sd_c (pc := 43) (f := i_u12 (fun x => x.toInt64) 44) (s_i2l dX5_shrink_43) ?_
  refine sd_c (pc := 44) (f := i_ql (fun x z => x / z) 45) (s_ldiv dX5_shrink_44) ?_
  refine sd_c (pc := 45) (f := i_u21 (fun x => x.toInt32) 46) (s_l2i dX5_shrink_45) ?_
  refine sd_c (pc := 46) (f := i_ist 47) (s_ist dX5_shrink_46) ?_
  refine sd_c (pc := 47) (f := i_ll 2 48) (s_lln (i := 2) dX5_shrink_47) ?_
  refine sd_c (pc := 48) (f := i_il 1 49) (s_iln (i := 1) dX5_shrink_48) ?_
  refine sd_c (pc := 49) (f := i_u12 (fun x => x.toInt64) 50) (s_i2l dX5_shrink_49) ?_
  refine sd_c (pc := 50) (f := i_ql (fun x z => x - x / z * z) 51) (s_lrem dX5_shrink_50) ?_
  refine sd_c (pc := 51) (f := i_ls 2 52) (s_lsn (i := 2) dX5_shrink_51 (by decide)) ?_
  refine sd_c (pc := 52) (f := i_inc 4 (-1) 55) (s_inc dX5_shrink_52 (by decide) (by decide)) ?_
  refine sd_c (pc := 55) (f := i_w [(16, [0, 1, 2, 4])] (i_g 16)) (s_w (s_goto (tgt := 16) dX5_shrink_55 (by decide))) ?_
  refine sd_c (pc := 58) (f := i_al 0 59) (s_aln (i := 0) dX5_shrink_58) ?_
  refine sd_c (pc := 59) (f := i_cv 5 1 0 f_X5_trim 0 0 0 0 62) (s_cv (np := 0) (rk := 0) (ci := 5) (rmz := rm_X5_trim) dX5_shrink_59 V_X5_trim w90 w91 w92 rfl (by decide)) ?_
  refine sd_c (pc := 62) (f := i_ll 2 63) (s_lln (i := 2) dX5_shrink_62) ?_
  refine sd_c (pc := 63) (f := i_u21 (fun x => x.toInt32) 64) (s_l2i dX5_shrink_63) ?_
  refine sd_c (pc := 64) (f := i_ri 0 0) (s_ri dX5_shrink_64 rfl) ?_
  exact sd_n
noncomputable def f_X5_shrink : List Value → me_M → Option sm_R := sd_f 5 T_X5_shrink
theorem V_X5_shrink : sd_V yX5_shrink cX5_shrink 5 (some .int) rm_X5_shrink 1 f_X5_shrink := ⟨sd_met A_X5_shrink (by decide +kernel), w286, w4, by decide +kernel⟩
set_option maxRecDepth 20000 in
theorem e_X5_shrink (x0 : Nat) (x1 : Int32) (M : me_M) : f_X5_shrink [.ref x0, .int x1] M = if 0 < x1 then ((me_obj M 5 x0).bind fun f1 => (f1[1]?).bind fun w2 => (v_int w2).bind fun y3 => sm T_X5_shrink (16, [(0, .ref x0), (1, .int x1), (2, .long (0 : Int64)), (4, .int (y3 - (1 : Int32)))], [], M, 0, 0)) else if 0 ≤ 0 ∧ 0 ≤ 0 then some (some (.int (0 : Int32)), M) else none := (show f_X5_shrink [.ref x0, .int x1] M = sm T_X5_shrink (0, [(0, .ref x0), (1, .int x1)], [], M, 0, 0) from rfl).trans (by have hF := sm_fx A_X5_shrink; generalize sm T_X5_shrink = F_ at hF ⊢; exact (sm_h hF (f := i_il 1 1) rfl).trans (q_il rfl ((sm_h hF (f := i_z (fun x => 0 < x) 6 4) rfl).trans (q_z (vi (ic ((sm_h hF (f := i_c (.long (0)) 7) rfl).trans (q_c ((sm_h hF (f := i_ls 2 8) rfl).trans (q_ls (vl ((sm_h hF (f := i_al 0 9) rfl).trans (q_al rfl ((sm_h hF (f := i_gf 5 1 12) rfl).trans (q_gf (vr (ob fun f1 => ob fun w2 => (sm_h hF (f := i_c (.int (1)) 13) rfl).trans (q_c ((sm_h hF (f := i_bi (fun x z => x - z) 14) rfl).trans (q_bi (ob fun y3 => vi ((sm_h hF (f := i_w [(16, [0, 1, 2, 4])] (i_is 4 16)) rfl).trans (q_w (q_is (vi (rfl)))))))))))))))))))) ((sm_h hF (f := i_c (.int (0)) 5) rfl).trans (q_c ((sm_h hF (f := i_ri 0 0) rfl).trans (q_ri (vi (rfl))))))))))))
set_option maxRecDepth 20000 in
theorem e_X5_shrink_16 (x0 : Nat) (x1 : Int32) (x2 : Int64) (x4 : Int32) (M : me_M) : sm T_X5_shrink (16, [(0, .ref x0), (1, .int x1), (2, .long x2), (4, .int x4)], [], M, 0, 0) = if x4 < 0 then ((me_obj M 5 x0).bind fun _ => (f_X5_trim [.ref x0] M).bind fun r1 => cond r1.1.isNone (if 0 ≤ 0 ∧ 0 ≤ 0 then some (some (.int x2.toInt32), r1.2) else none) none) else (me_obj M 5 x0).bind fun f2 => (f2[0]?).bind fun w3 => (v_ref w3).bind fun a4 => (me_int M 0 a4).bind fun f5 => if x4 < 0 ∨ f5.1 ≤ x4.toNatClampNeg then (none) else (me_obj M 5 x0).bind fun f6 => (f6[0]?).bind fun w7 => if x1.toInt64 = 0 then (none) else (v_ref w7).bind fun a8 => (me_int M 0 a8).bind fun f9 => if x4 < 0 ∨ f9.1 ≤ x4.toNatClampNeg then (none) else if x1.toInt64 = 0 then (none) else sm T_X5_shrink (16, [(0, .ref x0), (1, .int x1), (2, .long (((x2 <<< ((31 : Int32).toInt64 &&& 63)) ||| ((f5.2 x4.toNatClampNeg).toInt64)) - ((x2 <<< ((31 : Int32).toInt64 &&& 63)) ||| ((f5.2 x4.toNatClampNeg).toInt64)) / x1.toInt64 * x1.toInt64)), (4, .int (x4 + (-1)))], [], (me_set M a8 (.inl (0, f9.1, .inl (upd f9.2 x4.toNatClampNeg ((((x2 <<< ((31 : Int32).toInt64 &&& 63)) ||| ((f5.2 x4.toNatClampNeg).toInt64)) / x1.toInt64).toInt32))))), 0, 0) := (by have hF := sm_fx A_X5_shrink; generalize sm T_X5_shrink = F_ at hF ⊢; exact (sm_h hF (f := i_il 4 18) rfl).trans (q_il rfl ((sm_h hF (f := i_z (fun x => x < 0) 58 21) rfl).trans (q_z (vi (ic ((sm_h hF (f := i_al 0 59) rfl).trans (q_al rfl ((sm_h hF (f := i_cv 5 1 0 f_X5_trim 0 0 0 0 62) rfl).trans (q_cv rfl rfl rfl (vr (ob fun _ => ob fun r1 => cT rfl (q_r0 (cg ((sm_h hF (f := i_ll 2 63) rfl).trans (q_ll rfl ((sm_h hF (f := i_u21 (fun x => x.toInt32) 64) rfl).trans (q_u21 (vl ((sm_h hF (f := i_ri 0 0) rfl).trans (q_ri (vi (rfl))))))))) rfl)))))))) ((sm_h hF (f := i_ll 2 22) rfl).trans (q_ll rfl ((sm_h hF (f := i_c (.int (31)) 24) rfl).trans (q_c ((sm_h hF (f := i_sl (fun x z => x <<< (z.toInt64 &&& 63)) 25) rfl).trans (q_sl (vl (vi ((sm_h hF (f := i_al 0 26) rfl).trans (q_al rfl ((sm_h hF (f := i_gf 5 0 29) rfl).trans (q_gf (vr (ob fun f2 => ob fun w3 => (sm_h hF (f := i_il 4 31) rfl).trans (q_il rfl ((sm_h hF (f := i_ia 0 32) rfl).trans (q_ia (vi (ob fun a4 => ob fun f5 => ic (rfl) ((sm_h hF (f := i_u12 (fun x => x.toInt64) 33) rfl).trans (q_u12 (vi ((sm_h hF (f := i_bl (fun x z => x ||| z) 34) rfl).trans (q_bl (vl (vl ((sm_h hF (f := i_ls 2 35) rfl).trans (q_ls (vl ((sm_h hF (f := i_al 0 36) rfl).trans (q_al rfl ((sm_h hF (f := i_gf 5 0 39) rfl).trans (q_gf (vr (ob fun f6 => ob fun w7 => (sm_h hF (f := i_il 4 41) rfl).trans (q_il rfl ((sm_h hF (f := i_ll 2 42) rfl).trans (q_ll rfl ((sm_h hF (f := i_il 1 43) rfl).trans (q_il rfl ((sm_h hF (f := i_u12 (fun x => x.toInt64) 44) rfl).trans (q_u12 (vi ((sm_h hF (f := i_ql (fun x z => x / z) 45) rfl).trans (q_ql (vl (vl (ic (rfl) ((sm_h hF (f := i_u21 (fun x => x.toInt32) 46) rfl).trans (q_u21 (vl ((sm_h hF (f := i_ist 47) rfl).trans (q_ist (vi (vi (ob fun a8 => ob fun f9 => ic (rfl) ((sm_h hF (f := i_ll 2 48) rfl).trans (q_ll rfl ((sm_h hF (f := i_il 1 49) rfl).trans (q_il rfl ((sm_h hF (f := i_u12 (fun x => x.toInt64) 50) rfl).trans (q_u12 (vi ((sm_h hF (f := i_ql (fun x z => x - x / z * z) 51) rfl).trans (q_ql (vl (vl (ic (rfl) ((sm_h hF (f := i_ls 2 52) rfl).trans (q_ls (vl ((sm_h hF (f := i_inc 4 (-1) 55) rfl).trans (q_inc rfl ((sm_h hF (f := i_w [(16, [0, 1, 2, 4])] (i_g 16)) rfl).trans (q_w (q_g (rfl)))))))))))))))))))))))))))))))))))))))))))))))))))))))))))))))))))))))))))))))))))
/-! X5_init -/
abbrev rm_X5_init : Room := { frames := 1, cells := 1, slots := 72, locals := 24 }
noncomputable def T_X5_init : sm_T := [(0, i_al 0 1), (1, i_oi 4), (4, i_al 0 5), (5, i_il 1 6), (6, i_c (.int (0)) 7), (7, i_mx 10 1 72), (10, i_na 0 1 72 12), (12, i_pr 5 0 15), (15, i_rv 1 72)]
set_option maxRecDepth 20000 in
theorem A_X5_init : sd_A yX5_init cX5_init 2 none rm_X5_init T_X5_init := by
  refine sd_c (pc := 0) (f := i_al 0 1) (s_aln (i := 0) dX5_init_0) ?_
  refine sd_c (pc := 1) (f := i_oi 4) (s_oi dX5_init_1 w45 w26 w27 (by decide)) ?_
  refine sd_c (pc := 4) (f := i_al 0 5) (s_aln (i := 0) dX5_init_4) ?_
  refine sd_c (pc := 5) (f := i_il 1 6) (s_iln (i := 1) dX5_init_5) ?_
  refine sd_c (pc := 6) (f := i_c (.int (0)) 7) (s_iconst dX5_init_6 (by decide)) ?_
  refine sd_c (pc := 7) (f := i_mx 10 1 72) (s_mx dX5_init_7 w46 w47 w5 w48 (by decide)) ?_
  refine sd_c (pc := 10) (f := i_na 0 1 72 12) (s_na (kd := 0) dX5_init_10 (by decide) rfl rfl (by decide) w60 (fun _ => rfl) (fun _ _ => rfl)) ?_
  refine sd_c (pc := 12) (f := i_pr 5 0 15) (s_pr (ci := 5) (k := 0) dX5_init_12 rfl in_X5 tyX5_ok nmX5 (by decide) w49 (Or.inr ⟨rfl, rfl, rfl⟩) (Or.inr ⟨_, rfl⟩)) ?_
  refine sd_c (pc := 15) (f := i_rv 1 72) (s_rv dX5_init_15 rfl) ?_
  exact sd_n
noncomputable def f_X5_init : List Value → me_M → Option sm_R := sd_f 2 T_X5_init
theorem V_X5_init : sd_V yX5_init cX5_init 2 none rm_X5_init 1 f_X5_init := ⟨sd_met A_X5_init (by decide +kernel), w44, w4, by decide +kernel⟩
set_option maxRecDepth 20000 in
theorem e_X5_init (x0 : Nat) (x1 : Int32) (M : me_M) : f_X5_init [.ref x0, .int x1] M = if (if x1 < (0 : Int32) then (0 : Int32) else x1) < 0 then (none) else cond (Nat.ble 1 1 && Nat.ble (0 + (if x1 < (0 : Int32) then (0 : Int32) else x1).toNatClampNeg) 72) ((me_obj (me_new M (.inl (0, (if x1 < (0 : Int32) then (0 : Int32) else x1).toNatClampNeg, .inl (fun _ => 0)))) 5 x0).bind fun f1 => if 0 < f1.length then (if 1 ≤ 1 ∧ (0 + (if x1 < (0 : Int32) then (0 : Int32) else x1).toNatClampNeg) ≤ 72 then some (none, (me_set (me_new M (.inl (0, (if x1 < (0 : Int32) then (0 : Int32) else x1).toNatClampNeg, .inl (fun _ => 0)))) x0 (.inr (5, f1.set 0 (.ref M.1))))) else none) else none) none := (show f_X5_init [.ref x0, .int x1] M = sm T_X5_init (0, [(0, .ref x0), (1, .int x1)], [], M, 0, 0) from rfl).trans (by have hF := sm_fx A_X5_init; generalize sm T_X5_init = F_ at hF ⊢; exact (sm_h hF (f := i_al 0 1) rfl).trans (q_al rfl ((sm_h hF (f := i_oi 4) rfl).trans (q_oi rfl (vr ((sm_h hF (f := i_al 0 5) rfl).trans (q_al rfl ((sm_h hF (f := i_il 1 6) rfl).trans (q_il rfl ((sm_h hF (f := i_c (.int (0)) 7) rfl).trans (q_c ((sm_h hF (f := i_mx 10 1 72) rfl).trans (q_mx (cT rfl (vi (vi ((sm_h hF (f := i_na 0 1 72 12) rfl).trans (q_na (vi (ic (rfl) (cg ((sm_h hF (f := i_pr 5 0 15) rfl).trans (q_pr (vn (vr (ob fun f1 => ic ((sm_h hF (f := i_rv 1 72) rfl).trans (q_rv (rfl))) (rfl)))))) rfl)))))))))))))))))))))
/-! X5_isOne -/
abbrev rm_X5_isOne : Room := { frames := 0, cells := 0, slots := 0, locals := 0 }
noncomputable def T_X5_isOne : sm_T := [(0, i_al 0 1), (1, i_gf 5 1 4), (4, i_c (.int (1)) 5), (5, i_zz (fun x z => x = z) 8 22), (8, i_al 0 9), (9, i_gf 5 0 12), (12, i_c (.int (0)) 13), (13, i_ia 0 14), (14, i_c (.int (1)) 15), (15, i_zz (fun x z => x = z) 18 22), (18, i_c (.int (1)) 19), (19, i_g 23), (22, i_c (.int (0)) 23), (23, i_rz 0 0)]
set_option maxRecDepth 20000 in
theorem A_X5_isOne : sd_A yX5_isOne cX5_isOne 1 (some .boolean) rm_X5_isOne T_X5_isOne := by
  refine sd_c (pc := 0) (f := i_al 0 1) (s_aln (i := 0) dX5_isOne_0) ?_
  refine sd_c (pc := 1) (f := i_gf 5 1 4) (s_gf (ci := 5) (k := 1) dX5_isOne_1 rfl in_X5 (by decide) w52) ?_
  refine sd_c (pc := 4) (f := i_c (.int (1)) 5) (s_iconst dX5_isOne_4 (by decide)) ?_
  refine sd_c (pc := 5) (f := i_zz (fun x z => x = z) 8 22) (s_ic_ne (tgt := 22) dX5_isOne_5 (by decide)) ?_
  refine sd_c (pc := 8) (f := i_al 0 9) (s_aln (i := 0) dX5_isOne_8) ?_
  refine sd_c (pc := 9) (f := i_gf 5 0 12) (s_gf (ci := 5) (k := 0) dX5_isOne_9 rfl in_X5 (by decide) w49) ?_
  refine sd_c (pc := 12) (f := i_c (.int (0)) 13) (s_iconst dX5_isOne_12 (by decide)) ?_
  refine sd_c (pc := 13) (f := i_ia 0 14) (s_iald dX5_isOne_13) ?_
  refine sd_c (pc := 14) (f := i_c (.int (1)) 15) (s_iconst dX5_isOne_14 (by decide)) ?_
  refine sd_c (pc := 15) (f := i_zz (fun x z => x = z) 18 22) (s_ic_ne (tgt := 22) dX5_isOne_15 (by decide)) ?_
  refine sd_c (pc := 18) (f := i_c (.int (1)) 19) (s_iconst dX5_isOne_18 (by decide)) ?_
  refine sd_c (pc := 19) (f := i_g 23) (s_goto (tgt := 23) dX5_isOne_19 (by decide)) ?_
  refine sd_c (pc := 22) (f := i_c (.int (0)) 23) (s_iconst dX5_isOne_22 (by decide)) ?_
  refine sd_c (pc := 23) (f := i_rz 0 0) (s_rz dX5_isOne_23 rfl) ?_
  exact sd_n
noncomputable def f_X5_isOne : List Value → me_M → Option sm_R := sd_f 1 T_X5_isOne
theorem V_X5_isOne : sd_V yX5_isOne cX5_isOne 1 (some .boolean) rm_X5_isOne 0 f_X5_isOne := ⟨sd_met A_X5_isOne (by decide +kernel), w236, w4, by decide +kernel⟩
set_option maxRecDepth 20000 in
theorem e_X5_isOne (x0 : Nat) (M : me_M) : f_X5_isOne [.ref x0] M = (me_obj M 5 x0).bind fun f1 => (f1[1]?).bind fun w2 => (v_int w2).bind fun y3 => if y3 = (1 : Int32) then ((me_obj M 5 x0).bind fun f4 => (f4[0]?).bind fun w5 => (v_ref w5).bind fun a6 => (me_int M 0 a6).bind fun f7 => if (0 : Int32) < 0 ∨ f7.1 ≤ (0 : Int32).toNatClampNeg then (none) else if (f7.2 (0 : Int32).toNatClampNeg) = (1 : Int32) then (if (1 : Int32) = 0 ∨ (1 : Int32) = 1 then (if 0 ≤ 0 ∧ 0 ≤ 0 then some (some (.int (1 : Int32)), M) else none) else none) else if (0 : Int32) = 0 ∨ (0 : Int32) = 1 then (if 0 ≤ 0 ∧ 0 ≤ 0 then some (some (.int (0 : Int32)), M) else none) else none) else if (0 : Int32) = 0 ∨ (0 : Int32) = 1 then (if 0 ≤ 0 ∧ 0 ≤ 0 then some (some (.int (0 : Int32)), M) else none) else none := (show f_X5_isOne [.ref x0] M = sm T_X5_isOne (0, [(0, .ref x0)], [], M, 0, 0) from rfl).trans (by have hF := sm_fx A_X5_isOne; generalize sm T_X5_isOne = F_ at hF ⊢; exact (sm_h hF (f := i_al 0 1) rfl).trans (q_al rfl ((sm_h hF (f := i_gf 5 1 4) rfl).trans (q_gf (vr (ob fun f1 => ob fun w2 => (sm_h hF (f := i_c (.int (1)) 5) rfl).trans (q_c ((sm_h hF (f := i_zz (fun x z => x = z) 8 22) rfl).trans (q_zz (ob fun y3 => vi (ic ((sm_h hF (f := i_al 0 9) rfl).trans (q_al rfl ((sm_h hF (f := i_gf 5 0 12) rfl).trans (q_gf (vr (ob fun f4 => ob fun w5 => (sm_h hF (f := i_c (.int (0)) 13) rfl).trans (q_c ((sm_h hF (f := i_ia 0 14) rfl).trans (q_ia (vi (ob fun a6 => ob fun f7 => ic (rfl) ((sm_h hF (f := i_c (.int (1)) 15) rfl).trans (q_c ((sm_h hF (f := i_zz (fun x z => x = z) 18 22) rfl).trans (q_zz (vi (vi (ic ((sm_h hF (f := i_c (.int (1)) 19) rfl).trans (q_c ((sm_h hF (f := i_g 23) rfl).trans (q_g ((sm_h hF (f := i_rz 0 0) rfl).trans (q_rz (vi (rfl)))))))) ((sm_h hF (f := i_c (.int (0)) 23) rfl).trans (q_c ((sm_h hF (f := i_rz 0 0) rfl).trans (q_rz (vi (rfl)))))))))))))))))))))))) ((sm_h hF (f := i_c (.int (0)) 23) rfl).trans (q_c ((sm_h hF (f := i_rz 0 0) rfl).trans (q_rz (vi (rfl)))))))))))))))))
/-! X5_setLong -/
abbrev rm_X5_setLong : Room := { frames := 1, cells := 0, slots := 0, locals := 20 }
noncomputable def T_X5_setLong : sm_T := [(0, i_al 0 1), (1, i_gf 5 0 4), (4, i_c (.int (0)) 5), (5, i_ll 1 6), (6, i_u21 (fun x => x.toInt32) 7), (7, i_c (.int (2147483647)) 9), (9, i_bi (fun x z => x &&& z) 10), (10, i_ist 11), (11, i_al 0 12), (12, i_gf 5 0 15), (15, i_c (.int (1)) 16), (16, i_ll 1 17), (17, i_c (.int (31)) 19), (19, i_sl (fun x z => (x.toUInt64 >>> (z.toInt64.toUInt64 &&& Int64.toUInt64 63)).toInt64) 20), (20, i_u21 (fun x => x.toInt32) 21), (21, i_c (.int (2147483647)) 23), (23, i_bi (fun x z => x &&& z) 24), (24, i_ist 25), (25, i_al 0 26), (26, i_gf 5 0 29), (29, i_c (.int (2)) 30), (30, i_ll 1 31), (31, i_c (.int (62)) 33), (33, i_sl (fun x z => (x.toUInt64 >>> (z.toInt64.toUInt64 &&& Int64.toUInt64 63)).toInt64) 34), (34, i_u21 (fun x => x.toInt32) 35), (35, i_ist 36), (36, i_al 0 37), (37, i_c (.int (3)) 38), (38, i_w [(41, [0])] (i_pi 5 1 41)), (41, i_al 0 42), (42, i_cv 5 1 0 f_X5_trim 0 0 0 0 45), (45, i_rv 0 0)]
set_option maxRecDepth 20000 in
theorem A_X5_setLong : sd_A yX5_setLong cX5_setLong 3 none rm_X5_setLong T_X5_setLong := by
  refine sd_c (pc := 0) (f := i_al 0 1) (s_aln (i := 0) dX5_setLong_0) ?_
  refine sd_c (pc := 1) (f := i_gf 5 0 4) (s_gf (ci := 5) (k := 0) dX5_setLong_1 rfl in_X5 (by decide) w49) ?_
  refine sd_c (pc := 4) (f := i_c (.int (0)) 5) (s_iconst dX5_setLong_4 (by decide)) ?_
  refine sd_c (pc := 5) (f := i_ll 1 6) (s_lln (i := 1) dX5_setLong_5) ?_
  refine sd_c (pc := 6) (f := i_u21 (fun x => x.toInt32) 7) (s_l2i dX5_setLong_6) ?_
  refine sd_c (pc := 7) (f := i_c (.int (2147483647)) 9) (s_ldc dX5_setLong_7 w89) ?_
  refine sd_c (pc := 9) (f := i_bi (fun x z => x &&& z) 10) (s_iand dX5_setLong_9) ?_
  refine sd_c (pc := 10) (f := i_ist 11) (s_ist dX5_setLong_10) ?_
  refine sd_c (pc := 11) (f := i_al 0 12) (s_aln (i := 0) dX5_setLong_11) ?_
  refine sd_c (pc := 12) (f := i_gf 5 0 15) (s_gf (ci := 5) (k := 0) dX5_setLong_12 rfl in_X5 (by decide) w49) ?_
  refine sd_c (pc := 15) (f := i_c (.int (1)) 16) (s_iconst dX5_setLong_15 (by decide)) ?_
  refine sd_c (pc := 16) (f := i_ll 1 17) (s_lln (i := 1) dX5_setLong_16) ?_
  refine sd_c (pc := 17) (f := i_c (.int (31)) 19) (s_bipush dX5_setLong_17 (by decide)) ?_
  refine sd_c (pc := 19) (f := i_sl (fun x z => (x.toUInt64 >>> (z.toInt64.toUInt64 &&& Int64.toUInt64 63)).toInt64) 20) (s_lushr dX5_setLong_19) ?_
  refine sd_c (pc := 20) (f := i_u21 (fun x => x.toInt32) 21) (s_l2i dX5_setLong_20) ?_
  refine sd_c (pc := 21) (f := i_c (.int (2147483647)) 23) (s_ldc dX5_setLong_21 w89) ?_
  refine sd_c (pc := 23) (f := i_bi (fun x z => x &&& z) 24) (s_iand dX5_setLong_23) ?_
  refine sd_c (pc := 24) (f := i_ist 25) (s_ist dX5_setLong_24) ?_
  refine sd_c (pc := 25) (f := i_al 0 26) (s_aln (i := 0) dX5_setLong_25) ?_
  refine sd_c (pc := 26) (f := i_gf 5 0 29) (s_gf (ci := 5) (k := 0) dX5_setLong_26 rfl in_X5 (by decide) w49) ?_
  refine sd_c (pc := 29) (f := i_c (.int (2)) 30) (s_iconst dX5_setLong_29 (by decide)) ?_
  refine sd_c (pc := 30) (f := i_ll 1 31) (s_lln (i := 1) dX5_setLong_30) ?_
  refine sd_c (pc := 31) (f := i_c (.int (62)) 33) (s_bipush dX5_setLong_31 (by decide)) ?_
  refine sd_c (pc := 33) (f := i_sl (fun x z => (x.toUInt64 >>> (z.toInt64.toUInt64 &&& Int64.toUInt64 63)).toInt64) 34) (s_lushr dX5_setLong_33) ?_
  refine sd_c (pc := 34) (f := i_u21 (fun x => x.toInt32) 35) (s_l2i dX5_setLong_34) ?_
  refine sd_c (pc := 35) (f := i_ist 36) (s_ist dX5_setLong_35) ?_
  refine sd_c (pc := 36) (f := i_al 0 37) (s_aln (i := 0) dX5_setLong_36) ?_
  refine sd_c (pc := 37) (f := i_c (.int (3)) 38) (s_iconst dX5_setLong_37 (by decide)) ?_
  refine sd_c (pc := 38) (f := i_w [(41, [0])] (i_pi 5 1 41)) (s_w (s_pi (ci := 5) (k := 1) dX5_setLong_38 rfl in_X5 tyX5_ok nmX5 (by decide) w52 (Or.inl rfl) rfl)) ?_
  refine sd_c (pc := 41) (f := i_al 0 42) (s_aln (i := 0) dX5_setLong_41) ?_
  refine sd_c (pc := 42) (f := i_cv 5 1 0 f_X5_trim 0 0 0 0 45) (s_cv (np := 0) (rk := 0) (ci := 5) (rmz := rm_X5_trim) dX5_setLong_42 V_X5_trim w90 w91 w92 rfl (by decide)) ?_
  refine sd_c (pc := 45) (f := i_rv 0 0) (s_rv dX5_setLong_45 rfl) ?_
  exact sd_n
noncomputable def f_X5_setLong : List Value → me_M → Option sm_R := sd_f 3 T_X5_setLong
theorem V_X5_setLong : sd_V yX5_setLong cX5_setLong 3 none rm_X5_setLong 1 f_X5_setLong := ⟨sd_met A_X5_setLong (by decide +kernel), w88, w4, by decide +kernel⟩
set_option maxRecDepth 20000 in
theorem e_X5_setLong (x0 : Nat) (x1 : Int64) (M : me_M) : f_X5_setLong [.ref x0, .long x1] M = (me_obj M 5 x0).bind fun f1 => (f1[0]?).bind fun w2 => (v_ref w2).bind fun a3 => (me_int M 0 a3).bind fun f4 => if (0 : Int32) < 0 ∨ f4.1 ≤ (0 : Int32).toNatClampNeg then (none) else (me_obj (me_set M a3 (.inl (0, f4.1, .inl (upd f4.2 (0 : Int32).toNatClampNeg (x1.toInt32 &&& (2147483647 : Int32)))))) 5 x0).bind fun f5 => (f5[0]?).bind fun w6 => (v_ref w6).bind fun a7 => (me_int (me_set M a3 (.inl (0, f4.1, .inl (upd f4.2 (0 : Int32).toNatClampNeg (x1.toInt32 &&& (2147483647 : Int32)))))) 0 a7).bind fun f8 => if (1 : Int32) < 0 ∨ f8.1 ≤ (1 : Int32).toNatClampNeg then (none) else (me_obj (me_set (me_set M a3 (.inl (0, f4.1, .inl (upd f4.2 (0 : Int32).toNatClampNeg (x1.toInt32 &&& (2147483647 : Int32)))))) a7 (.inl (0, f8.1, .inl (upd f8.2 (1 : Int32).toNatClampNeg ((((x1.toUInt64 >>> ((31 : Int32).toInt64.toUInt64 &&& Int64.toUInt64 63)).toInt64).toInt32) &&& (2147483647 : Int32)))))) 5 x0).bind fun f9 => (f9[0]?).bind fun w10 => (v_ref w10).bind fun a11 => (me_int (me_set (me_set M a3 (.inl (0, f4.1, .inl (upd f4.2 (0 : Int32).toNatClampNeg (x1.toInt32 &&& (2147483647 : Int32)))))) a7 (.inl (0, f8.1, .inl (upd f8.2 (1 : Int32).toNatClampNeg ((((x1.toUInt64 >>> ((31 : Int32).toInt64.toUInt64 &&& Int64.toUInt64 63)).toInt64).toInt32) &&& (2147483647 : Int32)))))) 0 a11).bind fun f12 => if (2 : Int32) < 0 ∨ f12.1 ≤ (2 : Int32).toNatClampNeg then (none) else (me_obj (me_set (me_set (me_set M a3 (.inl (0, f4.1, .inl (upd f4.2 (0 : Int32).toNatClampNeg (x1.toInt32 &&& (2147483647 : Int32)))))) a7 (.inl (0, f8.1, .inl (upd f8.2 (1 : Int32).toNatClampNeg ((((x1.toUInt64 >>> ((31 : Int32).toInt64.toUInt64 &&& Int64.toUInt64 63)).toInt64).toInt32) &&& (2147483647 : Int32)))))) a11 (.inl (0, f12.1, .inl (upd f12.2 (2 : Int32).toNatClampNeg (((x1.toUInt64 >>> ((62 : Int32).toInt64.toUInt64 &&& Int64.toUInt64 63)).toInt64).toInt32))))) 5 x0).bind fun f13 => if 1 < f13.length then (sm T_X5_setLong (41, [(0, .ref x0)], [], (me_set (me_set (me_set (me_set M a3 (.inl (0, f4.1, .inl (upd f4.2 (0 : Int32).toNatClampNeg (x1.toInt32 &&& (2147483647 : Int32)))))) a7 (.inl (0, f8.1, .inl (upd f8.2 (1 : Int32).toNatClampNeg ((((x1.toUInt64 >>> ((31 : Int32).toInt64.toUInt64 &&& Int64.toUInt64 63)).toInt64).toInt32) &&& (2147483647 : Int32)))))) a11 (.inl (0, f12.1, .inl (upd f12.2 (2 : Int32).toNatClampNeg (((x1.toUInt64 >>> ((62 : Int32).toInt64.toUInt64 &&& Int64.toUInt64 63)).toInt64).toInt32))))) x0 (.inr (5, f13.set 1 (.int (3 : Int32))))), 0, 0)) else none := (show f_X5_setLong [.ref x0, .long x1] M = sm T_X5_setLong (0, [(0, .ref x0), (1, .long x1)], [], M, 0, 0) from rfl).trans (by have hF := sm_fx A_X5_setLong; generalize sm T_X5_setLong = F_ at hF ⊢; exact (sm_h hF (f := i_al 0 1) rfl).trans (q_al rfl ((sm_h hF (f := i_gf 5 0 4) rfl).trans (q_gf (vr (ob fun f1 => ob fun w2 => (sm_h hF (f := i_c (.int (0)) 5) rfl).trans (q_c ((sm_h hF (f := i_ll 1 6) rfl).trans (q_ll rfl ((sm_h hF (f := i_u21 (fun x => x.toInt32) 7) rfl).trans (q_u21 (vl ((sm_h hF (f := i_c (.int (2147483647)) 9) rfl).trans (q_c ((sm_h hF (f := i_bi (fun x z => x &&& z) 10) rfl).trans (q_bi (vi (vi ((sm_h hF (f := i_ist 11) rfl).trans (q_ist (vi (vi (ob fun a3 => ob fun f4 => ic (rfl) ((sm_h hF (f := i_al 0 12) rfl).trans (q_al rfl ((sm_h hF (f := i_gf 5 0 15) rfl).trans (q_gf (vr (ob fun f5 => ob fun w6 => (sm_h hF (f := i_c (.int (1)) 16) rfl).trans (q_c ((sm_h hF (f := i_ll 1 17) rfl).trans (q_ll rfl ((sm_h hF (f := i_c (.int (31)) 19) rfl).trans (q_c ((sm_h hF (f := i_sl (fun x z => (x.toUInt64 >>> (z.toInt64.toUInt64 &&& Int64.toUInt64 63)).toInt64) 20) rfl).trans (q_sl (vl (vi ((sm_h hF (f := i_u21 (fun x => x.toInt32) 21) rfl).trans (q_u21 (vl ((sm_h hF (f := i_c (.int (2147483647)) 23) rfl).trans (q_c ((sm_h hF (f := i_bi (fun x z => x &&& z) 24) rfl).trans (q_bi (vi (vi ((sm_h hF (f := i_ist 25) rfl).trans (q_ist (vi (vi (ob fun a7 => ob fun f8 => ic (rfl) ((sm_h hF (f := i_al 0 26) rfl).trans (q_al rfl ((sm_h hF (f := i_gf 5 0 29) rfl).trans (q_gf (vr (ob fun f9 => ob fun w10 => (sm_h hF (f := i_c (.int (2)) 30) rfl).trans (q_c ((sm_h hF (f := i_ll 1 31) rfl).trans (q_ll rfl ((sm_h hF (f := i_c (.int (62)) 33) rfl).trans (q_c ((sm_h hF (f := i_sl (fun x z => (x.toUInt64 >>> (z.toInt64.toUInt64 &&& Int64.toUInt64 63)).toInt64) 34) rfl).trans (q_sl (vl (vi ((sm_h hF (f := i_u21 (fun x => x.toInt32) 35) rfl).trans (q_u21 (vl ((sm_h hF (f := i_ist 36) rfl).trans (q_ist (vi (vi (ob fun a11 => ob fun f12 => ic (rfl) ((sm_h hF (f := i_al 0 37) rfl).trans (q_al rfl ((sm_h hF (f := i_c (.int (3)) 38) rfl).trans (q_c ((sm_h hF (f := i_w [(41, [0])] (i_pi 5 1 41)) rfl).trans (q_w (q_pi (vi (vr (ob fun f13 => ic (rfl) (rfl))))))))))))))))))))))))))))))))))))))))))))))))))))))))))))))))))))))))))))))))))))))
set_option maxRecDepth 20000 in
theorem e_X5_setLong_41 (x0 : Nat) (M : me_M) : sm T_X5_setLong (41, [(0, .ref x0)], [], M, 0, 0) = (me_obj M 5 x0).bind fun _ => (f_X5_trim [.ref x0] M).bind fun r1 => cond r1.1.isNone (if 0 ≤ 0 ∧ 0 ≤ 0 then some (none, r1.2) else none) none := (by have hF := sm_fx A_X5_setLong; generalize sm T_X5_setLong = F_ at hF ⊢; exact (sm_h hF (f := i_al 0 42) rfl).trans (q_al rfl ((sm_h hF (f := i_cv 5 1 0 f_X5_trim 0 0 0 0 45) rfl).trans (q_cv rfl rfl rfl (vr (ob fun _ => ob fun r1 => cT rfl (q_r0 (cg ((sm_h hF (f := i_rv 0 0) rfl).trans (q_rv (rfl))) rfl))))))))
/-! X5_compareWith -/
abbrev rm_X5_compareWith : Room := { frames := 0, cells := 0, slots := 0, locals := 0 }
noncomputable def T_X5_compareWith : sm_T := [(0, i_al 0 1), (1, i_gf 5 1 4), (4, i_al 1 5), (5, i_gf 5 1 8), (8, i_zz (fun x z => x = z) 28 11), (11, i_al 0 12), (12, i_gf 5 1 15), (15, i_al 1 16), (16, i_gf 5 1 19), (19, i_zz (fun x z => z ≤ x) 26 22), (22, i_c (.int (-1)) 23), (23, i_g 27), (26, i_c (.int (1)) 27), (27, i_ri 0 0), (28, i_al 0 29), (29, i_gf 5 1 32), (32, i_c (.int (1)) 33), (33, i_bi (fun x z => x - z) 34), (34, i_w [(35, [0, 1, 2])] (i_is 2 35)), (35, i_il 2 36), (36, i_z (fun x => x < 0) 81 39), (39, i_al 0 40), (40, i_gf 5 0 43), (43, i_il 2 44), (44, i_ia 0 45), (45, i_al 1 46), (46, i_gf 5 0 49), (49, i_il 2 50), (50, i_ia 0 51), (51, i_zz (fun x z => x = z) 75 54), (54, i_al 0 55), (55, i_gf 5 0 58), (58, i_il 2 59), (59, i_ia 0 60), (60, i_al 1 61), (61, i_gf 5 0 64), (64, i_il 2 65), (65, i_ia 0 66), (66, i_zz (fun x z => z ≤ x) 73 69), (69, i_c (.int (-1)) 70), (70, i_g 74), (73, i_c (.int (1)) 74), (74, i_ri 0 0), (75, i_inc 2 (-1) 78), (78, i_w [(35, [0, 1, 2])] (i_g 35)), (81, i_c (.int (0)) 82), (82, i_ri 0 0)]
set_option maxRecDepth 20000 in
theorem A_X5_compareWith : sd_A yX5_compareWith cX5_compareWith 3 (some .int) rm_X5_compareWith T_X5_compareWith := by
  refine sd_c (pc := 0) (f := i_al 0 1) (s_aln (i := 0) dX5_compareWith_0) ?_
  refine sd_c (pc := 1) (f := i_gf 5 1 4) (s_gf (ci := 5) (k := 1) dX5_compareWith_1 rfl in_X5 (by decide) w52) ?_
  refine sd_c (pc := 4) (f := i_al 1 5) (s_aln (i := 1) dX5_compareWith_4) ?_
  refine sd_c (pc := 5) (f := i_gf 5 1 8) (s_gf (ci := 5) (k := 1) dX5_compareWith_5 rfl in_X5 (by decide) w52) ?_
  refine sd_c (pc := 8) (f := i_zz (fun x z => x = z) 28 11) (s_ic_eq (tgt := 28) dX5_compareWith_8 (by decide)) ?_
  refine sd_c (pc := 11) (f := i_al 0 12) (s_aln (i := 0) dX5_compareWith_11) ?_
  refine sd_c (pc := 12) (f := i_gf 5 1 15) (s_gf (ci := 5) (k := 1) dX5_compareWith_12 rfl in_X5 (by decide) w52) ?_
  refine sd_c (pc := 15) (f := i_al 1 16) (s_aln (i := 1) dX5_compareWith_15) ?_
  refine sd_c (pc := 16) (f := i_gf 5 1 19) (s_gf (ci := 5) (k := 1) dX5_compareWith_16 rfl in_X5 (by decide) w52) ?_
  refine sd_c (pc := 19) (f := i_zz (fun x z => z ≤ x) 26 22) (s_ic_ge (tgt := 26) dX5_compareWith_19 (by decide)) ?_
  refine sd_c (pc := 22) (f := i_c (.int (-1)) 23) (s_iconst dX5_compareWith_22 (by decide)) ?_
  refine sd_c (pc := 23) (f := i_g 27) (s_goto (tgt := 27) dX5_compareWith_23 (by decide)) ?_
  refine sd_c (pc := 26) (f := i_c (.int (1)) 27) (s_iconst dX5_compareWith_26 (by decide)) ?_
  refine sd_c (pc := 27) (f := i_ri 0 0) (s_ri dX5_compareWith_27 rfl) ?_
  refine sd_c (pc := 28) (f := i_al 0 29) (s_aln (i := 0) dX5_compareWith_28) ?_
  refine sd_c (pc := 29) (f := i_gf 5 1 32) (s_gf (ci := 5) (k := 1) dX5_compareWith_29 rfl in_X5 (by decide) w52) ?_
  refine sd_c (pc := 32) (f := i_c (.int (1)) 33) (s_iconst dX5_compareWith_32 (by decide)) ?_
  refine sd_c (pc := 33) (f := i_bi (fun x z => x - z) 34) (s_isub dX5_compareWith_33) ?_
  refine sd_c (pc := 34) (f := i_w [(35, [0, 1, 2])] (i_is 2 35)) (s_w (s_isn (i := 2) dX5_compareWith_34 (by decide))) ?_
  refine sd_c (pc := 35) (f := i_il 2 36) (s_iln (i := 2) dX5_compareWith_35) ?_
  refine sd_c (pc := 36) (f := i_z (fun x => x < 0) 81 39) (s_if_lt (tgt := 81) dX5_compareWith_36 (by decide)) ?_
  refine sd_c (pc := 39) (f := i_al 0 40) (s_aln (i := 0) dX5_compareWith_39) ?_
  refine sd_c (pc := 40) (f := i_gf 5 0 43) (s_gf (ci := 5) (k := 0) dX5_compareWith_40 rfl in_X5 (by decide) w49) ?_
  refine sd_c (pc := 43) (f := i_il 2 44) (s_iln (i := 2) dX5_compareWith_43) ?_
  refine sd_c (pc := 44) (f := i_ia 0 45) (s_iald dX5_compareWith_44) ?_
  refine sd_c (pc := 45) (f := i_al 1 46) (s_aln (i := 1) dX5_compareWith_45) ?_
  refine sd_c (pc := 46) (f := i_gf 5 0 49) (s_gf (ci := 5) (k := 0) dX5_compareWith_46 rfl in_X5 (by decide) w49) ?_
  refine sd_c (pc := 49) (f := i_il 2 50) (s_iln (i := 2) dX5_compareWith_49) ?_
  refine sd_c (pc := 50) (f := i_ia 0 51) (s_iald dX5_compareWith_50) ?_
  refine sd_c (pc := 51) (f := i_zz (fun x z => x = z) 75 54) (s_ic_eq (tgt := 75) dX5_compareWith_51 (by decide)) ?_
  refine sd_c (pc := 54) (f := i_al 0 55) (s_aln (i := 0) dX5_compareWith_54) ?_
  refine sd_c (pc := 55) (f := i_gf 5 0 58) (s_gf (ci := 5) (k := 0) dX5_compareWith_55 rfl in_X5 (by decide) w49) ?_
  refine sd_c (pc := 58) (f := i_il 2 59) (s_iln (i := 2) dX5_compareWith_58) ?_
  refine sd_c (pc := 59) (f := i_ia 0 60) (s_iald dX5_compareWith_59) ?_
  refine sd_c (pc := 60) (f := i_al 1 61) (s_aln (i := 1) dX5_compareWith_60) ?_
  refine sd_c (pc := 61) (f := i_gf 5 0 64) (s_gf (ci := 5) (k := 0) dX5_compareWith_61 rfl in_X5 (by decide) w49) ?_
  refine sd_c (pc := 64) (f := i_il 2 65) (s_iln (i := 2) dX5_compareWith_64) ?_
  refine sd_c (pc := 65) (f := i_ia 0 66) (s_iald dX5_compareWith_65) ?_
  refine sd_c (pc := 66) (f := i_zz (fun x z => z ≤ x) 73 69) (s_ic_ge (tgt := 73) dX5_compareWith_66 (by decide)) ?_
  refine sd_c (pc := 69) (f := i_c (.int (-1)) 70) (s_iconst dX5_compareWith_69 (by decide)) ?_
  refine sd_c (pc := 70) (f := i_g 74) (s_goto (tgt := 74) dX5_compareWith_70 (by decide)) ?_
  refine sd_c (pc := 73) (f := i_c (.int (1)) 74) (s_iconst dX5_compareWith_73 (by decide)) ?_
  refine sd_c (pc := 74) (f := i_ri 0 0) (s_ri dX5_compareWith_74 rfl) ?_
  refine sd_c (pc := 75) (f := i_inc 2 (-1) 78) (s_inc dX5_compareWith_75 (by decide) (by decide)) ?_
  refine sd_c (pc := 78) (f := i_w [(35, [0, 1, 2])] (i_g 35)) (s_w (s_goto (tgt := 35) dX5_compareWith_78 (by decide))) ?_
  refine sd_c (pc := 81) (f := i_c (.int (0)) 82) (s_iconst dX5_compareWith_81 (by decide)) ?_
  refine sd_c (pc := 82) (f := i_ri 0 0) (s_ri dX5_compareWith_82 rfl) ?_
  exact sd_n
noncomputable def f_X5_compareWith : List Value → me_M → Option sm_R := sd_f 3 T_X5_compareWith
theorem V_X5_compareWith : sd_V yX5_compareWith cX5_compareWith 3 (some .int) rm_X5_compareWith 1 f_X5_compareWith := ⟨sd_met A_X5_compareWith (by decide +kernel), w241, w4, by decide +kernel⟩
set_option maxRecDepth 20000 in
theorem e_X5_compareWith (x0 : Nat) (x1 : Nat) (M : me_M) : f_X5_compareWith [.ref x0, .ref x1] M = (me_obj M 5 x0).bind fun f1 => (f1[1]?).bind fun w2 => (me_obj M 5 x1).bind fun f3 => (f3[1]?).bind fun w4 => (v_int w2).bind fun y5 => (v_int w4).bind fun y6 => if y5 = y6 then ((me_obj M 5 x0).bind fun f7 => (f7[1]?).bind fun w8 => (v_int w8).bind fun y9 => sm T_X5_compareWith (35, [(0, .ref x0), (1, .ref x1), (2, .int (y9 - (1 : Int32)))], [], M, 0, 0)) else (me_obj M 5 x0).bind fun f10 => (f10[1]?).bind fun w11 => (me_obj M 5 x1).bind fun f12 => (f12[1]?).bind fun w13 => (v_int w11).bind fun y14 => (v_int w13).bind fun y15 => if y15 ≤ y14 then (if 0 ≤ 0 ∧ 0 ≤ 0 then some (some (.int (1 : Int32)), M) else none) else if 0 ≤ 0 ∧ 0 ≤ 0 then some (some (.int (-1 : Int32)), M) else none := (show f_X5_compareWith [.ref x0, .ref x1] M = sm T_X5_compareWith (0, [(0, .ref x0), (1, .ref x1)], [], M, 0, 0) from rfl).trans (by have hF := sm_fx A_X5_compareWith; generalize sm T_X5_compareWith = F_ at hF ⊢; exact (sm_h hF (f := i_al 0 1) rfl).trans (q_al rfl ((sm_h hF (f := i_gf 5 1 4) rfl).trans (q_gf (vr (ob fun f1 => ob fun w2 => (sm_h hF (f := i_al 1 5) rfl).trans (q_al rfl ((sm_h hF (f := i_gf 5 1 8) rfl).trans (q_gf (vr (ob fun f3 => ob fun w4 => (sm_h hF (f := i_zz (fun x z => x = z) 28 11) rfl).trans (q_zz (ob fun y5 => ob fun y6 => ic ((sm_h hF (f := i_al 0 29) rfl).trans (q_al rfl ((sm_h hF (f := i_gf 5 1 32) rfl).trans (q_gf (vr (ob fun f7 => ob fun w8 => (sm_h hF (f := i_c (.int (1)) 33) rfl).trans (q_c ((sm_h hF (f := i_bi (fun x z => x - z) 34) rfl).trans (q_bi (ob fun y9 => vi ((sm_h hF (f := i_w [(35, [0, 1, 2])] (i_is 2 35)) rfl).trans (q_w (q_is (vi (rfl))))))))))))))) ((sm_h hF (f := i_al 0 12) rfl).trans (q_al rfl ((sm_h hF (f := i_gf 5 1 15) rfl).trans (q_gf (vr (ob fun f10 => ob fun w11 => (sm_h hF (f := i_al 1 16) rfl).trans (q_al rfl ((sm_h hF (f := i_gf 5 1 19) rfl).trans (q_gf (vr (ob fun f12 => ob fun w13 => (sm_h hF (f := i_zz (fun x z => z ≤ x) 26 22) rfl).trans (q_zz (ob fun y14 => ob fun y15 => ic ((sm_h hF (f := i_c (.int (1)) 27) rfl).trans (q_c ((sm_h hF (f := i_ri 0 0) rfl).trans (q_ri (vi (rfl)))))) ((sm_h hF (f := i_c (.int (-1)) 23) rfl).trans (q_c ((sm_h hF (f := i_g 27) rfl).trans (q_g ((sm_h hF (f := i_ri 0 0) rfl).trans (q_ri (vi (rfl))))))))))))))))))))))))))))))))))
set_option maxRecDepth 20000 in
theorem e_X5_compareWith_35 (x0 : Nat) (x1 : Nat) (x2 : Int32) (M : me_M) : sm T_X5_compareWith (35, [(0, .ref x0), (1, .ref x1), (2, .int x2)], [], M, 0, 0) = if x2 < 0 then (if 0 ≤ 0 ∧ 0 ≤ 0 then some (some (.int (0 : Int32)), M) else none) else (me_obj M 5 x0).bind fun f1 => (f1[0]?).bind fun w2 => (v_ref w2).bind fun a3 => (me_int M 0 a3).bind fun f4 => if x2 < 0 ∨ f4.1 ≤ x2.toNatClampNeg then (none) else (me_obj M 5 x1).bind fun f5 => (f5[0]?).bind fun w6 => (v_ref w6).bind fun a7 => (me_int M 0 a7).bind fun f8 => if x2 < 0 ∨ f8.1 ≤ x2.toNatClampNeg then (none) else if (f4.2 x2.toNatClampNeg) = (f8.2 x2.toNatClampNeg) then (sm T_X5_compareWith (35, [(0, .ref x0), (1, .ref x1), (2, .int (x2 + (-1)))], [], M, 0, 0)) else (me_obj M 5 x0).bind fun f9 => (f9[0]?).bind fun w10 => (v_ref w10).bind fun a11 => (me_int M 0 a11).bind fun f12 => if x2 < 0 ∨ f12.1 ≤ x2.toNatClampNeg then (none) else (me_obj M 5 x1).bind fun f13 => (f13[0]?).bind fun w14 => (v_ref w14).bind fun a15 => (me_int M 0 a15).bind fun f16 => if x2 < 0 ∨ f16.1 ≤ x2.toNatClampNeg then (none) else if (f16.2 x2.toNatClampNeg) ≤ (f12.2 x2.toNatClampNeg) then (if 0 ≤ 0 ∧ 0 ≤ 0 then some (some (.int (1 : Int32)), M) else none) else if 0 ≤ 0 ∧ 0 ≤ 0 then some (some (.int (-1 : Int32)), M) else none := (by have hF := sm_fx A_X5_compareWith; generalize sm T_X5_compareWith = F_ at hF ⊢; exact (sm_h hF (f := i_il 2 36) rfl).trans (q_il rfl ((sm_h hF (f := i_z (fun x => x < 0) 81 39) rfl).trans (q_z (vi (ic ((sm_h hF (f := i_c (.int (0)) 82) rfl).trans (q_c ((sm_h hF (f := i_ri 0 0) rfl).trans (q_ri (vi (rfl)))))) ((sm_h hF (f := i_al 0 40) rfl).trans (q_al rfl ((sm_h hF (f := i_gf 5 0 43) rfl).trans (q_gf (vr (ob fun f1 => ob fun w2 => (sm_h hF (f := i_il 2 44) rfl).trans (q_il rfl ((sm_h hF (f := i_ia 0 45) rfl).trans (q_ia (vi (ob fun a3 => ob fun f4 => ic (rfl) ((sm_h hF (f := i_al 1 46) rfl).trans (q_al rfl ((sm_h hF (f := i_gf 5 0 49) rfl).trans (q_gf (vr (ob fun f5 => ob fun w6 => (sm_h hF (f := i_il 2 50) rfl).trans (q_il rfl ((sm_h hF (f := i_ia 0 51) rfl).trans (q_ia (vi (ob fun a7 => ob fun f8 => ic (rfl) ((sm_h hF (f := i_zz (fun x z => x = z) 75 54) rfl).trans (q_zz (vi (vi (ic ((sm_h hF (f := i_inc 2 (-1) 78) rfl).trans (q_inc rfl ((sm_h hF (f := i_w [(35, [0, 1, 2])] (i_g 35)) rfl).trans (q_w (q_g (rfl)))))) ((sm_h hF (f := i_al 0 55) rfl).trans (q_al rfl ((sm_h hF (f := i_gf 5 0 58) rfl).trans (q_gf (vr (ob fun f9 => ob fun w10 => (sm_h hF (f := i_il 2 59) rfl).trans (q_il rfl ((sm_h hF (f := i_ia 0 60) rfl).trans (q_ia (vi (ob fun a11 => ob fun f12 => ic (rfl) ((sm_h hF (f := i_al 1 61) rfl).trans (q_al rfl ((sm_h hF (f := i_gf 5 0 64) rfl).trans (q_gf (vr (ob fun f13 => ob fun w14 => (sm_h hF (f := i_il 2 65) rfl).trans (q_il rfl ((sm_h hF (f := i_ia 0 66) rfl).trans (q_ia (vi (ob fun a15 => ob fun f16 => ic (rfl) ((sm_h hF (f := i_zz (fun x z => z ≤ x) 73 69) rfl).trans (q_zz (vi (vi (ic ((sm_h hF (f := i_c (.int (1)) 74) rfl).trans (q_c ((sm_h hF (f := i_ri 0 0) rfl).trans (q_ri (vi (rfl)))))) ((sm_h hF (f := i_c (.int (-1)) 70) rfl).trans (q_c ((sm_h hF (f := i_g 74) rfl).trans (q_g ((sm_h hF (f := i_ri 0 0) rfl).trans (q_ri (vi (rfl))))))))))))))))))))))))))))))))))))))))))))))))))))))))))))))))))))
/-! X5_copy -/
abbrev rm_X5_copy : Room := { frames := 1, cells := 0, slots := 0, locals := 60 }
noncomputable def T_X5_copy : sm_T := [(0, i_al 1 1), (1, i_gf 5 0 4), (4, i_c (.int (0)) 5), (5, i_al 0 6), (6, i_gf 5 0 9), (9, i_c (.int (0)) 10), (10, i_al 1 11), (11, i_gf 5 1 14), (14, i_cp 17), (17, i_al 0 18), (18, i_al 1 19), (19, i_gf 5 1 22), (22, i_pi 5 1 25), (25, i_rv 0 0)]
set_option maxRecDepth 20000 in
theorem A_X5_copy : sd_A yX5_copy cX5_copy 2 none rm_X5_copy T_X5_copy := by
  refine sd_c (pc := 0) (f := i_al 1 1) (s_aln (i := 1) dX5_copy_0) ?_
  refine sd_c (pc := 1) (f := i_gf 5 0 4) (s_gf (ci := 5) (k := 0) dX5_copy_1 rfl in_X5 (by decide) w49) ?_
  refine sd_c (pc := 4) (f := i_c (.int (0)) 5) (s_iconst dX5_copy_4 (by decide)) ?_
  refine sd_c (pc := 5) (f := i_al 0 6) (s_aln (i := 0) dX5_copy_5) ?_
  refine sd_c (pc := 6) (f := i_gf 5 0 9) (s_gf (ci := 5) (k := 0) dX5_copy_6 rfl in_X5 (by decide) w49) ?_
  refine sd_c (pc := 9) (f := i_c (.int (0)) 10) (s_iconst dX5_copy_9 (by decide)) ?_
  refine sd_c (pc := 10) (f := i_al 1 11) (s_aln (i := 1) dX5_copy_10) ?_
  refine sd_c (pc := 11) (f := i_gf 5 1 14) (s_gf (ci := 5) (k := 1) dX5_copy_11 rfl in_X5 (by decide) w52) ?_
  refine sd_c (pc := 14) (f := i_cp 17) (s_cp dX5_copy_14 w246 w248 w247 w14 (by decide)) ?_
  refine sd_c (pc := 17) (f := i_al 0 18) (s_aln (i := 0) dX5_copy_17) ?_
  refine sd_c (pc := 18) (f := i_al 1 19) (s_aln (i := 1) dX5_copy_18) ?_
  refine sd_c (pc := 19) (f := i_gf 5 1 22) (s_gf (ci := 5) (k := 1) dX5_copy_19 rfl in_X5 (by decide) w52) ?_
  refine sd_c (pc := 22) (f := i_pi 5 1 25) (s_pi (ci := 5) (k := 1) dX5_copy_22 rfl in_X5 tyX5_ok nmX5 (by decide) w52 (Or.inl rfl) rfl) ?_
  refine sd_c (pc := 25) (f := i_rv 0 0) (s_rv dX5_copy_25 rfl) ?_
  exact sd_n
noncomputable def f_X5_copy : List Value → me_M → Option sm_R := sd_f 2 T_X5_copy
theorem V_X5_copy : sd_V yX5_copy cX5_copy 2 none rm_X5_copy 1 f_X5_copy := ⟨sd_met A_X5_copy (by decide +kernel), w245, w4, by decide +kernel⟩
set_option maxRecDepth 20000 in
theorem e_X5_copy (x0 : Nat) (x1 : Nat) (M : me_M) : f_X5_copy [.ref x0, .ref x1] M = (me_obj M 5 x1).bind fun f1 => (f1[0]?).bind fun w2 => (me_obj M 5 x0).bind fun f3 => (f3[0]?).bind fun w4 => (me_obj M 5 x1).bind fun f5 => (f5[1]?).bind fun w6 => (v_ref w2).bind fun a7 => (v_ref w4).bind fun a8 => (v_int w6).bind fun y9 => (me_int M 0 a7).bind fun f10 => (me_int M 0 a8).bind fun g11 => if (0 : Int32) < 0 ∨ (0 : Int32) < 0 ∨ y9 < 0 ∨ f10.1 < (0 : Int32).toNatClampNeg + y9.toNatClampNeg ∨ g11.1 < (0 : Int32).toNatClampNeg + y9.toNatClampNeg then (none) else (me_obj (me_set M a8 (.inl (0, g11.1, .inl (va_cpy f10.2 g11.2 (0 : Int32).toNatClampNeg (0 : Int32).toNatClampNeg y9.toNatClampNeg)))) 5 x1).bind fun f12 => (f12[1]?).bind fun w13 => (v_int w13).bind fun y14 => (me_obj (me_set M a8 (.inl (0, g11.1, .inl (va_cpy f10.2 g11.2 (0 : Int32).toNatClampNeg (0 : Int32).toNatClampNeg y9.toNatClampNeg)))) 5 x0).bind fun f15 => if 1 < f15.length then (if 0 ≤ 0 ∧ 0 ≤ 0 then some (none, (me_set (me_set M a8 (.inl (0, g11.1, .inl (va_cpy f10.2 g11.2 (0 : Int32).toNatClampNeg (0 : Int32).toNatClampNeg y9.toNatClampNeg)))) x0 (.inr (5, f15.set 1 (.int y14))))) else none) else none := (show f_X5_copy [.ref x0, .ref x1] M = sm T_X5_copy (0, [(0, .ref x0), (1, .ref x1)], [], M, 0, 0) from rfl).trans (by have hF := sm_fx A_X5_copy; generalize sm T_X5_copy = F_ at hF ⊢; exact (sm_h hF (f := i_al 1 1) rfl).trans (q_al rfl ((sm_h hF (f := i_gf 5 0 4) rfl).trans (q_gf (vr (ob fun f1 => ob fun w2 => (sm_h hF (f := i_c (.int (0)) 5) rfl).trans (q_c ((sm_h hF (f := i_al 0 6) rfl).trans (q_al rfl ((sm_h hF (f := i_gf 5 0 9) rfl).trans (q_gf (vr (ob fun f3 => ob fun w4 => (sm_h hF (f := i_c (.int (0)) 10) rfl).trans (q_c ((sm_h hF (f := i_al 1 11) rfl).trans (q_al rfl ((sm_h hF (f := i_gf 5 1 14) rfl).trans (q_gf (vr (ob fun f5 => ob fun w6 => (sm_h hF (f := i_cp 17) rfl).trans (q_cp rfl (ob fun a7 => vi (ob fun a8 => vi (ob fun y9 => ob fun f10 => ob fun g11 => ic (rfl) ((sm_h hF (f := i_al 0 18) rfl).trans (q_al rfl ((sm_h hF (f := i_al 1 19) rfl).trans (q_al rfl ((sm_h hF (f := i_gf 5 1 22) rfl).trans (q_gf (vr (ob fun f12 => ob fun w13 => (sm_h hF (f := i_pi 5 1 25) rfl).trans (q_pi (ob fun y14 => vr (ob fun f15 => ic ((sm_h hF (f := i_rv 0 0) rfl).trans (q_rv (rfl))) (rfl))))))))))))))))))))))))))))))))))))
/-! X5_freeBits -/
abbrev rm_X5_freeBits : Room := { frames := 1, cells := 0, slots := 0, locals := 21 }
noncomputable def T_X5_freeBits : sm_T := [(0, i_al 0 1), (1, i_gf 5 1 4), (4, i_z (fun x => x = 0) 7 11), (7, i_c (.int (0)) 8), (8, i_g 27), (11, i_al 0 12), (12, i_gf 5 0 15), (15, i_al 0 16), (16, i_gf 5 1 19), (19, i_c (.int (1)) 20), (20, i_bi (fun x z => x - z) 21), (21, i_ia 0 22), (22, i_cs 1 1 f_J6_numberOfLeadingZeros_0f7a4 0 0 0 0 25), (25, i_c (.int (1)) 26), (26, i_bi (fun x z => x - z) 27), (27, i_ri 0 0)]
set_option maxRecDepth 20000 in
theorem A_X5_freeBits : sd_A yX5_freeBits cX5_freeBits 1 (some .int) rm_X5_freeBits T_X5_freeBits := by
  refine sd_c (pc := 0) (f := i_al 0 1) (s_aln (i := 0) dX5_freeBits_0) ?_
  refine sd_c (pc := 1) (f := i_gf 5 1 4) (s_gf (ci := 5) (k := 1) dX5_freeBits_1 rfl in_X5 (by decide) w52) ?_
  refine sd_c (pc := 4) (f := i_z (fun x => x = 0) 7 11) (s_if_ne (tgt := 11) dX5_freeBits_4 (by decide)) ?_
  refine sd_c (pc := 7) (f := i_c (.int (0)) 8) (s_iconst dX5_freeBits_7 (by decide)) ?_
  refine sd_c (pc := 8) (f := i_g 27) (s_goto (tgt := 27) dX5_freeBits_8 (by decide)) ?_
  refine sd_c (pc := 11) (f := i_al 0 12) (s_aln (i := 0) dX5_freeBits_11) ?_
  refine sd_c (pc := 12) (f := i_gf 5 0 15) (s_gf (ci := 5) (k := 0) dX5_freeBits_12 rfl in_X5 (by decide) w49) ?_
  refine sd_c (pc := 15) (f := i_al 0 16) (s_aln (i := 0) dX5_freeBits_15) ?_
  refine sd_c (pc := 16) (f := i_gf 5 1 19) (s_gf (ci := 5) (k := 1) dX5_freeBits_16 rfl in_X5 (by decide) w52) ?_
  refine sd_c (pc := 19) (f := i_c (.int (1)) 20) (s_iconst dX5_freeBits_19 (by decide)) ?_
  refine sd_c (pc := 20) (f := i_bi (fun x z => x - z) 21) (s_isub dX5_freeBits_20) ?_
  refine sd_c (pc := 21) (f := i_ia 0 22) (s_iald dX5_freeBits_21) ?_
  refine sd_c (pc := 22) (f := i_cs 1 1 f_J6_numberOfLeadingZeros_0f7a4 0 0 0 0 25) (s_cs (np := 1) (rk := 1) (rmz := rm_J6_numberOfLeadingZeros_0f7a4) dX5_freeBits_22 V_J6_numberOfLeadingZeros_0f7a4 w257 w258 (by decide)) ?_
  refine sd_c (pc := 25) (f := i_c (.int (1)) 26) (s_iconst dX5_freeBits_25 (by decide)) ?_
  refine sd_c (pc := 26) (f := i_bi (fun x z => x - z) 27) (s_isub dX5_freeBits_26) ?_
  refine sd_c (pc := 27) (f := i_ri 0 0) (s_ri dX5_freeBits_27 rfl) ?_
  exact sd_n
noncomputable def f_X5_freeBits : List Value → me_M → Option sm_R := sd_f 1 T_X5_freeBits
theorem V_X5_freeBits : sd_V yX5_freeBits cX5_freeBits 1 (some .int) rm_X5_freeBits 0 f_X5_freeBits := ⟨sd_met A_X5_freeBits (by decide +kernel), w256, w4, by decide +kernel⟩
set_option maxRecDepth 20000 in
theorem e_X5_freeBits (x0 : Nat) (M : me_M) : f_X5_freeBits [.ref x0] M = (me_obj M 5 x0).bind fun f1 => (f1[1]?).bind fun w2 => (v_int w2).bind fun y3 => if y3 = 0 then (if 0 ≤ 0 ∧ 0 ≤ 0 then some (some (.int (0 : Int32)), M) else none) else (me_obj M 5 x0).bind fun f4 => (f4[0]?).bind fun w5 => (me_obj M 5 x0).bind fun f6 => (f6[1]?).bind fun w7 => (v_int w7).bind fun y8 => (v_ref w5).bind fun a9 => (me_int M 0 a9).bind fun f10 => if (y8 - (1 : Int32)) < 0 ∨ f10.1 ≤ (y8 - (1 : Int32)).toNatClampNeg then (none) else (f_J6_numberOfLeadingZeros_0f7a4 [.int (f10.2 (y8 - (1 : Int32)).toNatClampNeg)] M).bind fun r11 => r11.1.bind fun v12 => (v_int v12).bind fun y13 => if 0 ≤ 0 ∧ 0 ≤ 0 then some (some (.int (y13 - (1 : Int32))), r11.2) else none := (show f_X5_freeBits [.ref x0] M = sm T_X5_freeBits (0, [(0, .ref x0)], [], M, 0, 0) from rfl).trans (by have hF := sm_fx A_X5_freeBits; generalize sm T_X5_freeBits = F_ at hF ⊢; exact (sm_h hF (f := i_al 0 1) rfl).trans (q_al rfl ((sm_h hF (f := i_gf 5 1 4) rfl).trans (q_gf (vr (ob fun f1 => ob fun w2 => (sm_h hF (f := i_z (fun x => x = 0) 7 11) rfl).trans (q_z (ob fun y3 => ic ((sm_h hF (f := i_c (.int (0)) 8) rfl).trans (q_c ((sm_h hF (f := i_g 27) rfl).trans (q_g ((sm_h hF (f := i_ri 0 0) rfl).trans (q_ri (vi (rfl)))))))) ((sm_h hF (f := i_al 0 12) rfl).trans (q_al rfl ((sm_h hF (f := i_gf 5 0 15) rfl).trans (q_gf (vr (ob fun f4 => ob fun w5 => (sm_h hF (f := i_al 0 16) rfl).trans (q_al rfl ((sm_h hF (f := i_gf 5 1 19) rfl).trans (q_gf (vr (ob fun f6 => ob fun w7 => (sm_h hF (f := i_c (.int (1)) 20) rfl).trans (q_c ((sm_h hF (f := i_bi (fun x z => x - z) 21) rfl).trans (q_bi (ob fun y8 => vi ((sm_h hF (f := i_ia 0 22) rfl).trans (q_ia (vi (ob fun a9 => ob fun f10 => ic (rfl) ((sm_h hF (f := i_cs 1 1 f_J6_numberOfLeadingZeros_0f7a4 0 0 0 0 25) rfl).trans (q_cs rfl rfl rfl (ob fun r11 => cT rfl (q_r1 (ob fun v12 => ob fun y13 => (sm_h hF (f := i_c (.int (1)) 26) rfl).trans (q_c ((sm_h hF (f := i_bi (fun x z => x - z) 27) rfl).trans (q_bi (vi (vi ((sm_h hF (f := i_ri 0 0) rfl).trans (q_ri (vi (rfl)))))))))))))))))))))))))))))))))))))))))
/-! X5_limbOrZero -/
abbrev rm_X5_limbOrZero : Room := { frames := 0, cells := 0, slots := 0, locals := 0 }
noncomputable def T_X5_limbOrZero : sm_T := [(0, i_il 1 1), (1, i_z (fun x => x < 0) 22 4), (4, i_il 1 5), (5, i_al 0 6), (6, i_gf 5 1 9), (9, i_zz (fun x z => z ≤ x) 22 12), (12, i_al 0 13), (13, i_gf 5 0 16), (16, i_il 1 17), (17, i_ia 0 18), (18, i_u12 (fun x => x.toInt64) 19), (19, i_g 23), (22, i_c (.long (0)) 23), (23, i_rl 0 0)]
set_option maxRecDepth 20000 in
theorem A_X5_limbOrZero : sd_A yX5_limbOrZero cX5_limbOrZero 2 (some .long) rm_X5_limbOrZero T_X5_limbOrZero := by
  refine sd_c (pc := 0) (f := i_il 1 1) (s_iln (i := 1) dX5_limbOrZero_0) ?_
  refine sd_c (pc := 1) (f := i_z (fun x => x < 0) 22 4) (s_if_lt (tgt := 22) dX5_limbOrZero_1 (by decide)) ?_
  refine sd_c (pc := 4) (f := i_il 1 5) (s_iln (i := 1) dX5_limbOrZero_4) ?_
  refine sd_c (pc := 5) (f := i_al 0 6) (s_aln (i := 0) dX5_limbOrZero_5) ?_
  refine sd_c (pc := 6) (f := i_gf 5 1 9) (s_gf (ci := 5) (k := 1) dX5_limbOrZero_6 rfl in_X5 (by decide) w52) ?_
  refine sd_c (pc := 9) (f := i_zz (fun x z => z ≤ x) 22 12) (s_ic_ge (tgt := 22) dX5_limbOrZero_9 (by decide)) ?_
  refine sd_c (pc := 12) (f := i_al 0 13) (s_aln (i := 0) dX5_limbOrZero_12) ?_
  refine sd_c (pc := 13) (f := i_gf 5 0 16) (s_gf (ci := 5) (k := 0) dX5_limbOrZero_13 rfl in_X5 (by decide) w49) ?_
  refine sd_c (pc := 16) (f := i_il 1 17) (s_iln (i := 1) dX5_limbOrZero_16) ?_
  refine sd_c (pc := 17) (f := i_ia 0 18) (s_iald dX5_limbOrZero_17) ?_
  refine sd_c (pc := 18) (f := i_u12 (fun x => x.toInt64) 19) (s_i2l dX5_limbOrZero_18) ?_
  refine sd_c (pc := 19) (f := i_g 23) (s_goto (tgt := 23) dX5_limbOrZero_19 (by decide)) ?_
  refine sd_c (pc := 22) (f := i_c (.long (0)) 23) (s_lconst dX5_limbOrZero_22 (by decide)) ?_
  refine sd_c (pc := 23) (f := i_rl 0 0) (s_rl dX5_limbOrZero_23 rfl) ?_
  exact sd_n
noncomputable def f_X5_limbOrZero : List Value → me_M → Option sm_R := sd_f 2 T_X5_limbOrZero
theorem V_X5_limbOrZero : sd_V yX5_limbOrZero cX5_limbOrZero 2 (some .long) rm_X5_limbOrZero 1 f_X5_limbOrZero := ⟨sd_met A_X5_limbOrZero (by decide +kernel), w268, w4, by decide +kernel⟩
set_option maxRecDepth 20000 in
theorem e_X5_limbOrZero (x0 : Nat) (x1 : Int32) (M : me_M) : f_X5_limbOrZero [.ref x0, .int x1] M = if x1 < 0 then (if 0 ≤ 0 ∧ 0 ≤ 0 then some (some (.long (0 : Int64)), M) else none) else (me_obj M 5 x0).bind fun f1 => (f1[1]?).bind fun w2 => (v_int w2).bind fun y3 => if y3 ≤ x1 then (if 0 ≤ 0 ∧ 0 ≤ 0 then some (some (.long (0 : Int64)), M) else none) else (me_obj M 5 x0).bind fun f4 => (f4[0]?).bind fun w5 => (v_ref w5).bind fun a6 => (me_int M 0 a6).bind fun f7 => if x1 < 0 ∨ f7.1 ≤ x1.toNatClampNeg then (none) else if 0 ≤ 0 ∧ 0 ≤ 0 then some (some (.long ((f7.2 x1.toNatClampNeg).toInt64)), M) else none := (show f_X5_limbOrZero [.ref x0, .int x1] M = sm T_X5_limbOrZero (0, [(0, .ref x0), (1, .int x1)], [], M, 0, 0) from rfl).trans (by have hF := sm_fx A_X5_limbOrZero; generalize sm T_X5_limbOrZero = F_ at hF ⊢; exact (sm_h hF (f := i_il 1 1) rfl).trans (q_il rfl ((sm_h hF (f := i_z (fun x => x < 0) 22 4) rfl).trans (q_z (vi (ic ((sm_h hF (f := i_c (.long (0)) 23) rfl).trans (q_c ((sm_h hF (f := i_rl 0 0) rfl).trans (q_rl (vl (rfl)))))) ((sm_h hF (f := i_il 1 5) rfl).trans (q_il rfl ((sm_h hF (f := i_al 0 6) rfl).trans (q_al rfl ((sm_h hF (f := i_gf 5 1 9) rfl).trans (q_gf (vr (ob fun f1 => ob fun w2 => (sm_h hF (f := i_zz (fun x z => z ≤ x) 22 12) rfl).trans (q_zz (vi (ob fun y3 => ic ((sm_h hF (f := i_c (.long (0)) 23) rfl).trans (q_c ((sm_h hF (f := i_rl 0 0) rfl).trans (q_rl (vl (rfl)))))) ((sm_h hF (f := i_al 0 13) rfl).trans (q_al rfl ((sm_h hF (f := i_gf 5 0 16) rfl).trans (q_gf (vr (ob fun f4 => ob fun w5 => (sm_h hF (f := i_il 1 17) rfl).trans (q_il rfl ((sm_h hF (f := i_ia 0 18) rfl).trans (q_ia (vi (ob fun a6 => ob fun f7 => ic (rfl) ((sm_h hF (f := i_u12 (fun x => x.toInt64) 19) rfl).trans (q_u12 (vi ((sm_h hF (f := i_g 23) rfl).trans (q_g ((sm_h hF (f := i_rl 0 0) rfl).trans (q_rl (vl (rfl)))))))))))))))))))))))))))))))))))))
/-! X5_twoLimbs -/
abbrev rm_X5_twoLimbs : Room := { frames := 1, cells := 0, slots := 0, locals := 21 }
noncomputable def T_X5_twoLimbs : sm_T := [(0, i_al 0 1), (1, i_il 1 2), (2, i_cv 5 2 2 f_X5_limbOrZero 0 0 0 0 5), (5, i_c (.int (31)) 7), (7, i_il 2 8), (8, i_bi (fun x z => x + z) 9), (9, i_sl (fun x z => x <<< (z.toInt64 &&& 63)) 10), (10, i_al 0 11), (11, i_il 1 12), (12, i_c (.int (1)) 13), (13, i_bi (fun x z => x - z) 14), (14, i_cv 5 2 2 f_X5_limbOrZero 0 0 0 0 17), (17, i_il 2 18), (18, i_sl (fun x z => x <<< (z.toInt64 &&& 63)) 19), (19, i_bl (fun x z => x ||| z) 20), (20, i_al 0 21), (21, i_il 1 22), (22, i_c (.int (2)) 23), (23, i_bi (fun x z => x - z) 24), (24, i_cv 5 2 2 f_X5_limbOrZero 0 0 0 0 27), (27, i_c (.int (31)) 29), (29, i_il 2 30), (30, i_bi (fun x z => x - z) 31), (31, i_sl (fun x z => (x.toUInt64 >>> (z.toInt64.toUInt64 &&& Int64.toUInt64 63)).toInt64) 32), (32, i_bl (fun x z => x ||| z) 33), (33, i_c (.long (4611686018427387903)) 36), (36, i_bl (fun x z => x &&& z) 37), (37, i_rl 0 0)]
set_option maxRecDepth 20000 in
theorem A_X5_twoLimbs : sd_A yX5_twoLimbs cX5_twoLimbs 3 (some .long) rm_X5_twoLimbs T_X5_twoLimbs := by
  refine sd_c (pc := 0) (f := i_al 0 1) (s_aln (i := 0) dX5_twoLimbs_0) ?_
  refine sd_c (pc := 1) (f := i_il 1 2) (s_iln (i := 1) dX5_twoLimbs_1) ?_
  refine sd_c (pc := 2) (f := i_cv 5 2 2 f_X5_limbOrZero 0 0 0 0 5) (s_cv (np := 1) (rk := 2) (ci := 5) (rmz := rm_X5_limbOrZero) dX5_twoLimbs_2 V_X5_limbOrZero w265 w266 w267 rfl (by decide)) ?_
  refine sd_c (pc := 5) (f := i_c (.int (31)) 7) (s_bipush dX5_twoLimbs_5 (by decide)) ?_
  refine sd_c (pc := 7) (f := i_il 2 8) (s_iln (i := 2) dX5_twoLimbs_7) ?_
  refine sd_c (pc := 8) (f := i_bi (fun x z => x + z) 9) (s_iadd dX5_twoLimbs_8) ?_
  refine sd_c (pc := 9) (f := i_sl (fun x z => x <<< (z.toInt64 &&& 63)) 10) (s_lshl dX5_twoLimbs_9) ?_
  refine sd_c (pc := 10) (f := i_al 0 11) (s_aln (i := 0) dX5_twoLimbs_10) ?_
  refine sd_c (pc := 11) (f := i_il 1 12) (s_iln (i := 1) dX5_twoLimbs_11) ?_
  refine sd_c (pc := 12) (f := i_c (.int (1)) 13) (s_iconst dX5_twoLimbs_12 (by decide)) ?_
  refine sd_c (pc := 13) (f := i_bi (fun x z => x - z) 14) (s_isub dX5_twoLimbs_13) ?_
  refine sd_c (pc := 14) (f := i_cv 5 2 2 f_X5_limbOrZero 0 0 0 0 17) (s_cv (np := 1) (rk := 2) (ci := 5) (rmz := rm_X5_limbOrZero) dX5_twoLimbs_14 V_X5_limbOrZero w265 w266 w267 rfl (by decide)) ?_
  refine sd_c (pc := 17) (f := i_il 2 18) (s_iln (i := 2) dX5_twoLimbs_17) ?_
  refine sd_c (pc := 18) (f := i_sl (fun x z => x <<< (z.toInt64 &&& 63)) 19) (s_lshl dX5_twoLimbs_18) ?_
  refine sd_c (pc := 19) (f := i_bl (fun x z => x ||| z) 20) (s_lor dX5_twoLimbs_19) ?_
  refine sd_c (pc := 20) (f := i_al 0 21) (s_aln (i := 0) dX5_twoLimbs_20) ?_
  refine sd_c (pc := 21) (f := i_il 1 22) (s_iln (i := 1) dX5_twoLimbs_21) ?_
  refine sd_c (pc := 22) (f := i_c (.int (2)) 23) (s_iconst dX5_twoLimbs_22 (by decide)) ?_
  refine sd_c (pc := 23) (f := i_bi (fun x z => x - z) 24) (s_isub dX5_twoLimbs_23) ?_
  refine sd_c (pc := 24) (f := i_cv 5 2 2 f_X5_limbOrZero 0 0 0 0 27) (s_cv (np := 1) (rk := 2) (ci := 5) (rmz := rm_X5_limbOrZero) dX5_twoLimbs_24 V_X5_limbOrZero w265 w266 w267 rfl (by decide)) ?_
  refine sd_c (pc := 27) (f := i_c (.int (31)) 29) (s_bipush dX5_twoLimbs_27 (by decide)) ?_
  refine sd_c (pc := 29) (f := i_il 2 30) (s_iln (i := 2) dX5_twoLimbs_29) ?_
  refine sd_c (pc := 30) (f := i_bi (fun x z => x - z) 31) (s_isub dX5_twoLimbs_30) ?_
  refine sd_c (pc := 31) (f := i_sl (fun x z => (x.toUInt64 >>> (z.toInt64.toUInt64 &&& Int64.toUInt64 63)).toInt64) 32) (s_lushr dX5_twoLimbs_31) ?_
  refine sd_c (pc := 32) (f := i_bl (fun x z => x ||| z) 33) (s_lor dX5_twoLimbs_32) ?_
  refine sd_c (pc := 33) (f := i_c (.long (4611686018427387903)) 36) (s_ldc2 dX5_twoLimbs_33 w269) ?_
  refine sd_c (pc := 36) (f := i_bl (fun x z => x &&& z) 37) (s_land dX5_twoLimbs_36) ?_
  refine sd_c (pc := 37) (f := i_rl 0 0) (s_rl dX5_twoLimbs_37 rfl) ?_
  exact sd_n
noncomputable def f_X5_twoLimbs : List Value → me_M → Option sm_R := sd_f 3 T_X5_twoLimbs
theorem V_X5_twoLimbs : sd_V yX5_twoLimbs cX5_twoLimbs 3 (some .long) rm_X5_twoLimbs 2 f_X5_twoLimbs := ⟨sd_met A_X5_twoLimbs (by decide +kernel), w264, w4, by decide +kernel⟩
set_option maxRecDepth 20000 in
theorem e_X5_twoLimbs (x0 : Nat) (x1 : Int32) (x2 : Int32) (M : me_M) : f_X5_twoLimbs [.ref x0, .int x1, .int x2] M = (me_obj M 5 x0).bind fun _ => (f_X5_limbOrZero [.ref x0, .int x1] M).bind fun r1 => r1.1.bind fun v2 => (v_long v2).bind fun y3 => (me_obj r1.2 5 x0).bind fun _ => (f_X5_limbOrZero [.ref x0, .int (x1 - (1 : Int32))] r1.2).bind fun r4 => r4.1.bind fun v5 => (v_long v5).bind fun y6 => (me_obj r4.2 5 x0).bind fun _ => (f_X5_limbOrZero [.ref x0, .int (x1 - (2 : Int32))] r4.2).bind fun r7 => r7.1.bind fun v8 => (v_long v8).bind fun y9 => if 0 ≤ 0 ∧ 0 ≤ 0 then some (some (.long ((((y3 <<< (((31 : Int32) + x2).toInt64 &&& 63)) ||| (y6 <<< (x2.toInt64 &&& 63))) ||| ((y9.toUInt64 >>> (((31 : Int32) - x2).toInt64.toUInt64 &&& Int64.toUInt64 63)).toInt64)) &&& (4611686018427387903 : Int64))), r7.2) else none := (show f_X5_twoLimbs [.ref x0, .int x1, .int x2] M = sm T_X5_twoLimbs (0, [(0, .ref x0), (1, .int x1), (2, .int x2)], [], M, 0, 0) from rfl).trans (by have hF := sm_fx A_X5_twoLimbs; generalize sm T_X5_twoLimbs = F_ at hF ⊢; exact (sm_h hF (f := i_al 0 1) rfl).trans (q_al rfl ((sm_h hF (f := i_il 1 2) rfl).trans (q_il rfl ((sm_h hF (f := i_cv 5 2 2 f_X5_limbOrZero 0 0 0 0 5) rfl).trans (q_cv rfl rfl rfl (vr (ob fun _ => ob fun r1 => cT rfl (q_r2 (ob fun v2 => ob fun y3 => (sm_h hF (f := i_c (.int (31)) 7) rfl).trans (q_c ((sm_h hF (f := i_il 2 8) rfl).trans (q_il rfl ((sm_h hF (f := i_bi (fun x z => x + z) 9) rfl).trans (q_bi (vi (vi ((sm_h hF (f := i_sl (fun x z => x <<< (z.toInt64 &&& 63)) 10) rfl).trans (q_sl (vl (vi ((sm_h hF (f := i_al 0 11) rfl).trans (q_al rfl ((sm_h hF (f := i_il 1 12) rfl).trans (q_il rfl ((sm_h hF (f := i_c (.int (1)) 13) rfl).trans (q_c ((sm_h hF (f := i_bi (fun x z => x - z) 14) rfl).trans (q_bi (vi (vi ((sm_h hF (f := i_cv 5 2 2 f_X5_limbOrZero 0 0 0 0 17) rfl).trans (q_cv rfl rfl rfl (vr (ob fun _ => ob fun r4 => cT rfl (q_r2 (ob fun v5 => ob fun y6 => (sm_h hF (f := i_il 2 18) rfl).trans (q_il rfl ((sm_h hF (f := i_sl (fun x z => x <<< (z.toInt64 &&& 63)) 19) rfl).trans (q_sl (vl (vi ((sm_h hF (f := i_bl (fun x z => x ||| z) 20) rfl).trans (q_bl (vl (vl ((sm_h hF (f := i_al 0 21) rfl).trans (q_al rfl ((sm_h hF (f := i_il 1 22) rfl).trans (q_il rfl ((sm_h hF (f := i_c (.int (2)) 23) rfl).trans (q_c ((sm_h hF (f := i_bi (fun x z => x - z) 24) rfl).trans (q_bi (vi (vi ((sm_h hF (f := i_cv 5 2 2 f_X5_limbOrZero 0 0 0 0 27) rfl).trans (q_cv rfl rfl rfl (vr (ob fun _ => ob fun r7 => cT rfl (q_r2 (ob fun v8 => ob fun y9 => (sm_h hF (f := i_c (.int (31)) 29) rfl).trans (q_c ((sm_h hF (f := i_il 2 30) rfl).trans (q_il rfl ((sm_h hF (f := i_bi (fun x z => x - z) 31) rfl).trans (q_bi (vi (vi ((sm_h hF (f := i_sl (fun x z => (x.toUInt64 >>> (z.toInt64.toUInt64 &&& Int64.toUInt64 63)).toInt64) 32) rfl).trans (q_sl (vl (vi ((sm_h hF (f := i_bl (fun x z => x ||| z) 33) rfl).trans (q_bl (vl (vl ((sm_h hF (f := i_c (.long (4611686018427387903)) 36) rfl).trans (q_c ((sm_h hF (f := i_bl (fun x z => x &&& z) 37) rfl).trans (q_bl (vl (vl ((sm_h hF (f := i_rl 0 0) rfl).trans (q_rl (vl (rfl)))))))))))))))))))))))))))))))))))))))))))))))))))))))))))))))))))))))))))))))))))))))
/-! X5_guess -/
abbrev rm_X5_guess : Room := { frames := 1, cells := 0, slots := 0, locals := 24 }
noncomputable def T_X5_guess : sm_T := [(0, i_ll 4 2), (2, i_c (.int (31)) 4), (4, i_sl (fun x z => (x.toUInt64 >>> (z.toInt64.toUInt64 &&& Int64.toUInt64 63)).toInt64) 5), (5, i_ls 6 7), (7, i_ll 4 9), (9, i_c (.long (2147483647)) 12), (12, i_bl (fun x z => x &&& z) 13), (13, i_ls 8 15), (15, i_ll 6 17), (17, i_c (.long (0)) 18), (18, i_lc 19), (19, i_z (fun x => x = 0) 22 24), (22, i_c (.long (0)) 23), (23, i_rl 0 0), (24, i_ll 0 25), (25, i_ll 6 27), (27, i_ql (fun x z => x / z) 28), (28, i_c (.long (2147483647)) 31), (31, i_mn 34 0 0), (34, i_ls 10 36), (36, i_ll 0 37), (37, i_ll 10 39), (39, i_ll 6 41), (41, i_bl (fun x z => x * z) 42), (42, i_bl (fun x z => x - z) 43), (43, i_ls 12 45), (45, i_ll 12 47), (47, i_c (.long (2147483647)) 50), (50, i_lc 51), (51, i_z (fun x => 0 < x) 77 54), (54, i_ll 10 56), (56, i_ll 8 58), (58, i_bl (fun x z => x * z) 59), (59, i_ll 12 61), (61, i_c (.int (31)) 63), (63, i_sl (fun x z => x <<< (z.toInt64 &&& 63)) 64), (64, i_ll 2 65), (65, i_bl (fun x z => x ||| z) 66), (66, i_lc 67), (67, i_z (fun x => x ≤ 0) 77 70), (70, i_ll 10 72), (72, i_c (.long (1)) 73), (73, i_bl (fun x z => x - z) 74), (74, i_g 79), (77, i_ll 10 79), (79, i_rl 0 0)]
set_option maxRecDepth 20000 in
theorem A_X5_guess : sd_A yX5_guess cX5_guess 14 (some .long) rm_X5_guess T_X5_guess := by
  refine sd_c (pc := 0) (f := i_ll 4 2) (s_ll dX5_guess_0) ?_
  refine sd_c (pc := 2) (f := i_c (.int (31)) 4) (s_bipush dX5_guess_2 (by decide)) ?_
  refine sd_c (pc := 4) (f := i_sl (fun x z => (x.toUInt64 >>> (z.toInt64.toUInt64 &&& Int64.toUInt64 63)).toInt64) 5) (s_lushr dX5_guess_4) ?_
  refine sd_c (pc := 5) (f := i_ls 6 7) (s_ls (i := 6) dX5_guess_5 (by decide)) ?_
  refine sd_c (pc := 7) (f := i_ll 4 9) (s_ll dX5_guess_7) ?_
  refine sd_c (pc := 9) (f := i_c (.long (2147483647)) 12) (s_ldc2 dX5_guess_9 w289) ?_
  refine sd_c (pc := 12) (f := i_bl (fun x z => x &&& z) 13) (s_land dX5_guess_12) ?_
  refine sd_c (pc := 13) (f := i_ls 8 15) (s_ls (i := 8) dX5_guess_13 (by decide)) ?_
  refine sd_c (pc := 15) (f := i_ll 6 17) (s_ll dX5_guess_15) ?_
  refine sd_c (pc := 17) (f := i_c (.long (0)) 18) (s_lconst dX5_guess_17 (by decide)) ?_
  refine sd_c (pc := 18) (f := i_lc 19) (s_lcmp dX5_guess_18) ?_
  refine sd_c (pc := 19) (f := i_z (fun x => x = 0) 22 24) (s_if_ne (tgt := 24) dX5_guess_19 (by decide)) ?_
  refine sd_c (pc := 22) (f := i_c (.long (0)) 23) (s_lconst dX5_guess_22 (by decide)) ?_
  refine sd_c (pc := 23) (f := i_rl 0 0) (s_rl dX5_guess_23 rfl) ?_
  refine sd_c (pc := 24) (f := i_ll 0 25) (s_lln (i := 0) dX5_guess_24) ?_
  refine sd_c (pc := 25) (f := i_ll 6 27) (s_ll dX5_guess_25) ?_
  refine sd_c (pc := 27) (f := i_ql (fun x z => x / z) 28) (s_ldiv dX5_guess_27) ?_
  refine sd_c (pc := 28) (f := i_c (.long (2147483647)) 31) (s_ldc2 dX5_guess_28 w289) ?_
  refine sd_c (pc := 31) (f := i_mn 34 0 0) (s_mn dX5_guess_31 w293 w294 w5 w295 (by decide)) ?_
  refine sd_c (pc := 34) (f := i_ls 10 36) (s_ls (i := 10) dX5_guess_34 (by decide)) ?_
  refine sd_c (pc := 36) (f := i_ll 0 37) (s_lln (i := 0) dX5_guess_36) ?_
  refine sd_c (pc := 37) (f := i_ll 10 39) (s_ll dX5_guess_37) ?_
  refine sd_c (pc := 39) (f := i_ll 6 41) (s_ll dX5_guess_39) ?_
  refine sd_c (pc := 41) (f := i_bl (fun x z => x * z) 42) (s_lmul dX5_guess_41) ?_
  refine sd_c (pc := 42) (f := i_bl (fun x z => x - z) 43) (s_lsub dX5_guess_42) ?_
  refine sd_c (pc := 43) (f := i_ls 12 45) (s_ls (i := 12) dX5_guess_43 (by decide)) ?_
  refine sd_c (pc := 45) (f := i_ll 12 47) (s_ll dX5_guess_45) ?_
  refine sd_c (pc := 47) (f := i_c (.long (2147483647)) 50) (s_ldc2 dX5_guess_47 w289) ?_
  refine sd_c (pc := 50) (f := i_lc 51) (s_lcmp dX5_guess_50) ?_
  refine sd_c (pc := 51) (f := i_z (fun x => 0 < x) 77 54) (s_if_gt (tgt := 77) dX5_guess_51 (by decide)) ?_
  refine sd_c (pc := 54) (f := i_ll 10 56) (s_ll dX5_guess_54) ?_
  refine sd_c (pc := 56) (f := i_ll 8 58) (s_ll dX5_guess_56) ?_
  refine sd_c (pc := 58) (f := i_bl (fun x z => x * z) 59) (s_lmul dX5_guess_58) ?_
  refine sd_c (pc := 59) (f := i_ll 12 61) (s_ll dX5_guess_59) ?_
  refine sd_c (pc := 61) (f := i_c (.int (31)) 63) (s_bipush dX5_guess_61 (by decide)) ?_
  refine sd_c (pc := 63) (f := i_sl (fun x z => x <<< (z.toInt64 &&& 63)) 64) (s_lshl dX5_guess_63) ?_
  refine sd_c (pc := 64) (f := i_ll 2 65) (s_lln (i := 2) dX5_guess_64) ?_
  refine sd_c (pc := 65) (f := i_bl (fun x z => x ||| z) 66) (s_lor dX5_guess_65) ?_
  refine sd_c (pc := 66) (f := i_lc 67) (s_lcmp dX5_guess_66) ?_
  refine sd_c (pc := 67) (f := i_z (fun x => x ≤ 0) 77 70) (s_if_le (tgt := 77) dX5_guess_67 (by decide)) ?_
  refine sd_c (pc := 70) (f := i_ll 10 72) (s_ll dX5_guess_70) ?_
  refine sd_c (pc := 72) (f := i_c (.long (1)) 73) (s_lconst dX5_guess_72 (by decide)) ?_
  refine sd_c (pc := 73) (f := i_bl (fun x z => x - z) 74) (s_lsub dX5_guess_73) ?_
  refine sd_c (pc := 74) (f := i_g 79) (s_goto (tgt := 79) dX5_guess_74 (by decide)) ?_
  refine sd_c (pc := 77) (f := i_ll 10 79) (s_ll dX5_guess_77) ?_
  refine sd_c (pc := 79) (f := i_rl 0 0) (s_rl dX5_guess_79 rfl) ?_
  exact sd_n
noncomputable def f_X5_guess : List Value → me_M → Option sm_R := sd_f 14 T_X5_guess
theorem V_X5_guess : sd_V yX5_guess cX5_guess 14 (some .long) rm_X5_guess 3 f_X5_guess := ⟨sd_met A_X5_guess (by decide +kernel), w292, w4, by decide +kernel⟩
set_option maxRecDepth 20000 in
theorem e_X5_guess (x0 : Int64) (x2 : Int64) (x4 : Int64) (M : me_M) : f_X5_guess [.long x0, .long x2, .long x4] M = if (lg_cmp ((x4.toUInt64 >>> ((31 : Int32).toInt64.toUInt64 &&& Int64.toUInt64 63)).toInt64) (0 : Int64)) = 0 then (if 0 ≤ 0 ∧ 0 ≤ 0 then some (some (.long (0 : Int64)), M) else none) else if ((x4.toUInt64 >>> ((31 : Int32).toInt64.toUInt64 &&& Int64.toUInt64 63)).toInt64) = 0 then (none) else if 0 < (lg_cmp (x0 - ((if (2147483647 : Int64) < (x0 / ((x4.toUInt64 >>> ((31 : Int32).toInt64.toUInt64 &&& Int64.toUInt64 63)).toInt64)) then (2147483647 : Int64) else (x0 / ((x4.toUInt64 >>> ((31 : Int32).toInt64.toUInt64 &&& Int64.toUInt64 63)).toInt64))) * ((x4.toUInt64 >>> ((31 : Int32).toInt64.toUInt64 &&& Int64.toUInt64 63)).toInt64))) (2147483647 : Int64)) then (if 0 ≤ 0 ∧ 0 ≤ 0 then some (some (.long (if (2147483647 : Int64) < (x0 / ((x4.toUInt64 >>> ((31 : Int32).toInt64.toUInt64 &&& Int64.toUInt64 63)).toInt64)) then (2147483647 : Int64) else (x0 / ((x4.toUInt64 >>> ((31 : Int32).toInt64.toUInt64 &&& Int64.toUInt64 63)).toInt64)))), M) else none) else if (lg_cmp ((if (2147483647 : Int64) < (x0 / ((x4.toUInt64 >>> ((31 : Int32).toInt64.toUInt64 &&& Int64.toUInt64 63)).toInt64)) then (2147483647 : Int64) else (x0 / ((x4.toUInt64 >>> ((31 : Int32).toInt64.toUInt64 &&& Int64.toUInt64 63)).toInt64))) * (x4 &&& (2147483647 : Int64))) (((x0 - ((if (2147483647 : Int64) < (x0 / ((x4.toUInt64 >>> ((31 : Int32).toInt64.toUInt64 &&& Int64.toUInt64 63)).toInt64)) then (2147483647 : Int64) else (x0 / ((x4.toUInt64 >>> ((31 : Int32).toInt64.toUInt64 &&& Int64.toUInt64 63)).toInt64))) * ((x4.toUInt64 >>> ((31 : Int32).toInt64.toUInt64 &&& Int64.toUInt64 63)).toInt64))) <<< ((31 : Int32).toInt64 &&& 63)) ||| x2)) ≤ 0 then (if 0 ≤ 0 ∧ 0 ≤ 0 then some (some (.long (if (2147483647 : Int64) < (x0 / ((x4.toUInt64 >>> ((31 : Int32).toInt64.toUInt64 &&& Int64.toUInt64 63)).toInt64)) then (2147483647 : Int64) else (x0 / ((x4.toUInt64 >>> ((31 : Int32).toInt64.toUInt64 &&& Int64.toUInt64 63)).toInt64)))), M) else none) else if 0 ≤ 0 ∧ 0 ≤ 0 then some (some (.long ((if (2147483647 : Int64) < (x0 / ((x4.toUInt64 >>> ((31 : Int32).toInt64.toUInt64 &&& Int64.toUInt64 63)).toInt64)) then (2147483647 : Int64) else (x0 / ((x4.toUInt64 >>> ((31 : Int32).toInt64.toUInt64 &&& Int64.toUInt64 63)).toInt64))) - (1 : Int64))), M) else none := (show f_X5_guess [.long x0, .long x2, .long x4] M = sm T_X5_guess (0, [(0, .long x0), (2, .long x2), (4, .long x4)], [], M, 0, 0) from rfl).trans (by have hF := sm_fx A_X5_guess; generalize sm T_X5_guess = F_ at hF ⊢; exact (sm_h hF (f := i_ll 4 2) rfl).trans (q_ll rfl ((sm_h hF (f := i_c (.int (31)) 4) rfl).trans (q_c ((sm_h hF (f := i_sl (fun x z => (x.toUInt64 >>> (z.toInt64.toUInt64 &&& Int64.toUInt64 63)).toInt64) 5) rfl).trans (q_sl (vl (vi ((sm_h hF (f := i_ls 6 7) rfl).trans (q_ls (vl ((sm_h hF (f := i_ll 4 9) rfl).trans (q_ll rfl ((sm_h hF (f := i_c (.long (2147483647)) 12) rfl).trans (q_c ((sm_h hF (f := i_bl (fun x z => x &&& z) 13) rfl).trans (q_bl (vl (vl ((sm_h hF (f := i_ls 8 15) rfl).trans (q_ls (vl ((sm_h hF (f := i_ll 6 17) rfl).trans (q_ll rfl ((sm_h hF (f := i_c (.long (0)) 18) rfl).trans (q_c ((sm_h hF (f := i_lc 19) rfl).trans (q_lc (vl (vl ((sm_h hF (f := i_z (fun x => x = 0) 22 24) rfl).trans (q_z (vi (ic ((sm_h hF (f := i_c (.long (0)) 23) rfl).trans (q_c ((sm_h hF (f := i_rl 0 0) rfl).trans (q_rl (vl (rfl)))))) ((sm_h hF (f := i_ll 0 25) rfl).trans (q_ll rfl ((sm_h hF (f := i_ll 6 27) rfl).trans (q_ll rfl ((sm_h hF (f := i_ql (fun x z => x / z) 28) rfl).trans (q_ql (vl (vl (ic (rfl) ((sm_h hF (f := i_c (.long (2147483647)) 31) rfl).trans (q_c ((sm_h hF (f := i_mn 34 0 0) rfl).trans (q_mn (cT rfl (vl (vl ((sm_h hF (f := i_ls 10 36) rfl).trans (q_ls (vl ((sm_h hF (f := i_ll 0 37) rfl).trans (q_ll rfl ((sm_h hF (f := i_ll 10 39) rfl).trans (q_ll rfl ((sm_h hF (f := i_ll 6 41) rfl).trans (q_ll rfl ((sm_h hF (f := i_bl (fun x z => x * z) 42) rfl).trans (q_bl (vl (vl ((sm_h hF (f := i_bl (fun x z => x - z) 43) rfl).trans (q_bl (vl (vl ((sm_h hF (f := i_ls 12 45) rfl).trans (q_ls (vl ((sm_h hF (f := i_ll 12 47) rfl).trans (q_ll rfl ((sm_h hF (f := i_c (.long (2147483647)) 50) rfl).trans (q_c ((sm_h hF (f := i_lc 51) rfl).trans (q_lc (vl (vl ((sm_h hF (f := i_z (fun x => 0 < x) 77 54) rfl).trans (q_z (vi (ic ((sm_h hF (f := i_ll 10 79) rfl).trans (q_ll rfl ((sm_h hF (f := i_rl 0 0) rfl).trans (q_rl (vl (rfl)))))) ((sm_h hF (f := i_ll 10 56) rfl).trans (q_ll rfl ((sm_h hF (f := i_ll 8 58) rfl).trans (q_ll rfl ((sm_h hF (f := i_bl (fun x z => x * z) 59) rfl).trans (q_bl (vl (vl ((sm_h hF (f := i_ll 12 61) rfl).trans (q_ll rfl ((sm_h hF (f := i_c (.int (31)) 63) rfl).trans (q_c ((sm_h hF (f := i_sl (fun x z => x <<< (z.toInt64 &&& 63)) 64) rfl).trans (q_sl (vl (vi ((sm_h hF (f := i_ll 2 65) rfl).trans (q_ll rfl ((sm_h hF (f := i_bl (fun x z => x ||| z) 66) rfl).trans (q_bl (vl (vl ((sm_h hF (f := i_lc 67) rfl).trans (q_lc (vl (vl ((sm_h hF (f := i_z (fun x => x ≤ 0) 77 70) rfl).trans (q_z (vi (ic ((sm_h hF (f := i_ll 10 79) rfl).trans (q_ll rfl ((sm_h hF (f := i_rl 0 0) rfl).trans (q_rl (vl (rfl)))))) ((sm_h hF (f := i_ll 10 72) rfl).trans (q_ll rfl ((sm_h hF (f := i_c (.long (1)) 73) rfl).trans (q_c ((sm_h hF (f := i_bl (fun x z => x - z) 74) rfl).trans (q_bl (vl (vl ((sm_h hF (f := i_g 79) rfl).trans (q_g ((sm_h hF (f := i_rl 0 0) rfl).trans (q_rl (vl (rfl))))))))))))))))))))))))))))))))))))))))))))))))))))))))))))))))))))))))))))))))))))))))))))))))))))))))))))))))))))))))))))))
/-! X5_giveBack -/
abbrev rm_X5_giveBack : Room := { frames := 0, cells := 0, slots := 0, locals := 0 }
noncomputable def T_X5_giveBack : sm_T := [(0, i_c (.long (0)) 1), (1, i_ls 3 2), (2, i_c (.int (0)) 3), (3, i_w [(5, [0, 1, 2, 3, 5])] (i_is 5 5)), (5, i_il 5 7), (7, i_al 1 8), (8, i_gf 5 1 11), (11, i_zz (fun x z => z ≤ x) 61 14), (14, i_ll 3 15), (15, i_al 0 16), (16, i_gf 5 0 19), (19, i_il 2 20), (20, i_il 5 22), (22, i_bi (fun x z => x + z) 23), (23, i_ia 0 24), (24, i_u12 (fun x => x.toInt64) 25), (25, i_al 1 26), (26, i_gf 5 0 29), (29, i_il 5 31), (31, i_ia 0 32), (32, i_u12 (fun x => x.toInt64) 33), (33, i_bl (fun x z => x + z) 34), (34, i_bl (fun x z => x + z) 35), (35, i_ls 3 36), (36, i_al 0 37), (37, i_gf 5 0 40), (40, i_il 2 41), (41, i_il 5 43), (43, i_bi (fun x z => x + z) 44), (44, i_ll 3 45), (45, i_u21 (fun x => x.toInt32) 46), (46, i_c (.int (2147483647)) 48), (48, i_bi (fun x z => x &&& z) 49), (49, i_ist 50), (50, i_ll 3 51), (51, i_c (.int (31)) 53), (53, i_sl (fun x z => (x.toUInt64 >>> (z.toInt64.toUInt64 &&& Int64.toUInt64 63)).toInt64) 54), (54, i_ls 3 55), (55, i_inc 5 (1) 58), (58, i_w [(5, [0, 1, 2, 3, 5])] (i_g 5)), (61, i_rv 0 0)]
set_option maxRecDepth 20000 in
theorem A_X5_giveBack : sd_A yX5_giveBack cX5_giveBack 6 none rm_X5_giveBack T_X5_giveBack := by
  refine sd_c (pc := 0) (f := i_c (.long (0)) 1) (s_lconst dX5_giveBack_0 (by decide)) ?_
  refine sd_c (pc := 1) (f := i_ls 3 2) (s_lsn (i := 3) dX5_giveBack_1 (by decide)) ?_
  refine sd_c (pc := 2) (f := i_c (.int (0)) 3) (s_iconst dX5_giveBack_2 (by decide)) ?_
  refine sd_c (pc := 3) (f := i_w [(5, [0, 1, 2, 3, 5])] (i_is 5 5)) (s_w (s_is (i := 5) dX5_giveBack_3 (by decide))) ?_
  refine sd_c (pc := 5) (f := i_il 5 7) (s_il dX5_giveBack_5) ?_
  refine sd_c (pc := 7) (f := i_al 1 8) (s_aln (i := 1) dX5_giveBack_7) ?_
  refine sd_c (pc := 8) (f := i_gf 5 1 11) (s_gf (ci := 5) (k := 1) dX5_giveBack_8 rfl in_X5 (by decide) w52) ?_
  refine sd_c (pc := 11) (f := i_zz (fun x z => z ≤ x) 61 14) (s_ic_ge (tgt := 61) dX5_giveBack_11 (by decide)) ?_
  refine sd_c (pc := 14) (f := i_ll 3 15) (s_lln (i := 3) dX5_giveBack_14) ?_
  refine sd_c (pc := 15) (f := i_al 0 16) (s_aln (i := 0) dX5_giveBack_15) ?_
  refine sd_c (pc := 16) (f := i_gf 5 0 19) (s_gf (ci := 5) (k := 0) dX5_giveBack_16 rfl in_X5 (by decide) w49) ?_
  refine sd_c (pc := 19) (f := i_il 2 20) (s_iln (i := 2) dX5_giveBack_19) ?_
  refine sd_c (pc := 20) (f := i_il 5 22) (s_il dX5_giveBack_20) ?_
  refine sd_c (pc := 22) (f := i_bi (fun x z => x + z) 23) (s_iadd dX5_giveBack_22) ?_
  refine sd_c (pc := 23) (f := i_ia 0 24) (s_iald dX5_giveBack_23) ?_
  refine sd_c (pc := 24) (f := i_u12 (fun x => x.toInt64) 25) (s_i2l dX5_giveBack_24) ?_
  refine sd_c (pc := 25) (f := i_al 1 26) (s_aln (i := 1) dX5_giveBack_25) ?_
  refine sd_c (pc := 26) (f := i_gf 5 0 29) (s_gf (ci := 5) (k := 0) dX5_giveBack_26 rfl in_X5 (by decide) w49) ?_
  refine sd_c (pc := 29) (f := i_il 5 31) (s_il dX5_giveBack_29) ?_
  refine sd_c (pc := 31) (f := i_ia 0 32) (s_iald dX5_giveBack_31) ?_
  refine sd_c (pc := 32) (f := i_u12 (fun x => x.toInt64) 33) (s_i2l dX5_giveBack_32) ?_
  refine sd_c (pc := 33) (f := i_bl (fun x z => x + z) 34) (s_ladd dX5_giveBack_33) ?_
  refine sd_c (pc := 34) (f := i_bl (fun x z => x + z) 35) (s_ladd dX5_giveBack_34) ?_
  refine sd_c (pc := 35) (f := i_ls 3 36) (s_lsn (i := 3) dX5_giveBack_35 (by decide)) ?_
  refine sd_c (pc := 36) (f := i_al 0 37) (s_aln (i := 0) dX5_giveBack_36) ?_
  refine sd_c (pc := 37) (f := i_gf 5 0 40) (s_gf (ci := 5) (k := 0) dX5_giveBack_37 rfl in_X5 (by decide) w49) ?_
  refine sd_c (pc := 40) (f := i_il 2 41) (s_iln (i := 2) dX5_giveBack_40) ?_
  refine sd_c (pc := 41) (f := i_il 5 43) (s_il dX5_giveBack_41) ?_
  refine sd_c (pc := 43) (f := i_bi (fun x z => x + z) 44) (s_iadd dX5_giveBack_43) ?_
  refine sd_c (pc := 44) (f := i_ll 3 45) (s_lln (i := 3) dX5_giveBack_44) ?_
  refine sd_c (pc := 45) (f := i_u21 (fun x => x.toInt32) 46) (s_l2i dX5_giveBack_45) ?_
  refine sd_c (pc := 46) (f := i_c (.int (2147483647)) 48) (s_ldc dX5_giveBack_46 w89) ?_
  refine sd_c (pc := 48) (f := i_bi (fun x z => x &&& z) 49) (s_iand dX5_giveBack_48) ?_
  refine sd_c (pc := 49) (f := i_ist 50) (s_ist dX5_giveBack_49) ?_
  refine sd_c (pc := 50) (f := i_ll 3 51) (s_lln (i := 3) dX5_giveBack_50) ?_
  refine sd_c (pc := 51) (f := i_c (.int (31)) 53) (s_bipush dX5_giveBack_51 (by decide)) ?_
  refine sd_c (pc := 53) (f := i_sl (fun x z => (x.toUInt64 >>> (z.toInt64.toUInt64 &&& Int64.toUInt64 63)).toInt64) 54) (s_lushr dX5_giveBack_53) ?_
  refine sd_c (pc := 54) (f := i_ls 3 55) (s_lsn (i := 3) dX5_giveBack_54 (by decide)) ?_
  refine sd_c (pc := 55) (f := i_inc 5 (1) 58) (s_inc dX5_giveBack_55 (by decide) (by decide)) ?_
  refine sd_c (pc := 58) (f := i_w [(5, [0, 1, 2, 3, 5])] (i_g 5)) (s_w (s_goto (tgt := 5) dX5_giveBack_58 (by decide))) ?_
  refine sd_c (pc := 61) (f := i_rv 0 0) (s_rv dX5_giveBack_61 rfl) ?_
  exact sd_n
noncomputable def f_X5_giveBack : List Value → me_M → Option sm_R := sd_f 6 T_X5_giveBack
theorem V_X5_giveBack : sd_V yX5_giveBack cX5_giveBack 6 none rm_X5_giveBack 2 f_X5_giveBack := ⟨sd_met A_X5_giveBack (by decide +kernel), w303, w4, by decide +kernel⟩
set_option maxRecDepth 20000 in
theorem e_X5_giveBack (x0 : Nat) (x1 : Nat) (x2 : Int32) (M : me_M) : f_X5_giveBack [.ref x0, .ref x1, .int x2] M = sm T_X5_giveBack (5, [(0, .ref x0), (1, .ref x1), (2, .int x2), (3, .long (0 : Int64)), (5, .int (0 : Int32))], [], M, 0, 0) := (show f_X5_giveBack [.ref x0, .ref x1, .int x2] M = sm T_X5_giveBack (0, [(0, .ref x0), (1, .ref x1), (2, .int x2)], [], M, 0, 0) from rfl).trans (by have hF := sm_fx A_X5_giveBack; generalize sm T_X5_giveBack = F_ at hF ⊢; exact (sm_h hF (f := i_c (.long (0)) 1) rfl).trans (q_c ((sm_h hF (f := i_ls 3 2) rfl).trans (q_ls (vl ((sm_h hF (f := i_c (.int (0)) 3) rfl).trans (q_c ((sm_h hF (f := i_w [(5, [0, 1, 2, 3, 5])] (i_is 5 5)) rfl).trans (q_w (q_is (vi (rfl))))))))))))
set_option maxRecDepth 20000 in
theorem e_X5_giveBack_5 (x0 : Nat) (x1 : Nat) (x2 : Int32) (x3 : Int64) (x5 : Int32) (M : me_M) : sm T_X5_giveBack (5, [(0, .ref x0), (1, .ref x1), (2, .int x2), (3, .long x3), (5, .int x5)], [], M, 0, 0) = (me_obj M 5 x1).bind fun f1 => (f1[1]?).bind fun w2 => (v_int w2).bind fun y3 => if y3 ≤ x5 then (if 0 ≤ 0 ∧ 0 ≤ 0 then some (none, M) else none) else (me_obj M 5 x0).bind fun f4 => (f4[0]?).bind fun w5 => (v_ref w5).bind fun a6 => (me_int M 0 a6).bind fun f7 => if (x2 + x5) < 0 ∨ f7.1 ≤ (x2 + x5).toNatClampNeg then (none) else (me_obj M 5 x1).bind fun f8 => (f8[0]?).bind fun w9 => (v_ref w9).bind fun a10 => (me_int M 0 a10).bind fun f11 => if x5 < 0 ∨ f11.1 ≤ x5.toNatClampNeg then (none) else (me_obj M 5 x0).bind fun f12 => (f12[0]?).bind fun w13 => (v_ref w13).bind fun a14 => (me_int M 0 a14).bind fun f15 => if (x2 + x5) < 0 ∨ f15.1 ≤ (x2 + x5).toNatClampNeg then (none) else sm T_X5_giveBack (5, [(0, .ref x0), (1, .ref x1), (2, .int x2), (3, .long (((x3 + (((f7.2 (x2 + x5).toNatClampNeg).toInt64) + ((f11.2 x5.toNatClampNeg).toInt64))).toUInt64 >>> ((31 : Int32).toInt64.toUInt64 &&& Int64.toUInt64 63)).toInt64)), (5, .int (x5 + (1)))], [], (me_set M a14 (.inl (0, f15.1, .inl (upd f15.2 (x2 + x5).toNatClampNeg (((x3 + (((f7.2 (x2 + x5).toNatClampNeg).toInt64) + ((f11.2 x5.toNatClampNeg).toInt64))).toInt32) &&& (2147483647 : Int32)))))), 0, 0) := (by have hF := sm_fx A_X5_giveBack; generalize sm T_X5_giveBack = F_ at hF ⊢; exact (sm_h hF (f := i_il 5 7) rfl).trans (q_il rfl ((sm_h hF (f := i_al 1 8) rfl).trans (q_al rfl ((sm_h hF (f := i_gf 5 1 11) rfl).trans (q_gf (vr (ob fun f1 => ob fun w2 => (sm_h hF (f := i_zz (fun x z => z ≤ x) 61 14) rfl).trans (q_zz (vi (ob fun y3 => ic ((sm_h hF (f := i_rv 0 0) rfl).trans (q_rv (rfl))) ((sm_h hF (f := i_ll 3 15) rfl).trans (q_ll rfl ((sm_h hF (f := i_al 0 16) rfl).trans (q_al rfl ((sm_h hF (f := i_gf 5 0 19) rfl).trans (q_gf (vr (ob fun f4 => ob fun w5 => (sm_h hF (f := i_il 2 20) rfl).trans (q_il rfl ((sm_h hF (f := i_il 5 22) rfl).trans (q_il rfl ((sm_h hF (f := i_bi (fun x z => x + z) 23) rfl).trans (q_bi (vi (vi ((sm_h hF (f := i_ia 0 24) rfl).trans (q_ia (vi (ob fun a6 => ob fun f7 => ic (rfl) ((sm_h hF (f := i_u12 (fun x => x.toInt64) 25) rfl).trans (q_u12 (vi ((sm_h hF (f := i_al 1 26) rfl).trans (q_al rfl ((sm_h hF (f := i_gf 5 0 29) rfl).trans (q_gf (vr (ob fun f8 => ob fun w9 => (sm_h hF (f := i_il 5 31) rfl).trans (q_il rfl ((sm_h hF (f := i_ia 0 32) rfl).trans (q_ia (vi (ob fun a10 => ob fun f11 => ic (rfl) ((sm_h hF (f := i_u12 (fun x => x.toInt64) 33) rfl).trans (q_u12 (vi ((sm_h hF (f := i_bl (fun x z => x + z) 34) rfl).trans (q_bl (vl (vl ((sm_h hF (f := i_bl (fun x z => x + z) 35) rfl).trans (q_bl (vl (vl ((sm_h hF (f := i_ls 3 36) rfl).trans (q_ls (vl ((sm_h hF (f := i_al 0 37) rfl).trans (q_al rfl ((sm_h hF (f := i_gf 5 0 40) rfl).trans (q_gf (vr (ob fun f12 => ob fun w13 => (sm_h hF (f := i_il 2 41) rfl).trans (q_il rfl ((sm_h hF (f := i_il 5 43) rfl).trans (q_il rfl ((sm_h hF (f := i_bi (fun x z => x + z) 44) rfl).trans (q_bi (vi (vi ((sm_h hF (f := i_ll 3 45) rfl).trans (q_ll rfl ((sm_h hF (f := i_u21 (fun x => x.toInt32) 46) rfl).trans (q_u21 (vl ((sm_h hF (f := i_c (.int (2147483647)) 48) rfl).trans (q_c ((sm_h hF (f := i_bi (fun x z => x &&& z) 49) rfl).trans (q_bi (vi (vi ((sm_h hF (f := i_ist 50) rfl).trans (q_ist (vi (vi (ob fun a14 => ob fun f15 => ic (rfl) ((sm_h hF (f := i_ll 3 51) rfl).trans (q_ll rfl ((sm_h hF (f := i_c (.int (31)) 53) rfl).trans (q_c ((sm_h hF (f := i_sl (fun x z => (x.toUInt64 >>> (z.toInt64.toUInt64 &&& Int64.toUInt64 63)).toInt64) 54) rfl).trans (q_sl (vl (vi ((sm_h hF (f := i_ls 3 55) rfl).trans (q_ls (vl ((sm_h hF (f := i_inc 5 (1) 58) rfl).trans (q_inc rfl ((sm_h hF (f := i_w [(5, [0, 1, 2, 3, 5])] (i_g 5)) rfl).trans (q_w (q_g (rfl))))))))))))))))))))))))))))))))))))))))))))))))))))))))))))))))))))))))))))))))))))))))))))))))))))))))
/-! X5_takeAway -/
abbrev rm_X5_takeAway : Room := { frames := 1, cells := 0, slots := 0, locals := 25 }
noncomputable def T_X5_takeAway : sm_T := [(0, i_ll 2 1), (1, i_c (.long (0)) 2), (2, i_lc 3), (3, i_z (fun x => x = 0) 6 8), (6, i_c (.int (0)) 7), (7, i_ri 0 0), (8, i_c (.long (0)) 9), (9, i_ls 5 11), (11, i_c (.int (0)) 12), (12, i_w [(14, [0, 1, 2, 4, 5, 7])] (i_is 7 14)), (14, i_il 7 16), (16, i_al 1 17), (17, i_gf 5 1 20), (20, i_zz (fun x z => z ≤ x) 96 23), (23, i_ll 5 25), (25, i_ll 2 26), (26, i_al 1 27), (27, i_gf 5 0 30), (30, i_il 7 32), (32, i_ia 0 33), (33, i_u12 (fun x => x.toInt64) 34), (34, i_bl (fun x z => x * z) 35), (35, i_bl (fun x z => x + z) 36), (36, i_ls 5 38), (38, i_al 0 39), (39, i_gf 5 0 42), (42, i_il 4 44), (44, i_il 7 46), (46, i_bi (fun x z => x + z) 47), (47, i_ia 0 48), (48, i_ll 5 50), (50, i_u21 (fun x => x.toInt32) 51), (51, i_c (.int (2147483647)) 53), (53, i_bi (fun x z => x &&& z) 54), (54, i_bi (fun x z => x - z) 55), (55, i_is 8 57), (57, i_ll 5 59), (59, i_c (.int (31)) 61), (61, i_sl (fun x z => (x.toUInt64 >>> (z.toInt64.toUInt64 &&& Int64.toUInt64 63)).toInt64) 62), (62, i_ls 5 64), (64, i_il 8 66), (66, i_w [(75, [0, 1, 2, 4, 5, 7, 8])] (i_z (fun x => 0 ≤ x) 75 69)), (69, i_ll 5 71), (71, i_c (.long (1)) 72), (72, i_bl (fun x z => x + z) 73), (73, i_w [(75, [0, 1, 2, 4, 5, 7, 8])] (i_ls 5 75)), (75, i_al 0 76), (76, i_gf 5 0 79), (79, i_il 4 81), (81, i_il 7 83), (83, i_bi (fun x z => x + z) 84), (84, i_il 8 86), (86, i_c (.int (2147483647)) 88), (88, i_bi (fun x z => x &&& z) 89), (89, i_ist 90), (90, i_inc 7 (1) 93), (93, i_w [(14, [0, 1, 2, 4, 5, 7])] (i_g 14)), (96, i_al 0 97), (97, i_gf 5 0 100), (100, i_il 4 102), (102, i_al 1 103), (103, i_gf 5 1 106), (106, i_bi (fun x z => x + z) 107), (107, i_ia 0 108), (108, i_u12 (fun x => x.toInt64) 109), (109, i_ll 5 111), (111, i_lc 112), (112, i_z (fun x => 0 ≤ x) 127 115), (115, i_al 0 116), (116, i_al 1 117), (117, i_il 4 119), (119, i_cv 5 3 0 f_X5_giveBack 0 0 0 0 122), (122, i_ll 2 123), (123, i_u21 (fun x => x.toInt32) 124), (124, i_c (.int (1)) 125), (125, i_bi (fun x z => x - z) 126), (126, i_ri 0 0), (127, i_ll 2 128), (128, i_u21 (fun x => x.toInt32) 129), (129, i_ri 0 0)]
set_option maxRecDepth 20000 in
theorem A_X5_takeAway : sd_A yX5_takeAway cX5_takeAway 9 (some .int) rm_X5_takeAway T_X5_takeAway := by
  refine sd_c (pc := 0) (f := i_ll 2 1) (s_lln (i := 2) dX5_takeAway_0) ?_
  refine sd_c (pc := 1) (f := i_c (.long (0)) 2) (s_lconst dX5_takeAway_1 (by decide)) ?_
  refine sd_c (pc := 2) (f := i_lc 3) (s_lcmp dX5_takeAway_2) ?_
  refine sd_c (pc := 3) (f := i_z (fun x => x = 0) 6 8) (s_if_ne (tgt := 8) dX5_takeAway_3 (by decide)) ?_
  refine sd_c (pc := 6) (f := i_c (.int (0)) 7) (s_iconst dX5_takeAway_6 (by decide)) ?_
  refine sd_c (pc := 7) (f := i_ri 0 0) (s_ri dX5_takeAway_7 rfl) ?_
  refine sd_c (pc := 8) (f := i_c (.long (0)) 9) (s_lconst dX5_takeAway_8 (by decide)) ?_
  refine sd_c (pc := 9) (f := i_ls 5 11) (s_ls (i := 5) dX5_takeAway_9 (by decide)) ?_
  refine sd_c (pc := 11) (f := i_c (.int (0)) 12) (s_iconst dX5_takeAway_11 (by decide)) ?_
  refine sd_c (pc := 12) (f := i_w [(14, [0, 1, 2, 4, 5, 7])] (i_is 7 14)) (s_w (s_is (i := 7) dX5_takeAway_12 (by decide))) ?_
  refine sd_c (pc := 14) (f := i_il 7 16) (s_il dX5_takeAway_14) ?_
  refine sd_c (pc := 16) (f := i_al 1 17) (s_aln (i := 1) dX5_takeAway_16) ?_
  refine sd_c (pc := 17) (f := i_gf 5 1 20) (s_gf (ci := 5) (k := 1) dX5_takeAway_17 rfl in_X5 (by decide) w52) ?_
  refine sd_c (pc := 20) (f := i_zz (fun x z => z ≤ x) 96 23) (s_ic_ge (tgt := 96) dX5_takeAway_20 (by decide)) ?_
  refine sd_c (pc := 23) (f := i_ll 5 25) (s_ll dX5_takeAway_23) ?_
  refine sd_c (pc := 25) (f := i_ll 2 26) (s_lln (i := 2) dX5_takeAway_25) ?_
  refine sd_c (pc := 26) (f := i_al 1 27) (s_aln (i := 1) dX5_takeAway_26) ?_
  refine sd_c (pc := 27) (f := i_gf 5 0 30) (s_gf (ci := 5) (k := 0) dX5_takeAway_27 rfl in_X5 (by decide) w49) ?_
  refine sd_c (pc := 30) (f := i_il 7 32) (s_il dX5_takeAway_30) ?_
  refine sd_c (pc := 32) (f := i_ia 0 33) (s_iald dX5_takeAway_32) ?_
  refine sd_c (pc := 33) (f := i_u12 (fun x => x.toInt64) 34) (s_i2l dX5_takeAway_33) ?_
  refine sd_c (pc := 34) (f := i_bl (fun x z => x * z) 35) (s_lmul dX5_takeAway_34) ?_
  refine sd_c (pc := 35) (f := i_bl (fun x z => x + z) 36) (s_ladd dX5_takeAway_35) ?_
  refine sd_c (pc := 36) (f := i_ls 5 38) (s_ls (i := 5) dX5_takeAway_36 (by decide)) ?_
  refine sd_c (pc := 38) (f := i_al 0 39) (s_aln (i := 0) dX5_takeAway_38) ?_
  refine sd_c (pc := 39) (f := i_gf 5 0 42) (s_gf (ci := 5) (k := 0) dX5_takeAway_39 rfl in_X5 (by decide) w49) ?_
  refine sd_c (pc := 42) (f := i_il 4 44) (s_il dX5_takeAway_42) ?_
  refine sd_c (pc := 44) (f := i_il 7 46) (s_il dX5_takeAway_44) ?_
  refine sd_c (pc := 46) (f := i_bi (fun x z => x + z) 47) (s_iadd dX5_takeAway_46) ?_
  refine sd_c (pc := 47) (f := i_ia 0 48) (s_iald dX5_takeAway_47) ?_
  refine sd_c (pc := 48) (f := i_ll 5 50) (s_ll dX5_takeAway_48) ?_
  refine sd_c (pc := 50) (f := i_u21 (fun x => x.toInt32) 51) (s_l2i dX5_takeAway_50) ?_
  refine sd_c (pc := 51) (f := i_c (.int (2147483647)) 53) (s_ldc dX5_takeAway_51 w89) ?_
  refine sd_c (pc := 53) (f := i_bi (fun x z => x &&& z) 54) (s_iand dX5_takeAway_53) ?_
  refine sd_c (pc := 54) (f := i_bi (fun x z => x - z) 55) (s_isub dX5_takeAway_54) ?_
  refine sd_c (pc := 55) (f := i_is 8 57) (s_is (i := 8) dX5_takeAway_55 (by decide)) ?_
  refine sd_c (pc := 57) (f := i_ll 5 59) (s_ll dX5_takeAway_57) ?_
  refine sd_c (pc := 59) (f := i_c (.int (31)) 61) (s_bipush dX5_takeAway_59 (by decide)) ?_
  refine sd_c (pc := 61) (f := i_sl (fun x z => (x.toUInt64 >>> (z.toInt64.toUInt64 &&& Int64.toUInt64 63)).toInt64) 62) (s_lushr dX5_takeAway_61) ?_
  refine sd_c (pc := 62) (f := i_ls 5 64) (s_ls (i := 5) dX5_takeAway_62 (by decide)) ?_
  refine sd_c (pc := 64) (f := i_il 8 66) (s_il dX5_takeAway_64) ?_
  refine sd_c (pc := 66) (f := i_w [(75, [0, 1, 2, 4, 5, 7, 8])] (i_z (fun x => 0 ≤ x) 75 69)) (s_w (s_if_ge (tgt := 75) dX5_takeAway_66 (by decide))) ?_
  refine sd_c (pc := 69) (f := i_ll 5 71) (s_ll dX5_takeAway_69) ?_
  refine sd_c (pc := 71) (f := i_c (.long (1)) 72) (s_lconst dX5_takeAway_71 (by decide)) ?_
  refine sd_c (pc := 72) (f := i_bl (fun x z => x + z) 73) (s_ladd dX5_takeAway_72) ?_
  refine sd_c (pc := 73) (f := i_w [(75, [0, 1, 2, 4, 5, 7, 8])] (i_ls 5 75)) (s_w (s_ls (i := 5) dX5_takeAway_73 (by decide))) ?_
  refine sd_c (pc := 75) (f := i_al 0 76) (s_aln (i := 0) dX5_takeAway_75) ?_
  refine sd_c (pc := 76) (f := i_gf 5 0 79) (s_gf (ci := 5) (k := 0) dX5_takeAway_76 rfl in_X5 (by decide) w49) ?_
  refine sd_c (pc := 79) (f := i_il 4 81) (s_il dX5_takeAway_79) ?_
  refine sd_c (pc := 81) (f := i_il 7 83) (s_il dX5_takeAway_81) ?_
  refine sd_c (pc := 83) (f := i_bi (fun x z => x + z) 84) (s_iadd dX5_takeAway_83) ?_
  refine sd_c (pc := 84) (f := i_il 8 86) (s_il dX5_takeAway_84) ?_
  refine sd_c (pc := 86) (f := i_c (.int (2147483647)) 88) (s_ldc dX5_takeAway_86 w89) ?_
  refine sd_c (pc := 88) (f := i_bi (fun x z => x &&& z) 89) (s_iand dX5_takeAway_88) ?_
  refine sd_c (pc := 89) (f := i_ist 90) (s_ist dX5_takeAway_89) ?_
  refine sd_c (pc := 90) (f := i_inc 7 (1) 93) (s_inc dX5_takeAway_90 (by decide) (by decide)) ?_
  refine sd_c (pc := 93) (f := i_w [(14, [0, 1, 2, 4, 5, 7])] (i_g 14)) (s_w (s_goto (tgt := 14) dX5_takeAway_93 (by decide))) ?_
  refine sd_c (pc := 96) (f := i_al 0 97) (s_aln (i := 0) dX5_takeAway_96) ?_
  refine sd_c (pc := 97) (f := i_gf 5 0 100) (s_gf (ci := 5) (k := 0) dX5_takeAway_97 rfl in_X5 (by decide) w49) ?_
  refine sd_c (pc := 100) (f := i_il 4 102) (s_il dX5_takeAway_100) ?_
  refine sd_c (pc := 102) (f := i_al 1 103) (s_aln (i := 1) dX5_takeAway_102) ?_
  refine sd_c (pc := 103) (f := i_gf 5 1 106) (s_gf (ci := 5) (k := 1) dX5_takeAway_103 rfl in_X5 (by decide) w52) ?_
  refine sd_c (pc := 106) (f := i_bi (fun x z => x + z) 107) (s_iadd dX5_takeAway_106) ?_
  refine sd_c (pc := 107) (f := i_ia 0 108) (s_iald dX5_takeAway_107) ?_
  refine sd_c (pc := 108) (f := i_u12 (fun x => x.toInt64) 109) (s_i2l dX5_takeAway_108) ?_
  refine sd_c (pc := 109) (f := i_ll 5 111) (s_ll dX5_takeAway_109) ?_
  refine sd_c (pc := 111) (f := i_lc 112) (s_lcmp dX5_takeAway_111) ?_
  refine sd_c (pc := 112) (f := i_z (fun x => 0 ≤ x) 127 115) (s_if_ge (tgt := 127) dX5_takeAway_112 (by decide)) ?_
  refine sd_c (pc := 115) (f := i_al 0 116) (s_aln (i := 0) dX5_takeAway_115) ?_
  refine sd_c (pc := 116) (f := i_al 1 117) (s_aln (i := 1) dX5_takeAway_116) ?_
  refine sd_c (pc := 117) (f := i_il 4 119) (s_il dX5_takeAway_117) ?_
  refine sd_c (pc := 119) (f := i_cv 5 3 0 f_X5_giveBack 0 0 0 0 122) (s_cv (np := 2) (rk := 0) (ci := 5) (rmz := rm_X5_giveBack) dX5_takeAway_119 V_X5_giveBack w300 w302 wS_PlanFractions_Whole_giveBack__LPlanFractions_Whole_I_V rfl (by decide)) ?_
  refine sd_c (pc := 122) (f := i_ll 2 123) (s_lln (i := 2) dX5_takeAway_122) ?_
  refine sd_c (pc := 123) (f := i_u21 (fun x => x.toInt32) 124) (s_l2i dX5_takeAway_123) ?_
  refine sd_c (pc := 124) (f := i_c (.int (1)) 125) (s_iconst dX5_takeAway_124 (by decide)) ?_
  refine sd_c (pc := 125) (f := i_bi (fun x z => x - z) 126) (s_isub dX5_takeAway_125) ?_
  refine sd_c (pc := 126) (f := i_ri 0 0) (s_ri dX5_takeAway_126 rfl) ?_
  refine sd_c (pc := 127) (f := i_ll 2 128) (s_lln (i := 2) dX5_takeAway_127) ?_
  refine sd_c (pc := 128) (f := i_u21 (fun x => x.toInt32) 129) (s_l2i dX5_takeAway_128) ?_
  refine sd_c (pc := 129) (f := i_ri 0 0) (s_ri dX5_takeAway_129 rfl) ?_
  exact sd_n
noncomputable def f_X5_takeAway : List Value → me_M → Option sm_R := sd_f 9 T_X5_takeAway
theorem V_X5_takeAway : sd_V yX5_takeAway cX5_takeAway 9 (some .int) rm_X5_takeAway 3 f_X5_takeAway := ⟨sd_met A_X5_takeAway (by decide +kernel), w299, w4, by decide +kernel⟩
set_option maxRecDepth 20000 in
theorem e_X5_takeAway (x0 : Nat) (x1 : Nat) (x2 : Int64) (x4 : Int32) (M : me_M) : f_X5_takeAway [.ref x0, .ref x1, .long x2, .int x4] M = if (lg_cmp x2 (0 : Int64)) = 0 then (if 0 ≤ 0 ∧ 0 ≤ 0 then some (some (.int (0 : Int32)), M) else none) else sm T_X5_takeAway (14, [(0, .ref x0), (1, .ref x1), (2, .long x2), (4, .int x4), (5, .long (0 : Int64)), (7, .int (0 : Int32))], [], M, 0, 0) := (show f_X5_takeAway [.ref x0, .ref x1, .long x2, .int x4] M = sm T_X5_takeAway (0, [(0, .ref x0), (1, .ref x1), (2, .long x2), (4, .int x4)], [], M, 0, 0) from rfl).trans (by have hF := sm_fx A_X5_takeAway; generalize sm T_X5_takeAway = F_ at hF ⊢; exact (sm_h hF (f := i_ll 2 1) rfl).trans (q_ll rfl ((sm_h hF (f := i_c (.long (0)) 2) rfl).trans (q_c ((sm_h hF (f := i_lc 3) rfl).trans (q_lc (vl (vl ((sm_h hF (f := i_z (fun x => x = 0) 6 8) rfl).trans (q_z (vi (ic ((sm_h hF (f := i_c (.int (0)) 7) rfl).trans (q_c ((sm_h hF (f := i_ri 0 0) rfl).trans (q_ri (vi (rfl)))))) ((sm_h hF (f := i_c (.long (0)) 9) rfl).trans (q_c ((sm_h hF (f := i_ls 5 11) rfl).trans (q_ls (vl ((sm_h hF (f := i_c (.int (0)) 12) rfl).trans (q_c ((sm_h hF (f := i_w [(14, [0, 1, 2, 4, 5, 7])] (i_is 7 14)) rfl).trans (q_w (q_is (vi (rfl))))))))))))))))))))))))
set_option maxRecDepth 20000 in
theorem e_X5_takeAway_14 (x0 : Nat) (x1 : Nat) (x2 : Int64) (x4 : Int32) (x5 : Int64) (x7 : Int32) (M : me_M) : sm T_X5_takeAway (14, [(0, .ref x0), (1, .ref x1), (2, .long x2), (4, .int x4), (5, .long x5), (7, .int x7)], [], M, 0, 0) = (me_obj M 5 x1).bind fun f1 => (f1[1]?).bind fun w2 => (v_int w2).bind fun y3 => if y3 ≤ x7 then ((me_obj M 5 x0).bind fun f4 => (f4[0]?).bind fun w5 => (me_obj M 5 x1).bind fun f6 => (f6[1]?).bind fun w7 => (v_int w7).bind fun y8 => (v_ref w5).bind fun a9 => (me_int M 0 a9).bind fun f10 => if (x4 + y8) < 0 ∨ f10.1 ≤ (x4 + y8).toNatClampNeg then (none) else if 0 ≤ (lg_cmp ((f10.2 (x4 + y8).toNatClampNeg).toInt64) x5) then (if 0 ≤ 0 ∧ 0 ≤ 0 then some (some (.int x2.toInt32), M) else none) else (me_obj M 5 x0).bind fun _ => (f_X5_giveBack [.ref x0, .ref x1, .int x4] M).bind fun r11 => cond r11.1.isNone (if 0 ≤ 0 ∧ 0 ≤ 0 then some (some (.int (x2.toInt32 - (1 : Int32))), r11.2) else none) none) else (me_obj M 5 x1).bind fun f12 => (f12[0]?).bind fun w13 => (v_ref w13).bind fun a14 => (me_int M 0 a14).bind fun f15 => if x7 < 0 ∨ f15.1 ≤ x7.toNatClampNeg then (none) else (me_obj M 5 x0).bind fun f16 => (f16[0]?).bind fun w17 => (v_ref w17).bind fun a18 => (me_int M 0 a18).bind fun f19 => if (x4 + x7) < 0 ∨ f19.1 ≤ (x4 + x7).toNatClampNeg then (none) else if 0 ≤ ((f19.2 (x4 + x7).toNatClampNeg) - (((x5 + (x2 * ((f15.2 x7.toNatClampNeg).toInt64))).toInt32) &&& (2147483647 : Int32))) then (sm T_X5_takeAway (75, [(0, .ref x0), (1, .ref x1), (2, .long x2), (4, .int x4), (5, .long (((x5 + (x2 * ((f15.2 x7.toNatClampNeg).toInt64))).toUInt64 >>> ((31 : Int32).toInt64.toUInt64 &&& Int64.toUInt64 63)).toInt64)), (7, .int x7), (8, .int ((f19.2 (x4 + x7).toNatClampNeg) - (((x5 + (x2 * ((f15.2 x7.toNatClampNeg).toInt64))).toInt32) &&& (2147483647 : Int32))))], [], M, 0, 0)) else sm T_X5_takeAway (75, [(0, .ref x0), (1, .ref x1), (2, .long x2), (4, .int x4), (5, .long ((((x5 + (x2 * ((f15.2 x7.toNatClampNeg).toInt64))).toUInt64 >>> ((31 : Int32).toInt64.toUInt64 &&& Int64.toUInt64 63)).toInt64) + (1 : Int64))), (7, .int x7), (8, .int ((f19.2 (x4 + x7).toNatClampNeg) - (((x5 + (x2 * ((f15.2 x7.toNatClampNeg).toInt64))).toInt32) &&& (2147483647 : Int32))))], [], M, 0, 0) := (by have hF := sm_fx A_X5_takeAway; generalize sm T_X5_takeAway = F_ at hF ⊢; exact (sm_h hF (f := i_il 7 16) rfl).trans (q_il rfl ((sm_h hF (f := i_al 1 17) rfl).trans (q_al rfl ((sm_h hF (f := i_gf 5 1 20) rfl).trans (q_gf (vr (ob fun f1 => ob fun w2 => (sm_h hF (f := i_zz (fun x z => z ≤ x) 96 23) rfl).trans (q_zz (vi (ob fun y3 => ic ((sm_h hF (f := i_al 0 97) rfl).trans (q_al rfl ((sm_h hF (f := i_gf 5 0 100) rfl).trans (q_gf (vr (ob fun f4 => ob fun w5 => (sm_h hF (f := i_il 4 102) rfl).trans (q_il rfl ((sm_h hF (f := i_al 1 103) rfl).trans (q_al rfl ((sm_h hF (f := i_gf 5 1 106) rfl).trans (q_gf (vr (ob fun f6 => ob fun w7 => (sm_h hF (f := i_bi (fun x z => x + z) 107) rfl).trans (q_bi (vi (ob fun y8 => (sm_h hF (f := i_ia 0 108) rfl).trans (q_ia (vi (ob fun a9 => ob fun f10 => ic (rfl) ((sm_h hF (f := i_u12 (fun x => x.toInt64) 109) rfl).trans (q_u12 (vi ((sm_h hF (f := i_ll 5 111) rfl).trans (q_ll rfl ((sm_h hF (f := i_lc 112) rfl).trans (q_lc (vl (vl ((sm_h hF (f := i_z (fun x => 0 ≤ x) 127 115) rfl).trans (q_z (vi (ic ((sm_h hF (f := i_ll 2 128) rfl).trans (q_ll rfl ((sm_h hF (f := i_u21 (fun x => x.toInt32) 129) rfl).trans (q_u21 (vl ((sm_h hF (f := i_ri 0 0) rfl).trans (q_ri (vi (rfl))))))))) ((sm_h hF (f := i_al 0 116) rfl).trans (q_al rfl ((sm_h hF (f := i_al 1 117) rfl).trans (q_al rfl ((sm_h hF (f := i_il 4 119) rfl).trans (q_il rfl ((sm_h hF (f := i_cv 5 3 0 f_X5_giveBack 0 0 0 0 122) rfl).trans (q_cv rfl rfl rfl (vr (ob fun _ => ob fun r11 => cT rfl (q_r0 (cg ((sm_h hF (f := i_ll 2 123) rfl).trans (q_ll rfl ((sm_h hF (f := i_u21 (fun x => x.toInt32) 124) rfl).trans (q_u21 (vl ((sm_h hF (f := i_c (.int (1)) 125) rfl).trans (q_c ((sm_h hF (f := i_bi (fun x z => x - z) 126) rfl).trans (q_bi (vi (vi ((sm_h hF (f := i_ri 0 0) rfl).trans (q_ri (vi (rfl))))))))))))))) rfl)))))))))))))))))))))))))))))))))))))))))))) ((sm_h hF (f := i_ll 5 25) rfl).trans (q_ll rfl ((sm_h hF (f := i_ll 2 26) rfl).trans (q_ll rfl ((sm_h hF (f := i_al 1 27) rfl).trans (q_al rfl ((sm_h hF (f := i_gf 5 0 30) rfl).trans (q_gf (vr (ob fun f12 => ob fun w13 => (sm_h hF (f := i_il 7 32) rfl).trans (q_il rfl ((sm_h hF (f := i_ia 0 33) rfl).trans (q_ia (vi (ob fun a14 => ob fun f15 => ic (rfl) ((sm_h hF (f := i_u12 (fun x => x.toInt64) 34) rfl).trans (q_u12 (vi ((sm_h hF (f := i_bl (fun x z => x * z) 35) rfl).trans (q_bl (vl (vl ((sm_h hF (f := i_bl (fun x z => x + z) 36) rfl).trans (q_bl (vl (vl ((sm_h hF (f := i_ls 5 38) rfl).trans (q_ls (vl ((sm_h hF (f := i_al 0 39) rfl).trans (q_al rfl ((sm_h hF (f := i_gf 5 0 42) rfl).trans (q_gf (vr (ob fun f16 => ob fun w17 => (sm_h hF (f := i_il 4 44) rfl).trans (q_il rfl ((sm_h hF (f := i_il 7 46) rfl).trans (q_il rfl ((sm_h hF (f := i_bi (fun x z => x + z) 47) rfl).trans (q_bi (vi (vi ((sm_h hF (f := i_ia 0 48) rfl).trans (q_ia (vi (ob fun a18 => ob fun f19 => ic (rfl) ((sm_h hF (f := i_ll 5 50) rfl).trans (q_ll rfl ((sm_h hF (f := i_u21 (fun x => x.toInt32) 51) rfl).trans (q_u21 (vl ((sm_h hF (f := i_c (.int (2147483647)) 53) rfl).trans (q_c ((sm_h hF (f := i_bi (fun x z => x &&& z) 54) rfl).trans (q_bi (vi (vi ((sm_h hF (f := i_bi (fun x z => x - z) 55) rfl).trans (q_bi (vi (vi ((sm_h hF (f := i_is 8 57) rfl).trans (q_is (vi ((sm_h hF (f := i_ll 5 59) rfl).trans (q_ll rfl ((sm_h hF (f := i_c (.int (31)) 61) rfl).trans (q_c ((sm_h hF (f := i_sl (fun x z => (x.toUInt64 >>> (z.toInt64.toUInt64 &&& Int64.toUInt64 63)).toInt64) 62) rfl).trans (q_sl (vl (vi ((sm_h hF (f := i_ls 5 64) rfl).trans (q_ls (vl ((sm_h hF (f := i_il 8 66) rfl).trans (q_il rfl ((sm_h hF (f := i_w [(75, [0, 1, 2, 4, 5, 7, 8])] (i_z (fun x => 0 ≤ x) 75 69)) rfl).trans (q_w (q_z (vi (ic (rfl) ((sm_h hF (f := i_ll 5 71) rfl).trans (q_ll rfl ((sm_h hF (f := i_c (.long (1)) 72) rfl).trans (q_c ((sm_h hF (f := i_bl (fun x z => x + z) 73) rfl).trans (q_bl (vl (vl ((sm_h hF (f := i_w [(75, [0, 1, 2, 4, 5, 7, 8])] (i_ls 5 75)) rfl).trans (q_w (q_ls (vl (rfl))))))))))))))))))))))))))))))))))))))))))))))))))))))))))))))))))))))))))))))))))))))))))))))))))))))))))
set_option maxRecDepth 20000 in
theorem e_X5_takeAway_75 (x0 : Nat) (x1 : Nat) (x2 : Int64) (x4 : Int32) (x5 : Int64) (x7 : Int32) (x8 : Int32) (M : me_M) : sm T_X5_takeAway (75, [(0, .ref x0), (1, .ref x1), (2, .long x2), (4, .int x4), (5, .long x5), (7, .int x7), (8, .int x8)], [], M, 0, 0) = (me_obj M 5 x0).bind fun f1 => (f1[0]?).bind fun w2 => (v_ref w2).bind fun a3 => (me_int M 0 a3).bind fun f4 => if (x4 + x7) < 0 ∨ f4.1 ≤ (x4 + x7).toNatClampNeg then (none) else sm T_X5_takeAway (14, [(0, .ref x0), (1, .ref x1), (2, .long x2), (4, .int x4), (5, .long x5), (7, .int (x7 + (1)))], [], (me_set M a3 (.inl (0, f4.1, .inl (upd f4.2 (x4 + x7).toNatClampNeg (x8 &&& (2147483647 : Int32)))))), 0, 0) := (by have hF := sm_fx A_X5_takeAway; generalize sm T_X5_takeAway = F_ at hF ⊢; exact (sm_h hF (f := i_al 0 76) rfl).trans (q_al rfl ((sm_h hF (f := i_gf 5 0 79) rfl).trans (q_gf (vr (ob fun f1 => ob fun w2 => (sm_h hF (f := i_il 4 81) rfl).trans (q_il rfl ((sm_h hF (f := i_il 7 83) rfl).trans (q_il rfl ((sm_h hF (f := i_bi (fun x z => x + z) 84) rfl).trans (q_bi (vi (vi ((sm_h hF (f := i_il 8 86) rfl).trans (q_il rfl ((sm_h hF (f := i_c (.int (2147483647)) 88) rfl).trans (q_c ((sm_h hF (f := i_bi (fun x z => x &&& z) 89) rfl).trans (q_bi (vi (vi ((sm_h hF (f := i_ist 90) rfl).trans (q_ist (vi (vi (ob fun a3 => ob fun f4 => ic (rfl) ((sm_h hF (f := i_inc 7 (1) 93) rfl).trans (q_inc rfl ((sm_h hF (f := i_w [(14, [0, 1, 2, 4, 5, 7])] (i_g 14)) rfl).trans (q_w (q_g (rfl))))))))))))))))))))))))))))))))
/-! X5_divide -/
abbrev rm_X5_divide : Room := { frames := 2, cells := 0, slots := 0, locals := 81 }
noncomputable def T_X5_divide : sm_T := [(0, i_al 2 1), (1, i_c (.int (0)) 2), (2, i_pi 5 1 5), (5, i_al 1 6), (6, i_gf 5 1 9), (9, i_z (fun x => x = 0) 23 12), (12, i_al 0 13), (13, i_gf 5 1 16), (16, i_al 1 17), (17, i_gf 5 1 20), (20, i_zz (fun x z => z ≤ x) 24 23), (23, i_rv 0 0), (24, i_al 1 25), (25, i_gf 5 1 28), (28, i_c (.int (1)) 29), (29, i_zz (fun x z => x = z) 32 63), (32, i_al 2 33), (33, i_al 0 34), (34, i_cv 5 2 0 f_X5_copy 0 0 0 0 37), (37, i_al 0 38), (38, i_gf 5 0 41), (41, i_c (.int (0)) 42), (42, i_al 2 43), (43, i_al 1 44), (44, i_gf 5 0 47), (47, i_c (.int (0)) 48), (48, i_ia 0 49), (49, i_cv 5 2 1 f_X5_shrink 0 0 0 0 52), (52, i_w [(53, [0])] (i_ist 53)), (53, i_al 0 54), (54, i_c (.int (1)) 55), (55, i_pi 5 1 58), (58, i_al 0 59), (59, i_cv 5 1 0 f_X5_trim 0 0 0 0 62), (62, i_rv 0 0), (63, i_al 0 64), (64, i_gf 5 1 67), (67, i_al 1 68), (68, i_gf 5 1 71), (71, i_bi (fun x z => x - z) 72), (72, i_is 3 73), (73, i_al 1 74), (74, i_cv 5 1 1 f_X5_freeBits 0 0 0 0 77), (77, i_is 4 79), (79, i_al 1 80), (80, i_al 1 81), (81, i_gf 5 1 84), (84, i_c (.int (1)) 85), (85, i_bi (fun x z => x - z) 86), (86, i_il 4 88), (88, i_w [(91, [0, 1, 2, 3, 4])] (i_cv 5 3 2 f_X5_twoLimbs 0 0 0 0 91)), (91, i_ls 5 93), (93, i_al 0 94), (94, i_gf 5 0 97), (97, i_al 0 98), (98, i_gf 5 1 101), (101, i_c (.int (0)) 102), (102, i_ist 103), (103, i_al 0 104), (104, i_dup 105), (105, i_gf 5 1 108), (108, i_c (.int (1)) 109), (109, i_bi (fun x z => x + z) 110), (110, i_pi 5 1 113), (113, i_il 3 114), (114, i_w [(116, [0, 1, 2, 3, 4, 5, 7])] (i_is 7 116)), (116, i_il 7 118), (118, i_z (fun x => x < 0) 189 121), (121, i_al 0 122), (122, i_il 7 124), (124, i_al 1 125), (125, i_gf 5 1 128), (128, i_bi (fun x z => x + z) 129), (129, i_il 4 131), (131, i_cv 5 3 2 f_X5_twoLimbs 0 0 0 0 134), (134, i_ls 8 136), (136, i_al 0 137), (137, i_il 7 139), (139, i_al 1 140), (140, i_gf 5 1 143), (143, i_bi (fun x z => x + z) 144), (144, i_c (.int (2)) 145), (145, i_bi (fun x z => x - z) 146), (146, i_il 4 148), (148, i_cv 5 3 2 f_X5_twoLimbs 0 0 0 0 151), (151, i_c (.int (31)) 153), (153, i_sl (fun x z => (x.toUInt64 >>> (z.toInt64.toUInt64 &&& Int64.toUInt64 63)).toInt64) 154), (154, i_c (.long (2147483647)) 157), (157, i_bl (fun x z => x &&& z) 158), (158, i_ls 10 160), (160, i_al 2 161), (161, i_gf 5 0 164), (164, i_il 7 166), (166, i_al 0 167), (167, i_al 1 168), (168, i_ll 8 170), (170, i_ll 10 172), (172, i_ll 5 174), (174, i_cs 3 2 f_X5_guess 0 0 0 0 177), (177, i_il 7 179), (179, i_w [(182, [0, 1, 2, 3, 4, 5, 7])] (i_cv 5 4 1 f_X5_takeAway 0 0 0 0 182)), (182, i_ist 183), (183, i_inc 7 (-1) 186), (186, i_w [(116, [0, 1, 2, 3, 4, 5, 7])] (i_g 116)), (189, i_al 2 190), (190, i_il 3 191), (191, i_c (.int (1)) 192), (192, i_bi (fun x z => x + z) 193), (193, i_pi 5 1 196), (196, i_al 2 197), (197, i_cv 5 1 0 f_X5_trim 0 0 0 0 200), (200, i_al 0 201), (201, i_al 1 202), (202, i_gf 5 1 205), (205, i_w [(208, [0])] (i_pi 5 1 208)), (208, i_al 0 209), (209, i_cv 5 1 0 f_X5_trim 0 0 0 0 212), (212, i_rv 0 0)]
set_option maxRecDepth 20000 in
theorem A_X5_divide : sd_A yX5_divide cX5_divide 12 none rm_X5_divide T_X5_divide := by
  refine sd_c (pc := 0) (f := i_al 2 1) (s_aln (i := 2) dX5_divide_0) ?_
  refine sd_c (pc := 1) (f := i_c (.int (0)) 2) (s_iconst dX5_divide_1 (by decide)) ?_
  refine sd_c (pc := 2) (f := i_pi 5 1 5) (s_pi (ci := 5) (k := 1) dX5_divide_2 rfl in_X5 tyX5_ok nmX5 (by decide) w52 (Or.inl rfl) rfl) ?_
  refine sd_c (pc := 5) (f := i_al 1 6) (s_aln (i := 1) dX5_divide_5) ?_
  refine sd_c (pc := 6) (f := i_gf 5 1 9) (s_gf (ci := 5) (k := 1) dX5_divide_6 rfl in_X5 (by decide) w52) ?_
  refine sd_c (pc := 9) (f := i_z (fun x => x = 0) 23 12) (s_if_eq (tgt := 23) dX5_divide_9 (by decide)) ?_
  refine sd_c (pc := 12) (f := i_al 0 13) (s_aln (i := 0) dX5_divide_12) ?_
  refine sd_c (pc := 13) (f := i_gf 5 1 16) (s_gf (ci := 5) (k := 1) dX5_divide_13 rfl in_X5 (by decide) w52) ?_
  refine sd_c (pc := 16) (f := i_al 1 17) (s_aln (i := 1) dX5_divide_16) ?_
  refine sd_c (pc := 17) (f := i_gf 5 1 20) (s_gf (ci := 5) (k := 1) dX5_divide_17 rfl in_X5 (by decide) w52) ?_
  refine sd_c (pc := 20) (f := i_zz (fun x z => z ≤ x) 24 23) (s_ic_ge (tgt := 24) dX5_divide_20 (by decide)) ?_
  refine sd_c (pc := 23) (f := i_rv 0 0) (s_rv dX5_divide_23 rfl) ?_
  refine sd_c (pc := 24) (f := i_al 1 25) (s_aln (i := 1) dX5_divide_24) ?_
  refine sd_c (pc := 25) (f := i_gf 5 1 28) (s_gf (ci := 5) (k := 1) dX5_divide_25 rfl in_X5 (by decide) w52) ?_
  refine sd_c (pc := 28) (f := i_c (.int (1)) 29) (s_iconst dX5_divide_28 (by decide)) ?_
  refine sd_c (pc := 29) (f := i_zz (fun x z => x = z) 32 63) (s_ic_ne (tgt := 63) dX5_divide_29 (by decide)) ?_
  refine sd_c (pc := 32) (f := i_al 2 33) (s_aln (i := 2) dX5_divide_32) ?_
  refine sd_c (pc := 33) (f := i_al 0 34) (s_aln (i := 0) dX5_divide_33) ?_
  refine sd_c (pc := 34) (f := i_cv 5 2 0 f_X5_copy 0 0 0 0 37) (s_cv (np := 1) (rk := 0) (ci := 5) (rmz := rm_X5_copy) dX5_divide_34 V_X5_copy w282 w243 w244 rfl (by decide)) ?_
  refine sd_c (pc := 37) (f := i_al 0 38) (s_aln (i := 0) dX5_divide_37) ?_
  refine sd_c (pc := 38) (f := i_gf 5 0 41) (s_gf (ci := 5) (k := 0) dX5_divide_38 rfl in_X5 (by decide) w49) ?_
  refine sd_c (pc := 41) (f := i_c (.int (0)) 42) (s_iconst dX5_divide_41 (by decide)) ?_
  refine sd_c (pc := 42) (f := i_al 2 43) (s_aln (i := 2) dX5_divide_42) ?_
  refine sd_c (pc := 43) (f := i_al 1 44) (s_aln (i := 1) dX5_divide_43) ?_
  refine sd_c (pc := 44) (f := i_gf 5 0 47) (s_gf (ci := 5) (k := 0) dX5_divide_44 rfl in_X5 (by decide) w49) ?_
  refine sd_c (pc := 47) (f := i_c (.int (0)) 48) (s_iconst dX5_divide_47 (by decide)) ?_
  refine sd_c (pc := 48) (f := i_ia 0 49) (s_iald dX5_divide_48) ?_
  refine sd_c (pc := 49) (f := i_cv 5 2 1 f_X5_shrink 0 0 0 0 52) (s_cv (np := 1) (rk := 1) (ci := 5) (rmz := rm_X5_shrink) dX5_divide_49 V_X5_shrink w283 w284 w285 rfl (by decide)) ?_
  refine sd_c (pc := 52) (f := i_w [(53, [0])] (i_ist 53)) (s_w (s_ist dX5_divide_52)) ?_
  refine sd_c (pc := 53) (f := i_al 0 54) (s_aln (i := 0) dX5_divide_53) ?_
  refine sd_c (pc := 54) (f := i_c (.int (1)) 55) (s_iconst dX5_divide_54 (by decide)) ?_
  refine sd_c (pc := 55) (f := i_pi 5 1 58) (s_pi (ci := 5) (k := 1) dX5_divide_55 rfl in_X5 tyX5_ok nmX5 (by decide) w52 (Or.inl rfl) rfl) ?_
  refine sd_c (pc := 58) (f := i_al 0 59) (s_aln (i := 0) dX5_divide_58) ?_
  refine sd_c (pc := 59) (f := i_cv 5 1 0 f_X5_trim 0 0 0 0 62) (s_cv (np := 0) (rk := 0) (ci := 5) (rmz := rm_X5_trim) dX5_divide_59 V_X5_trim w90 w91 w92 rfl (by decide)) ?_
  refine sd_c (pc := 62) (f := i_rv 0 0) (s_rv dX5_divide_62 rfl) ?_
  refine sd_c (pc := 63) (f := i_al 0 64) (s_aln (i := 0) dX5_divide_63) ?_
  refine sd_c (pc := 64) (f := i_gf 5 1 67) (s_gf (ci := 5) (k := 1) dX5_divide_64 rfl in_X5 (by decide) w52) ?_
  refine sd_c (pc := 67) (f := i_al 1 68) (s_aln (i := 1) dX5_divide_67) ?_
  refine sd_c (pc := 68) (f := i_gf 5 1 71) (s_gf (ci := 5) (k := 1) dX5_divide_68 rfl in_X5 (by decide) w52) ?_
  refine sd_c (pc := 71) (f := i_bi (fun x z => x - z) 72) (s_isub dX5_divide_71) ?_
  refine sd_c (pc := 72) (f := i_is 3 73) (s_isn (i := 3) dX5_divide_72 (by decide)) ?_
  refine sd_c (pc := 73) (f := i_al 1 74) (s_aln (i := 1) dX5_divide_73) ?_
  refine sd_c (pc := 74) (f := i_cv 5 1 1 f_X5_freeBits 0 0 0 0 77) (s_cv (np := 0) (rk := 1) (ci := 5) (rmz := rm_X5_freeBits) dX5_divide_74 V_X5_freeBits w287 w254 w255 rfl (by decide)) ?_
  refine sd_c (pc := 77) (f := i_is 4 79) (s_is (i := 4) dX5_divide_77 (by decide)) ?_
  refine sd_c (pc := 79) (f := i_al 1 80) (s_aln (i := 1) dX5_divide_79) ?_
  refine sd_c (pc := 80) (f := i_al 1 81) (s_aln (i := 1) dX5_divide_80) ?_
  refine sd_c (pc := 81) (f := i_gf 5 1 84) (s_gf (ci := 5) (k := 1) dX5_divide_81 rfl in_X5 (by decide) w52) ?_
  refine sd_c (pc := 84) (f := i_c (.int (1)) 85) (s_iconst dX5_divide_84 (by decide)) ?_
  refine sd_c (pc := 85) (f := i_bi (fun x z => x - z) 86) (s_isub dX5_divide_85) ?_
  refine sd_c (pc := 86) (f := i_il 4 88) (s_il dX5_divide_86) ?_
  refine sd_c (pc := 88) (f := i_w [(91, [0, 1, 2, 3, 4])] (i_cv 5 3 2 f_X5_twoLimbs 0 0 0 0 91)) (s_w (s_cv (np := 2) (rk := 2) (ci := 5) (rmz := rm_X5_twoLimbs) dX5_divide_88 V_X5_twoLimbs w288 w262 w263 rfl (by decide))) ?_
  refine sd_c (pc := 91) (f := i_ls 5 93) (s_ls (i := 5) dX5_divide_91 (by decide)) ?_
  refine sd_c (pc := 93) (f := i_al 0 94) (s_aln (i := 0) dX5_divide_93) ?_
  refine sd_c (pc := 94) (f := i_gf 5 0 97) (s_gf (ci := 5) (k := 0) dX5_divide_94 rfl in_X5 (by decide) w49) ?_
  refine sd_c (pc := 97) (f := i_al 0 98) (s_aln (i := 0) dX5_divide_97) ?_
  refine sd_c (pc := 98) (f := i_gf 5 1 101) (s_gf (ci := 5) (k := 1) dX5_divide_98 rfl in_X5 (by decide) w52) ?_
  refine sd_c (pc := 101) (f := i_c (.int (0)) 102) (s_iconst dX5_divide_101 (by decide)) ?_
  refine sd_c (pc := 102) (f := i_ist 103) (s_ist dX5_divide_102) ?_
  refine sd_c (pc := 103) (f := i_al 0 104) (s_aln (i := 0) dX5_divide_103) ?_
  refine sd_c (pc := 104) (f := i_dup 105) (s_dup dX5_divide_104) ?_
  refine sd_c (pc := 105) (f := i_gf 5 1 108) (s_gf (ci := 5) (k := 1) dX5_divide_105 rfl in_X5 (by decide) w52) ?_
  refine sd_c (pc := 108) (f := i_c (.int (1)) 109) (s_iconst dX5_divide_108 (by decide)) ?_
  refine sd_c (pc := 109) (f := i_bi (fun x z => x + z) 110) (s_iadd dX5_divide_109) ?_
  refine sd_c (pc := 110) (f := i_pi 5 1 113) (s_pi (ci := 5) (k := 1) dX5_divide_110 rfl in_X5 tyX5_ok nmX5 (by decide) w52 (Or.inl rfl) rfl) ?_
  refine sd_c (pc := 113) (f := i_il 3 114) (s_iln (i := 3) dX5_divide_113) ?_
  refine sd_c (pc := 114) (f := i_w [(116, [0, 1, 2, 3, 4, 5, 7])] (i_is 7 116)) (s_w (s_is (i := 7) dX5_divide_114 (by decide))) ?_
  refine sd_c (pc := 116) (f := i_il 7 118) (s_il dX5_divide_116) ?_
  refine sd_c (pc := 118) (f := i_z (fun x => x < 0) 189 121) (s_if_lt (tgt := 189) dX5_divide_118 (by decide)) ?_
  refine sd_c (pc := 121) (f := i_al 0 122) (s_aln (i := 0) dX5_divide_121) ?_
  refine sd_c (pc := 122) (f := i_il 7 124) (s_il dX5_divide_122) ?_
  refine sd_c (pc := 124) (f := i_al 1 125) (s_aln (i := 1) dX5_divide_124) ?_
  refine sd_c (pc := 125) (f := i_gf 5 1 128) (s_gf (ci := 5) (k := 1) dX5_divide_125 rfl in_X5 (by decide) w52) ?_
  refine sd_c (pc := 128) (f := i_bi (fun x z => x + z) 129) (s_iadd dX5_divide_128) ?_
  refine sd_c (pc := 129) (f := i_il 4 131) (s_il dX5_divide_129) ?_
  refine sd_c (pc := 131) (f := i_cv 5 3 2 f_X5_twoLimbs 0 0 0 0 134) (s_cv (np := 2) (rk := 2) (ci := 5) (rmz := rm_X5_twoLimbs) dX5_divide_131 V_X5_twoLimbs w288 w262 w263 rfl (by decide)) ?_
  refine sd_c (pc := 134) (f := i_ls 8 136) (s_ls (i := 8) dX5_divide_134 (by decide)) ?_
  refine sd_c (pc := 136) (f := i_al 0 137) (s_aln (i := 0) dX5_divide_136) ?_
  refine sd_c (pc := 137) (f := i_il 7 139) (s_il dX5_divide_137) ?_
  refine sd_c (pc := 139) (f := i_al 1 140) (s_aln (i := 1) dX5_divide_139) ?_
  refine sd_c (pc := 140) (f := i_gf 5 1 143) (s_gf (ci := 5) (k := 1) dX5_divide_140 rfl in_X5 (by decide) w52) ?_
  refine sd_c (pc := 143) (f := i_bi (fun x z => x + z) 144) (s_iadd dX5_divide_143) ?_
  refine sd_c (pc := 144) (f := i_c (.int (2)) 145) (s_iconst dX5_divide_144 (by decide)) ?_
  refine sd_c (pc := 145) (f := i_bi (fun x z => x - z) 146) (s_isub dX5_divide_145) ?_
  refine sd_c (pc := 146) (f := i_il 4 148) (s_il dX5_divide_146) ?_
  refine sd_c (pc := 148) (f := i_cv 5 3 2 f_X5_twoLimbs 0 0 0 0 151) (s_cv (np := 2) (rk := 2) (ci := 5) (rmz := rm_X5_twoLimbs) dX5_divide_148 V_X5_twoLimbs w288 w262 w263 rfl (by decide)) ?_
  refine sd_c (pc := 151) (f := i_c (.int (31)) 153) (s_bipush dX5_divide_151 (by decide)) ?_
  refine sd_c (pc := 153) (f := i_sl (fun x z => (x.toUInt64 >>> (z.toInt64.toUInt64 &&& Int64.toUInt64 63)).toInt64) 154) (s_lushr dX5_divide_153) ?_
  refine sd_c (pc := 154) (f := i_c (.long (2147483647)) 157) (s_ldc2 dX5_divide_154 w289) ?_
  refine sd_c (pc := 157) (f := i_bl (fun x z => x &&& z) 158) (s_land dX5_divide_157) ?_
  refine sd_c (pc := 158) (f := i_ls 10 160) (s_ls (i := 10) dX5_divide_158 (by decide)) ?_
  refine sd_c (pc := 160) (f := i_al 2 161) (s_aln (i := 2) dX5_divide_160) ?_
  refine sd_c (pc := 161) (f := i_gf 5 0 164) (s_gf (ci := 5) (k := 0) dX5_divide_161 rfl in_X5 (by decide) w49) ?_
  refine sd_c (pc := 164) (f := i_il 7 166) (s_il dX5_divide_164) ?_
  refine sd_c (pc := 166) (f := i_al 0 167) (s_aln (i := 0) dX5_divide_166) ?_
  refine sd_c (pc := 167) (f := i_al 1 168) (s_aln (i := 1) dX5_divide_167) ?_
  refine sd_c (pc := 168) (f := i_ll 8 170) (s_ll dX5_divide_168) ?_
  refine sd_c (pc := 170) (f := i_ll 10 172) (s_ll dX5_divide_170) ?_
  refine sd_c (pc := 172) (f := i_ll 5 174) (s_ll dX5_divide_172) ?_
  refine sd_c (pc := 174) (f := i_cs 3 2 f_X5_guess 0 0 0 0 177) (s_cs (np := 3) (rk := 2) (rmz := rm_X5_guess) dX5_divide_174 V_X5_guess w290 w291 (by decide)) ?_
  refine sd_c (pc := 177) (f := i_il 7 179) (s_il dX5_divide_177) ?_
  refine sd_c (pc := 179) (f := i_w [(182, [0, 1, 2, 3, 4, 5, 7])] (i_cv 5 4 1 f_X5_takeAway 0 0 0 0 182)) (s_w (s_cv (np := 3) (rk := 1) (ci := 5) (rmz := rm_X5_takeAway) dX5_divide_179 V_X5_takeAway w296 w298 wS_PlanFractions_Whole_takeAway__LPlanFractions_Whole_JI_I rfl (by decide))) ?_
  refine sd_c (pc := 182) (f := i_ist 183) (s_ist dX5_divide_182) ?_
  refine sd_c (pc := 183) (f := i_inc 7 (-1) 186) (s_inc dX5_divide_183 (by decide) (by decide)) ?_
  refine sd_c (pc := 186) (f := i_w [(116, [0, 1, 2, 3, 4, 5, 7])] (i_g 116)) (s_w (s_goto (tgt := 116) dX5_divide_186 (by decide))) ?_
  refine sd_c (pc := 189) (f := i_al 2 190) (s_aln (i := 2) dX5_divide_189) ?_
  refine sd_c (pc := 190) (f := i_il 3 191) (s_iln (i := 3) dX5_divide_190) ?_
  refine sd_c (pc := 191) (f := i_c (.int (1)) 192) (s_iconst dX5_divide_191 (by decide)) ?_
  refine sd_c (pc := 192) (f := i_bi (fun x z => x + z) 193) (s_iadd dX5_divide_192) ?_
  refine sd_c (pc := 193) (f := i_pi 5 1 196) (s_pi (ci := 5) (k := 1) dX5_divide_193 rfl in_X5 tyX5_ok nmX5 (by decide) w52 (Or.inl rfl) rfl) ?_
  refine sd_c (pc := 196) (f := i_al 2 197) (s_aln (i := 2) dX5_divide_196) ?_
  refine sd_c (pc := 197) (f := i_cv 5 1 0 f_X5_trim 0 0 0 0 200) (s_cv (np := 0) (rk := 0) (ci := 5) (rmz := rm_X5_trim) dX5_divide_197 V_X5_trim w90 w91 w92 rfl (by decide)) ?_
  refine sd_c (pc := 200) (f := i_al 0 201) (s_aln (i := 0) dX5_divide_200) ?_
  refine sd_c (pc := 201) (f := i_al 1 202) (s_aln (i := 1) dX5_divide_201) ?_
  refine sd_c (pc := 202) (f := i_gf 5 1 205) (s_gf (ci := 5) (k := 1) dX5_divide_202 rfl in_X5 (by decide) w52) ?_
  refine sd_c (pc := 205) (f := i_w [(208, [0])] (i_pi 5 1 208)) (s_w (s_pi (ci := 5) (k := 1) dX5_divide_205 rfl in_X5 tyX5_ok nmX5 (by decide) w52 (Or.inl rfl) rfl)) ?_
  refine sd_c (pc := 208) (f := i_al 0 209) (s_aln (i := 0) dX5_divide_208) ?_
  refine sd_c (pc := 209) (f := i_cv 5 1 0 f_X5_trim 0 0 0 0 212) (s_cv (np := 0) (rk := 0) (ci := 5) (rmz := rm_X5_trim) dX5_divide_209 V_X5_trim w90 w91 w92 rfl (by decide)) ?_
  refine sd_c (pc := 212) (f := i_rv 0 0) (s_rv dX5_divide_212 rfl) ?_
  exact sd_n
noncomputable def f_X5_divide : List Value → me_M → Option sm_R := sd_f 12 T_X5_divide
theorem V_X5_divide : sd_V yX5_divide cX5_divide 12 none rm_X5_divide 2 f_X5_divide := ⟨sd_met A_X5_divide (by decide +kernel), w281, w4, by decide +kernel⟩
set_option maxRecDepth 20000 in
theorem e_X5_divide (x0 : Nat) (x1 : Nat) (x2 : Nat) (M : me_M) : f_X5_divide [.ref x0, .ref x1, .ref x2] M = (me_obj M 5 x2).bind fun f1 => if 1 < f1.length then ((me_obj (me_set M x2 (.inr (5, f1.set 1 (.int (0 : Int32))))) 5 x1).bind fun f2 => (f2[1]?).bind fun w3 => (v_int w3).bind fun y4 => if y4 = 0 then (if 0 ≤ 0 ∧ 0 ≤ 0 then some (none, (me_set M x2 (.inr (5, f1.set 1 (.int (0 : Int32)))))) else none) else (me_obj (me_set M x2 (.inr (5, f1.set 1 (.int (0 : Int32))))) 5 x0).bind fun f5 => (f5[1]?).bind fun w6 => (me_obj (me_set M x2 (.inr (5, f1.set 1 (.int (0 : Int32))))) 5 x1).bind fun f7 => (f7[1]?).bind fun w8 => (v_int w6).bind fun y9 => (v_int w8).bind fun y10 => if y10 ≤ y9 then ((me_obj (me_set M x2 (.inr (5, f1.set 1 (.int (0 : Int32))))) 5 x1).bind fun f11 => (f11[1]?).bind fun w12 => (v_int w12).bind fun y13 => if y13 = (1 : Int32) then ((me_obj (me_set M x2 (.inr (5, f1.set 1 (.int (0 : Int32))))) 5 x2).bind fun _ => (f_X5_copy [.ref x2, .ref x0] (me_set M x2 (.inr (5, f1.set 1 (.int (0 : Int32)))))).bind fun r29 => cond r29.1.isNone ((me_obj r29.2 5 x0).bind fun f30 => (f30[0]?).bind fun w31 => (me_obj r29.2 5 x1).bind fun f32 => (f32[0]?).bind fun w33 => (v_ref w33).bind fun a34 => (me_int r29.2 0 a34).bind fun f35 => if (0 : Int32) < 0 ∨ f35.1 ≤ (0 : Int32).toNatClampNeg then (none) else (me_obj r29.2 5 x2).bind fun _ => (f_X5_shrink [.ref x2, .int (f35.2 (0 : Int32).toNatClampNeg)] r29.2).bind fun r36 => r36.1.bind fun v37 => (v_int v37).bind fun y38 => (v_ref w31).bind fun a39 => (me_int r36.2 0 a39).bind fun f40 => if (0 : Int32) < 0 ∨ f40.1 ≤ (0 : Int32).toNatClampNeg then (none) else sm T_X5_divide (53, [(0, .ref x0)], [], (me_set r36.2 a39 (.inl (0, f40.1, .inl (upd f40.2 (0 : Int32).toNatClampNeg y38)))), 0, 0)) none) else (me_obj (me_set M x2 (.inr (5, f1.set 1 (.int (0 : Int32))))) 5 x0).bind fun f14 => (f14[1]?).bind fun w15 => (me_obj (me_set M x2 (.inr (5, f1.set 1 (.int (0 : Int32))))) 5 x1).bind fun f16 => (f16[1]?).bind fun w17 => (v_int w15).bind fun y18 => (v_int w17).bind fun y19 => (me_obj (me_set M x2 (.inr (5, f1.set 1 (.int (0 : Int32))))) 5 x1).bind fun _ => (f_X5_freeBits [.ref x1] (me_set M x2 (.inr (5, f1.set 1 (.int (0 : Int32)))))).bind fun r20 => r20.1.bind fun v21 => (v_int v21).bind fun y22 => (me_obj r20.2 5 x1).bind fun f23 => (f23[1]?).bind fun w24 => (v_int w24).bind fun y25 => (me_obj r20.2 5 x1).bind fun _ => (f_X5_twoLimbs [.ref x1, .int (y25 - (1 : Int32)), .int y22] r20.2).bind fun r26 => r26.1.bind fun v27 => (v_long v27).bind fun y28 => sm T_X5_divide (91, [(0, .ref x0), (1, .ref x1), (2, .ref x2), (3, .int (y18 - y19)), (4, .int y22)], [.long y28], r26.2, 0, 0)) else if 0 ≤ 0 ∧ 0 ≤ 0 then some (none, (me_set M x2 (.inr (5, f1.set 1 (.int (0 : Int32)))))) else none) else none := (show f_X5_divide [.ref x0, .ref x1, .ref x2] M = sm T_X5_divide (0, [(0, .ref x0), (1, .ref x1), (2, .ref x2)], [], M, 0, 0) from rfl).trans (by have hF := sm_fx A_X5_divide; generalize sm T_X5_divide = F_ at hF ⊢; exact (sm_h hF (f := i_al 2 1) rfl).trans (q_al rfl ((sm_h hF (f := i_c (.int (0)) 2) rfl).trans (q_c ((sm_h hF (f := i_pi 5 1 5) rfl).trans (q_pi (vi (vr (ob fun f1 => ic ((sm_h hF (f := i_al 1 6) rfl).trans (q_al rfl ((sm_h hF (f := i_gf 5 1 9) rfl).trans (q_gf (vr (ob fun f2 => ob fun w3 => (sm_h hF (f := i_z (fun x => x = 0) 23 12) rfl).trans (q_z (ob fun y4 => ic ((sm_h hF (f := i_rv 0 0) rfl).trans (q_rv (rfl))) ((sm_h hF (f := i_al 0 13) rfl).trans (q_al rfl ((sm_h hF (f := i_gf 5 1 16) rfl).trans (q_gf (vr (ob fun f5 => ob fun w6 => (sm_h hF (f := i_al 1 17) rfl).trans (q_al rfl ((sm_h hF (f := i_gf 5 1 20) rfl).trans (q_gf (vr (ob fun f7 => ob fun w8 => (sm_h hF (f := i_zz (fun x z => z ≤ x) 24 23) rfl).trans (q_zz (ob fun y9 => ob fun y10 => ic ((sm_h hF (f := i_al 1 25) rfl).trans (q_al rfl ((sm_h hF (f := i_gf 5 1 28) rfl).trans (q_gf (vr (ob fun f11 => ob fun w12 => (sm_h hF (f := i_c (.int (1)) 29) rfl).trans (q_c ((sm_h hF (f := i_zz (fun x z => x = z) 32 63) rfl).trans (q_zz (ob fun y13 => vi (ic ((sm_h hF (f := i_al 2 33) rfl).trans (q_al rfl ((sm_h hF (f := i_al 0 34) rfl).trans (q_al rfl ((sm_h hF (f := i_cv 5 2 0 f_X5_copy 0 0 0 0 37) rfl).trans (q_cv rfl rfl rfl (vr (ob fun _ => ob fun r29 => cT rfl (q_r0 (cg ((sm_h hF (f := i_al 0 38) rfl).trans (q_al rfl ((sm_h hF (f := i_gf 5 0 41) rfl).trans (q_gf (vr (ob fun f30 => ob fun w31 => (sm_h hF (f := i_c (.int (0)) 42) rfl).trans (q_c ((sm_h hF (f := i_al 2 43) rfl).trans (q_al rfl ((sm_h hF (f := i_al 1 44) rfl).trans (q_al rfl ((sm_h hF (f := i_gf 5 0 47) rfl).trans (q_gf (vr (ob fun f32 => ob fun w33 => (sm_h hF (f := i_c (.int (0)) 48) rfl).trans (q_c ((sm_h hF (f := i_ia 0 49) rfl).trans (q_ia (vi (ob fun a34 => ob fun f35 => ic (rfl) ((sm_h hF (f := i_cv 5 2 1 f_X5_shrink 0 0 0 0 52) rfl).trans (q_cv rfl rfl rfl (vr (ob fun _ => ob fun r36 => cT rfl (q_r1 (ob fun v37 => ob fun y38 => (sm_h hF (f := i_w [(53, [0])] (i_ist 53)) rfl).trans (q_w (q_ist (vi (vi (ob fun a39 => ob fun f40 => ic (rfl) (rfl)))))))))))))))))))))))))))))))) rfl)))))))))) ((sm_h hF (f := i_al 0 64) rfl).trans (q_al rfl ((sm_h hF (f := i_gf 5 1 67) rfl).trans (q_gf (vr (ob fun f14 => ob fun w15 => (sm_h hF (f := i_al 1 68) rfl).trans (q_al rfl ((sm_h hF (f := i_gf 5 1 71) rfl).trans (q_gf (vr (ob fun f16 => ob fun w17 => (sm_h hF (f := i_bi (fun x z => x - z) 72) rfl).trans (q_bi (ob fun y18 => ob fun y19 => (sm_h hF (f := i_is 3 73) rfl).trans (q_is (vi ((sm_h hF (f := i_al 1 74) rfl).trans (q_al rfl ((sm_h hF (f := i_cv 5 1 1 f_X5_freeBits 0 0 0 0 77) rfl).trans (q_cv rfl rfl rfl (vr (ob fun _ => ob fun r20 => cT rfl (q_r1 (ob fun v21 => ob fun y22 => (sm_h hF (f := i_is 4 79) rfl).trans (q_is (vi ((sm_h hF (f := i_al 1 80) rfl).trans (q_al rfl ((sm_h hF (f := i_al 1 81) rfl).trans (q_al rfl ((sm_h hF (f := i_gf 5 1 84) rfl).trans (q_gf (vr (ob fun f23 => ob fun w24 => (sm_h hF (f := i_c (.int (1)) 85) rfl).trans (q_c ((sm_h hF (f := i_bi (fun x z => x - z) 86) rfl).trans (q_bi (ob fun y25 => vi ((sm_h hF (f := i_il 4 88) rfl).trans (q_il rfl ((sm_h hF (f := i_w [(91, [0, 1, 2, 3, 4])] (i_cv 5 3 2 f_X5_twoLimbs 0 0 0 0 91)) rfl).trans (q_w (q_cv rfl rfl rfl (vr (ob fun _ => ob fun r26 => cT rfl (q_r2 (ob fun v27 => ob fun y28 => rfl))))))))))))))))))))))))))))))))))))))))))))))))))))))))) ((sm_h hF (f := i_rv 0 0) rfl).trans (q_rv (rfl)))))))))))))))))))))))) (rfl))))))))))
set_option maxRecDepth 20000 in
theorem e_X5_divide_91 (x0 : Nat) (x1 : Nat) (x2 : Nat) (x3 : Int32) (x4 : Int32) (s0 : Int64) (M : me_M) : sm T_X5_divide (91, [(0, .ref x0), (1, .ref x1), (2, .ref x2), (3, .int x3), (4, .int x4)], [.long s0], M, 0, 0) = (me_obj M 5 x0).bind fun f1 => (f1[0]?).bind fun w2 => (me_obj M 5 x0).bind fun f3 => (f3[1]?).bind fun w4 => (v_int w4).bind fun y5 => (v_ref w2).bind fun a6 => (me_int M 0 a6).bind fun f7 => if y5 < 0 ∨ f7.1 ≤ y5.toNatClampNeg then (none) else (me_obj (me_set M a6 (.inl (0, f7.1, .inl (upd f7.2 y5.toNatClampNeg (0 : Int32))))) 5 x0).bind fun f8 => (f8[1]?).bind fun w9 => (v_int w9).bind fun y10 => (me_obj (me_set M a6 (.inl (0, f7.1, .inl (upd f7.2 y5.toNatClampNeg (0 : Int32))))) 5 x0).bind fun f11 => if 1 < f11.length then (sm T_X5_divide (116, [(0, .ref x0), (1, .ref x1), (2, .ref x2), (3, .int x3), (4, .int x4), (5, .long s0), (7, .int x3)], [], (me_set (me_set M a6 (.inl (0, f7.1, .inl (upd f7.2 y5.toNatClampNeg (0 : Int32))))) x0 (.inr (5, f11.set 1 (.int (y10 + (1 : Int32)))))), 0, 0)) else none := (by have hF := sm_fx A_X5_divide; generalize sm T_X5_divide = F_ at hF ⊢; exact (sm_h hF (f := i_ls 5 93) rfl).trans (q_ls (vl ((sm_h hF (f := i_al 0 94) rfl).trans (q_al rfl ((sm_h hF (f := i_gf 5 0 97) rfl).trans (q_gf (vr (ob fun f1 => ob fun w2 => (sm_h hF (f := i_al 0 98) rfl).trans (q_al rfl ((sm_h hF (f := i_gf 5 1 101) rfl).trans (q_gf (vr (ob fun f3 => ob fun w4 => (sm_h hF (f := i_c (.int (0)) 102) rfl).trans (q_c ((sm_h hF (f := i_ist 103) rfl).trans (q_ist (vi (ob fun y5 => ob fun a6 => ob fun f7 => ic (rfl) ((sm_h hF (f := i_al 0 104) rfl).trans (q_al rfl ((sm_h hF (f := i_dup 105) rfl).trans (q_dup (vr ((sm_h hF (f := i_gf 5 1 108) rfl).trans (q_gf (vr (ob fun f8 => ob fun w9 => (sm_h hF (f := i_c (.int (1)) 109) rfl).trans (q_c ((sm_h hF (f := i_bi (fun x z => x + z) 110) rfl).trans (q_bi (ob fun y10 => vi ((sm_h hF (f := i_pi 5 1 113) rfl).trans (q_pi (vi (vr (ob fun f11 => ic ((sm_h hF (f := i_il 3 114) rfl).trans (q_il rfl ((sm_h hF (f := i_w [(116, [0, 1, 2, 3, 4, 5, 7])] (i_is 7 116)) rfl).trans (q_w (q_is (vi (rfl))))))) (rfl))))))))))))))))))))))))))))))))))))))
set_option maxRecDepth 20000 in
theorem e_X5_divide_53 (x0 : Nat) (M : me_M) : sm T_X5_divide (53, [(0, .ref x0)], [], M, 0, 0) = (me_obj M 5 x0).bind fun f1 => if 1 < f1.length then ((me_obj (me_set M x0 (.inr (5, f1.set 1 (.int (1 : Int32))))) 5 x0).bind fun _ => (f_X5_trim [.ref x0] (me_set M x0 (.inr (5, f1.set 1 (.int (1 : Int32)))))).bind fun r2 => cond r2.1.isNone (if 0 ≤ 0 ∧ 0 ≤ 0 then some (none, r2.2) else none) none) else none := (by have hF := sm_fx A_X5_divide; generalize sm T_X5_divide = F_ at hF ⊢; exact (sm_h hF (f := i_al 0 54) rfl).trans (q_al rfl ((sm_h hF (f := i_c (.int (1)) 55) rfl).trans (q_c ((sm_h hF (f := i_pi 5 1 58) rfl).trans (q_pi (vi (vr (ob fun f1 => ic ((sm_h hF (f := i_al 0 59) rfl).trans (q_al rfl ((sm_h hF (f := i_cv 5 1 0 f_X5_trim 0 0 0 0 62) rfl).trans (q_cv rfl rfl rfl (vr (ob fun _ => ob fun r2 => cT rfl (q_r0 (cg ((sm_h hF (f := i_rv 0 0) rfl).trans (q_rv (rfl))) rfl)))))))) (rfl))))))))))
set_option maxRecDepth 20000 in
theorem e_X5_divide_116 (x0 : Nat) (x1 : Nat) (x2 : Nat) (x3 : Int32) (x4 : Int32) (x5 : Int64) (x7 : Int32) (M : me_M) : sm T_X5_divide (116, [(0, .ref x0), (1, .ref x1), (2, .ref x2), (3, .int x3), (4, .int x4), (5, .long x5), (7, .int x7)], [], M, 0, 0) = if x7 < 0 then ((me_obj M 5 x2).bind fun f1 => if 1 < f1.length then ((me_obj (me_set M x2 (.inr (5, f1.set 1 (.int (x3 + (1 : Int32)))))) 5 x2).bind fun _ => (f_X5_trim [.ref x2] (me_set M x2 (.inr (5, f1.set 1 (.int (x3 + (1 : Int32))))))).bind fun r2 => cond r2.1.isNone ((me_obj r2.2 5 x1).bind fun f3 => (f3[1]?).bind fun w4 => (v_int w4).bind fun y5 => (me_obj r2.2 5 x0).bind fun f6 => if 1 < f6.length then (sm T_X5_divide (208, [(0, .ref x0)], [], (me_set r2.2 x0 (.inr (5, f6.set 1 (.int y5)))), 0, 0)) else none) none) else none) else (me_obj M 5 x1).bind fun f7 => (f7[1]?).bind fun w8 => (v_int w8).bind fun y9 => (me_obj M 5 x0).bind fun _ => (f_X5_twoLimbs [.ref x0, .int (x7 + y9), .int x4] M).bind fun r10 => r10.1.bind fun v11 => (v_long v11).bind fun y12 => (me_obj r10.2 5 x1).bind fun f13 => (f13[1]?).bind fun w14 => (v_int w14).bind fun y15 => (me_obj r10.2 5 x0).bind fun _ => (f_X5_twoLimbs [.ref x0, .int ((x7 + y15) - (2 : Int32)), .int x4] r10.2).bind fun r16 => r16.1.bind fun v17 => (v_long v17).bind fun y18 => (me_obj r16.2 5 x2).bind fun f19 => (f19[0]?).bind fun w20 => (f_X5_guess [.long y12, .long (((y18.toUInt64 >>> ((31 : Int32).toInt64.toUInt64 &&& Int64.toUInt64 63)).toInt64) &&& (2147483647 : Int64)), .long x5] r16.2).bind fun r21 => r21.1.bind fun v22 => (v_long v22).bind fun y23 => (me_obj r21.2 5 x0).bind fun _ => (f_X5_takeAway [.ref x0, .ref x1, .long y23, .int x7] r21.2).bind fun r24 => r24.1.bind fun v25 => (v_int v25).bind fun y26 => sm T_X5_divide (182, [(0, .ref x0), (1, .ref x1), (2, .ref x2), (3, .int x3), (4, .int x4), (5, .long x5), (7, .int x7)], [.int y26, .int x7, w20], r24.2, 0, 0) := (by have hF := sm_fx A_X5_divide; generalize sm T_X5_divide = F_ at hF ⊢; exact (sm_h hF (f := i_il 7 118) rfl).trans (q_il rfl ((sm_h hF (f := i_z (fun x => x < 0) 189 121) rfl).trans (q_z (vi (ic ((sm_h hF (f := i_al 2 190) rfl).trans (q_al rfl ((sm_h hF (f := i_il 3 191) rfl).trans (q_il rfl ((sm_h hF (f := i_c (.int (1)) 192) rfl).trans (q_c ((sm_h hF (f := i_bi (fun x z => x + z) 193) rfl).trans (q_bi (vi (vi ((sm_h hF (f := i_pi 5 1 196) rfl).trans (q_pi (vi (vr (ob fun f1 => ic ((sm_h hF (f := i_al 2 197) rfl).trans (q_al rfl ((sm_h hF (f := i_cv 5 1 0 f_X5_trim 0 0 0 0 200) rfl).trans (q_cv rfl rfl rfl (vr (ob fun _ => ob fun r2 => cT rfl (q_r0 (cg ((sm_h hF (f := i_al 0 201) rfl).trans (q_al rfl ((sm_h hF (f := i_al 1 202) rfl).trans (q_al rfl ((sm_h hF (f := i_gf 5 1 205) rfl).trans (q_gf (vr (ob fun f3 => ob fun w4 => (sm_h hF (f := i_w [(208, [0])] (i_pi 5 1 208)) rfl).trans (q_w (q_pi (ob fun y5 => vr (ob fun f6 => ic (rfl) (rfl))))))))))))) rfl)))))))) (rfl)))))))))))))))) ((sm_h hF (f := i_al 0 122) rfl).trans (q_al rfl ((sm_h hF (f := i_il 7 124) rfl).trans (q_il rfl ((sm_h hF (f := i_al 1 125) rfl).trans (q_al rfl ((sm_h hF (f := i_gf 5 1 128) rfl).trans (q_gf (vr (ob fun f7 => ob fun w8 => (sm_h hF (f := i_bi (fun x z => x + z) 129) rfl).trans (q_bi (vi (ob fun y9 => (sm_h hF (f := i_il 4 131) rfl).trans (q_il rfl ((sm_h hF (f := i_cv 5 3 2 f_X5_twoLimbs 0 0 0 0 134) rfl).trans (q_cv rfl rfl rfl (vr (ob fun _ => ob fun r10 => cT rfl (q_r2 (ob fun v11 => ob fun y12 => (sm_h hF (f := i_ls 8 136) rfl).trans (q_ls (vl ((sm_h hF (f := i_al 0 137) rfl).trans (q_al rfl ((sm_h hF (f := i_il 7 139) rfl).trans (q_il rfl ((sm_h hF (f := i_al 1 140) rfl).trans (q_al rfl ((sm_h hF (f := i_gf 5 1 143) rfl).trans (q_gf (vr (ob fun f13 => ob fun w14 => (sm_h hF (f := i_bi (fun x z => x + z) 144) rfl).trans (q_bi (vi (ob fun y15 => (sm_h hF (f := i_c (.int (2)) 145) rfl).trans (q_c ((sm_h hF (f := i_bi (fun x z => x - z) 146) rfl).trans (q_bi (vi (vi ((sm_h hF (f := i_il 4 148) rfl).trans (q_il rfl ((sm_h hF (f := i_cv 5 3 2 f_X5_twoLimbs 0 0 0 0 151) rfl).trans (q_cv rfl rfl rfl (vr (ob fun _ => ob fun r16 => cT rfl (q_r2 (ob fun v17 => ob fun y18 => (sm_h hF (f := i_c (.int (31)) 153) rfl).trans (q_c ((sm_h hF (f := i_sl (fun x z => (x.toUInt64 >>> (z.toInt64.toUInt64 &&& Int64.toUInt64 63)).toInt64) 154) rfl).trans (q_sl (vl (vi ((sm_h hF (f := i_c (.long (2147483647)) 157) rfl).trans (q_c ((sm_h hF (f := i_bl (fun x z => x &&& z) 158) rfl).trans (q_bl (vl (vl ((sm_h hF (f := i_ls 10 160) rfl).trans (q_ls (vl ((sm_h hF (f := i_al 2 161) rfl).trans (q_al rfl ((sm_h hF (f := i_gf 5 0 164) rfl).trans (q_gf (vr (ob fun f19 => ob fun w20 => (sm_h hF (f := i_il 7 166) rfl).trans (q_il rfl ((sm_h hF (f := i_al 0 167) rfl).trans (q_al rfl ((sm_h hF (f := i_al 1 168) rfl).trans (q_al rfl ((sm_h hF (f := i_ll 8 170) rfl).trans (q_ll rfl ((sm_h hF (f := i_ll 10 172) rfl).trans (q_ll rfl ((sm_h hF (f := i_ll 5 174) rfl).trans (q_ll rfl ((sm_h hF (f := i_cs 3 2 f_X5_guess 0 0 0 0 177) rfl).trans (q_cs rfl rfl rfl (ob fun r21 => cT rfl (q_r2 (ob fun v22 => ob fun y23 => (sm_h hF (f := i_il 7 179) rfl).trans (q_il rfl ((sm_h hF (f := i_w [(182, [0, 1, 2, 3, 4, 5, 7])] (i_cv 5 4 1 f_X5_takeAway 0 0 0 0 182)) rfl).trans (q_w (q_cv rfl rfl rfl (vr (ob fun _ => ob fun r24 => cT rfl (q_r1 (ob fun v25 => ob fun y26 => rfl))))))))))))))))))))))))))))))))))))))))))))))))))))))))))))))))))))))))))))))))))))))))))))))))))
set_option maxRecDepth 20000 in
theorem e_X5_divide_208 (x0 : Nat) (M : me_M) : sm T_X5_divide (208, [(0, .ref x0)], [], M, 0, 0) = (me_obj M 5 x0).bind fun _ => (f_X5_trim [.ref x0] M).bind fun r1 => cond r1.1.isNone (if 0 ≤ 0 ∧ 0 ≤ 0 then some (none, r1.2) else none) none := (by have hF := sm_fx A_X5_divide; generalize sm T_X5_divide = F_ at hF ⊢; exact (sm_h hF (f := i_al 0 209) rfl).trans (q_al rfl ((sm_h hF (f := i_cv 5 1 0 f_X5_trim 0 0 0 0 212) rfl).trans (q_cv rfl rfl rfl (vr (ob fun _ => ob fun r1 => cT rfl (q_r0 (cg ((sm_h hF (f := i_rv 0 0) rfl).trans (q_rv (rfl))) rfl))))))))
set_option maxRecDepth 20000 in
theorem e_X5_divide_182 (x0 : Nat) (x1 : Nat) (x2 : Nat) (x3 : Int32) (x4 : Int32) (x5 : Int64) (x7 : Int32) (s0 : Int32) (s1 : Int32) (s2 : Value) (M : me_M) : sm T_X5_divide (182, [(0, .ref x0), (1, .ref x1), (2, .ref x2), (3, .int x3), (4, .int x4), (5, .long x5), (7, .int x7)], [.int s0, .int s1, s2], M, 0, 0) = (v_ref s2).bind fun a1 => (me_int M 0 a1).bind fun f2 => if s1 < 0 ∨ f2.1 ≤ s1.toNatClampNeg then (none) else sm T_X5_divide (116, [(0, .ref x0), (1, .ref x1), (2, .ref x2), (3, .int x3), (4, .int x4), (5, .long x5), (7, .int (x7 + (-1)))], [], (me_set M a1 (.inl (0, f2.1, .inl (upd f2.2 s1.toNatClampNeg s0)))), 0, 0) := (by have hF := sm_fx A_X5_divide; generalize sm T_X5_divide = F_ at hF ⊢; exact (sm_h hF (f := i_ist 183) rfl).trans (q_ist (vi (vi (ob fun a1 => ob fun f2 => ic (rfl) ((sm_h hF (f := i_inc 7 (-1) 186) rfl).trans (q_inc rfl ((sm_h hF (f := i_w [(116, [0, 1, 2, 3, 4, 5, 7])] (i_g 116)) rfl).trans (q_w (q_g (rfl)))))))))))
/-! X5_lowLong -/
abbrev rm_X5_lowLong : Room := { frames := 1, cells := 0, slots := 0, locals := 21 }
noncomputable def T_X5_lowLong : sm_T := [(0, i_al 0 1), (1, i_c (.int (0)) 2), (2, i_cv 5 2 2 f_X5_limbOrZero 0 0 0 0 5), (5, i_al 0 6), (6, i_c (.int (1)) 7), (7, i_cv 5 2 2 f_X5_limbOrZero 0 0 0 0 10), (10, i_c (.int (31)) 12), (12, i_sl (fun x z => x <<< (z.toInt64 &&& 63)) 13), (13, i_bl (fun x z => x ||| z) 14), (14, i_al 0 15), (15, i_c (.int (2)) 16), (16, i_cv 5 2 2 f_X5_limbOrZero 0 0 0 0 19), (19, i_c (.int (62)) 21), (21, i_sl (fun x z => x <<< (z.toInt64 &&& 63)) 22), (22, i_bl (fun x z => x ||| z) 23), (23, i_rl 0 0)]
set_option maxRecDepth 20000 in
theorem A_X5_lowLong : sd_A yX5_lowLong cX5_lowLong 1 (some .long) rm_X5_lowLong T_X5_lowLong := by
  refine sd_c (pc := 0) (f := i_al 0 1) (s_aln (i := 0) dX5_lowLong_0) ?_
  refine sd_c (pc := 1) (f := i_c (.int (0)) 2) (s_iconst dX5_lowLong_1 (by decide)) ?_
  refine sd_c (pc := 2) (f := i_cv 5 2 2 f_X5_limbOrZero 0 0 0 0 5) (s_cv (np := 1) (rk := 2) (ci := 5) (rmz := rm_X5_limbOrZero) dX5_lowLong_2 V_X5_limbOrZero w265 w266 w267 rfl (by decide)) ?_
  refine sd_c (pc := 5) (f := i_al 0 6) (s_aln (i := 0) dX5_lowLong_5) ?_
  refine sd_c (pc := 6) (f := i_c (.int (1)) 7) (s_iconst dX5_lowLong_6 (by decide)) ?_
  refine sd_c (pc := 7) (f := i_cv 5 2 2 f_X5_limbOrZero 0 0 0 0 10) (s_cv (np := 1) (rk := 2) (ci := 5) (rmz := rm_X5_limbOrZero) dX5_lowLong_7 V_X5_limbOrZero w265 w266 w267 rfl (by decide)) ?_
  refine sd_c (pc := 10) (f := i_c (.int (31)) 12) (s_bipush dX5_lowLong_10 (by decide)) ?_
  refine sd_c (pc := 12) (f := i_sl (fun x z => x <<< (z.toInt64 &&& 63)) 13) (s_lshl dX5_lowLong_12) ?_
  refine sd_c (pc := 13) (f := i_bl (fun x z => x ||| z) 14) (s_lor dX5_lowLong_13) ?_
  refine sd_c (pc := 14) (f := i_al 0 15) (s_aln (i := 0) dX5_lowLong_14) ?_
  refine sd_c (pc := 15) (f := i_c (.int (2)) 16) (s_iconst dX5_lowLong_15 (by decide)) ?_
  refine sd_c (pc := 16) (f := i_cv 5 2 2 f_X5_limbOrZero 0 0 0 0 19) (s_cv (np := 1) (rk := 2) (ci := 5) (rmz := rm_X5_limbOrZero) dX5_lowLong_16 V_X5_limbOrZero w265 w266 w267 rfl (by decide)) ?_
  refine sd_c (pc := 19) (f := i_c (.int (62)) 21) (s_bipush dX5_lowLong_19 (by decide)) ?_
  refine sd_c (pc := 21) (f := i_sl (fun x z => x <<< (z.toInt64 &&& 63)) 22) (s_lshl dX5_lowLong_21) ?_
  refine sd_c (pc := 22) (f := i_bl (fun x z => x ||| z) 23) (s_lor dX5_lowLong_22) ?_
  refine sd_c (pc := 23) (f := i_rl 0 0) (s_rl dX5_lowLong_23 rfl) ?_
  exact sd_n
noncomputable def f_X5_lowLong : List Value → me_M → Option sm_R := sd_f 1 T_X5_lowLong
theorem V_X5_lowLong : sd_V yX5_lowLong cX5_lowLong 1 (some .long) rm_X5_lowLong 0 f_X5_lowLong := ⟨sd_met A_X5_lowLong (by decide +kernel), w307, w4, by decide +kernel⟩
set_option maxRecDepth 20000 in
theorem e_X5_lowLong (x0 : Nat) (M : me_M) : f_X5_lowLong [.ref x0] M = (me_obj M 5 x0).bind fun _ => (f_X5_limbOrZero [.ref x0, .int (0 : Int32)] M).bind fun r1 => r1.1.bind fun v2 => (v_long v2).bind fun y3 => (me_obj r1.2 5 x0).bind fun _ => (f_X5_limbOrZero [.ref x0, .int (1 : Int32)] r1.2).bind fun r4 => r4.1.bind fun v5 => (v_long v5).bind fun y6 => (me_obj r4.2 5 x0).bind fun _ => (f_X5_limbOrZero [.ref x0, .int (2 : Int32)] r4.2).bind fun r7 => r7.1.bind fun v8 => (v_long v8).bind fun y9 => if 0 ≤ 0 ∧ 0 ≤ 0 then some (some (.long ((y3 ||| (y6 <<< ((31 : Int32).toInt64 &&& 63))) ||| (y9 <<< ((62 : Int32).toInt64 &&& 63)))), r7.2) else none := (show f_X5_lowLong [.ref x0] M = sm T_X5_lowLong (0, [(0, .ref x0)], [], M, 0, 0) from rfl).trans (by have hF := sm_fx A_X5_lowLong; generalize sm T_X5_lowLong = F_ at hF ⊢; exact (sm_h hF (f := i_al 0 1) rfl).trans (q_al rfl ((sm_h hF (f := i_c (.int (0)) 2) rfl).trans (q_c ((sm_h hF (f := i_cv 5 2 2 f_X5_limbOrZero 0 0 0 0 5) rfl).trans (q_cv rfl rfl rfl (vr (ob fun _ => ob fun r1 => cT rfl (q_r2 (ob fun v2 => ob fun y3 => (sm_h hF (f := i_al 0 6) rfl).trans (q_al rfl ((sm_h hF (f := i_c (.int (1)) 7) rfl).trans (q_c ((sm_h hF (f := i_cv 5 2 2 f_X5_limbOrZero 0 0 0 0 10) rfl).trans (q_cv rfl rfl rfl (vr (ob fun _ => ob fun r4 => cT rfl (q_r2 (ob fun v5 => ob fun y6 => (sm_h hF (f := i_c (.int (31)) 12) rfl).trans (q_c ((sm_h hF (f := i_sl (fun x z => x <<< (z.toInt64 &&& 63)) 13) rfl).trans (q_sl (vl (vi ((sm_h hF (f := i_bl (fun x z => x ||| z) 14) rfl).trans (q_bl (vl (vl ((sm_h hF (f := i_al 0 15) rfl).trans (q_al rfl ((sm_h hF (f := i_c (.int (2)) 16) rfl).trans (q_c ((sm_h hF (f := i_cv 5 2 2 f_X5_limbOrZero 0 0 0 0 19) rfl).trans (q_cv rfl rfl rfl (vr (ob fun _ => ob fun r7 => cT rfl (q_r2 (ob fun v8 => ob fun y9 => (sm_h hF (f := i_c (.int (62)) 21) rfl).trans (q_c ((sm_h hF (f := i_sl (fun x z => x <<< (z.toInt64 &&& 63)) 22) rfl).trans (q_sl (vl (vi ((sm_h hF (f := i_bl (fun x z => x ||| z) 23) rfl).trans (q_bl (vl (vl ((sm_h hF (f := i_rl 0 0) rfl).trans (q_rl (vl (rfl)))))))))))))))))))))))))))))))))))))))))))))))))))
/-! X5_length -/
abbrev rm_X5_length : Room := { frames := 1, cells := 0, slots := 0, locals := 21 }
noncomputable def T_X5_length : sm_T := [(0, i_al 0 1), (1, i_gf 5 1 4), (4, i_z (fun x => x = 0) 7 11), (7, i_c (.int (0)) 8), (8, i_g 35), (11, i_c (.int (31)) 13), (13, i_al 0 14), (14, i_gf 5 1 17), (17, i_bi (fun x z => x * z) 18), (18, i_c (.int (1)) 19), (19, i_bi (fun x z => x + z) 20), (20, i_al 0 21), (21, i_gf 5 0 24), (24, i_al 0 25), (25, i_gf 5 1 28), (28, i_c (.int (1)) 29), (29, i_bi (fun x z => x - z) 30), (30, i_ia 0 31), (31, i_cs 1 1 f_J6_numberOfLeadingZeros_0f7a4 0 0 0 0 34), (34, i_bi (fun x z => x - z) 35), (35, i_ri 0 0)]
set_option maxRecDepth 20000 in
theorem A_X5_length : sd_A yX5_length cX5_length 1 (some .int) rm_X5_length T_X5_length := by
  refine sd_c (pc := 0) (f := i_al 0 1) (s_aln (i := 0) dX5_length_0) ?_
  refine sd_c (pc := 1) (f := i_gf 5 1 4) (s_gf (ci := 5) (k := 1) dX5_length_1 rfl in_X5 (by decide) w52) ?_
  refine sd_c (pc := 4) (f := i_z (fun x => x = 0) 7 11) (s_if_ne (tgt := 11) dX5_length_4 (by decide)) ?_
  refine sd_c (pc := 7) (f := i_c (.int (0)) 8) (s_iconst dX5_length_7 (by decide)) ?_
  refine sd_c (pc := 8) (f := i_g 35) (s_goto (tgt := 35) dX5_length_8 (by decide)) ?_
  refine sd_c (pc := 11) (f := i_c (.int (31)) 13) (s_bipush dX5_length_11 (by decide)) ?_
  refine sd_c (pc := 13) (f := i_al 0 14) (s_aln (i := 0) dX5_length_13) ?_
  refine sd_c (pc := 14) (f := i_gf 5 1 17) (s_gf (ci := 5) (k := 1) dX5_length_14 rfl in_X5 (by decide) w52) ?_
  refine sd_c (pc := 17) (f := i_bi (fun x z => x * z) 18) (s_imul dX5_length_17) ?_
  refine sd_c (pc := 18) (f := i_c (.int (1)) 19) (s_iconst dX5_length_18 (by decide)) ?_
  refine sd_c (pc := 19) (f := i_bi (fun x z => x + z) 20) (s_iadd dX5_length_19) ?_
  refine sd_c (pc := 20) (f := i_al 0 21) (s_aln (i := 0) dX5_length_20) ?_
  refine sd_c (pc := 21) (f := i_gf 5 0 24) (s_gf (ci := 5) (k := 0) dX5_length_21 rfl in_X5 (by decide) w49) ?_
  refine sd_c (pc := 24) (f := i_al 0 25) (s_aln (i := 0) dX5_length_24) ?_
  refine sd_c (pc := 25) (f := i_gf 5 1 28) (s_gf (ci := 5) (k := 1) dX5_length_25 rfl in_X5 (by decide) w52) ?_
  refine sd_c (pc := 28) (f := i_c (.int (1)) 29) (s_iconst dX5_length_28 (by decide)) ?_
  refine sd_c (pc := 29) (f := i_bi (fun x z => x - z) 30) (s_isub dX5_length_29) ?_
  refine sd_c (pc := 30) (f := i_ia 0 31) (s_iald dX5_length_30) ?_
  refine sd_c (pc := 31) (f := i_cs 1 1 f_J6_numberOfLeadingZeros_0f7a4 0 0 0 0 34) (s_cs (np := 1) (rk := 1) (rmz := rm_J6_numberOfLeadingZeros_0f7a4) dX5_length_31 V_J6_numberOfLeadingZeros_0f7a4 w257 w258 (by decide)) ?_
  refine sd_c (pc := 34) (f := i_bi (fun x z => x - z) 35) (s_isub dX5_length_34) ?_
  refine sd_c (pc := 35) (f := i_ri 0 0) (s_ri dX5_length_35 rfl) ?_
  exact sd_n
noncomputable def f_X5_length : List Value → me_M → Option sm_R := sd_f 1 T_X5_length
theorem V_X5_length : sd_V yX5_length cX5_length 1 (some .int) rm_X5_length 0 f_X5_length := ⟨sd_met A_X5_length (by decide +kernel), w342, w4, by decide +kernel⟩
set_option maxRecDepth 20000 in
theorem e_X5_length (x0 : Nat) (M : me_M) : f_X5_length [.ref x0] M = (me_obj M 5 x0).bind fun f1 => (f1[1]?).bind fun w2 => (v_int w2).bind fun y3 => if y3 = 0 then (if 0 ≤ 0 ∧ 0 ≤ 0 then some (some (.int (0 : Int32)), M) else none) else (me_obj M 5 x0).bind fun f4 => (f4[1]?).bind fun w5 => (v_int w5).bind fun y6 => (me_obj M 5 x0).bind fun f7 => (f7[0]?).bind fun w8 => (me_obj M 5 x0).bind fun f9 => (f9[1]?).bind fun w10 => (v_int w10).bind fun y11 => (v_ref w8).bind fun a12 => (me_int M 0 a12).bind fun f13 => if (y11 - (1 : Int32)) < 0 ∨ f13.1 ≤ (y11 - (1 : Int32)).toNatClampNeg then (none) else (f_J6_numberOfLeadingZeros_0f7a4 [.int (f13.2 (y11 - (1 : Int32)).toNatClampNeg)] M).bind fun r14 => r14.1.bind fun v15 => (v_int v15).bind fun y16 => if 0 ≤ 0 ∧ 0 ≤ 0 then some (some (.int ((((31 : Int32) * y6) + (1 : Int32)) - y16)), r14.2) else none := (show f_X5_length [.ref x0] M = sm T_X5_length (0, [(0, .ref x0)], [], M, 0, 0) from rfl).trans (by have hF := sm_fx A_X5_length; generalize sm T_X5_length = F_ at hF ⊢; exact (sm_h hF (f := i_al 0 1) rfl).trans (q_al rfl ((sm_h hF (f := i_gf 5 1 4) rfl).trans (q_gf (vr (ob fun f1 => ob fun w2 => (sm_h hF (f := i_z (fun x => x = 0) 7 11) rfl).trans (q_z (ob fun y3 => ic ((sm_h hF (f := i_c (.int (0)) 8) rfl).trans (q_c ((sm_h hF (f := i_g 35) rfl).trans (q_g ((sm_h hF (f := i_ri 0 0) rfl).trans (q_ri (vi (rfl)))))))) ((sm_h hF (f := i_c (.int (31)) 13) rfl).trans (q_c ((sm_h hF (f := i_al 0 14) rfl).trans (q_al rfl ((sm_h hF (f := i_gf 5 1 17) rfl).trans (q_gf (vr (ob fun f4 => ob fun w5 => (sm_h hF (f := i_bi (fun x z => x * z) 18) rfl).trans (q_bi (vi (ob fun y6 => (sm_h hF (f := i_c (.int (1)) 19) rfl).trans (q_c ((sm_h hF (f := i_bi (fun x z => x + z) 20) rfl).trans (q_bi (vi (vi ((sm_h hF (f := i_al 0 21) rfl).trans (q_al rfl ((sm_h hF (f := i_gf 5 0 24) rfl).trans (q_gf (vr (ob fun f7 => ob fun w8 => (sm_h hF (f := i_al 0 25) rfl).trans (q_al rfl ((sm_h hF (f := i_gf 5 1 28) rfl).trans (q_gf (vr (ob fun f9 => ob fun w10 => (sm_h hF (f := i_c (.int (1)) 29) rfl).trans (q_c ((sm_h hF (f := i_bi (fun x z => x - z) 30) rfl).trans (q_bi (ob fun y11 => vi ((sm_h hF (f := i_ia 0 31) rfl).trans (q_ia (vi (ob fun a12 => ob fun f13 => ic (rfl) ((sm_h hF (f := i_cs 1 1 f_J6_numberOfLeadingZeros_0f7a4 0 0 0 0 34) rfl).trans (q_cs rfl rfl rfl (ob fun r14 => cT rfl (q_r1 (ob fun v15 => ob fun y16 => (sm_h hF (f := i_bi (fun x z => x - z) 35) rfl).trans (q_bi (vi (vi ((sm_h hF (f := i_ri 0 0) rfl).trans (q_ri (vi (rfl)))))))))))))))))))))))))))))))))))))))))))))))))))))))
/-! X5_fitsLong -/
abbrev rm_X5_fitsLong : Room := { frames := 2, cells := 0, slots := 0, locals := 41 }
noncomputable def T_X5_fitsLong : sm_T := [(0, i_al 0 1), (1, i_cv 5 1 1 f_X5_length 0 0 0 0 4), (4, i_is 2 5), (5, i_il 2 6), (6, i_c (.int (64)) 8), (8, i_zz (fun x z => x < z) 32 11), (11, i_il 1 12), (12, i_z (fun x => x = 0) 36 15), (15, i_il 2 16), (16, i_c (.int (64)) 18), (18, i_zz (fun x z => x = z) 21 36), (21, i_al 0 22), (22, i_cv 5 1 2 f_X5_lowLong 0 0 0 0 25), (25, i_c (.long (-9223372036854775808)) 28), (28, i_lc 29), (29, i_z (fun x => x = 0) 32 36), (32, i_c (.int (1)) 33), (33, i_g 37), (36, i_c (.int (0)) 37), (37, i_rz 0 0)]
set_option maxRecDepth 20000 in
theorem A_X5_fitsLong : sd_A yX5_fitsLong cX5_fitsLong 3 (some .boolean) rm_X5_fitsLong T_X5_fitsLong := by
  refine sd_c (pc := 0) (f := i_al 0 1) (s_aln (i := 0) dX5_fitsLong_0) ?_
  refine sd_c (pc := 1) (f := i_cv 5 1 1 f_X5_length 0 0 0 0 4) (s_cv (np := 0) (rk := 1) (ci := 5) (rmz := rm_X5_length) dX5_fitsLong_1 V_X5_length w365 w340 w341 rfl (by decide)) ?_
  refine sd_c (pc := 4) (f := i_is 2 5) (s_isn (i := 2) dX5_fitsLong_4 (by decide)) ?_
  refine sd_c (pc := 5) (f := i_il 2 6) (s_iln (i := 2) dX5_fitsLong_5) ?_
  refine sd_c (pc := 6) (f := i_c (.int (64)) 8) (s_bipush dX5_fitsLong_6 (by decide)) ?_
  refine sd_c (pc := 8) (f := i_zz (fun x z => x < z) 32 11) (s_ic_lt (tgt := 32) dX5_fitsLong_8 (by decide)) ?_
  refine sd_c (pc := 11) (f := i_il 1 12) (s_iln (i := 1) dX5_fitsLong_11) ?_
  refine sd_c (pc := 12) (f := i_z (fun x => x = 0) 36 15) (s_if_eq (tgt := 36) dX5_fitsLong_12 (by decide)) ?_
  refine sd_c (pc := 15) (f := i_il 2 16) (s_iln (i := 2) dX5_fitsLong_15) ?_
  refine sd_c (pc := 16) (f := i_c (.int (64)) 18) (s_bipush dX5_fitsLong_16 (by decide)) ?_
  refine sd_c (pc := 18) (f := i_zz (fun x z => x = z) 21 36) (s_ic_ne (tgt := 36) dX5_fitsLong_18 (by decide)) ?_
  refine sd_c (pc := 21) (f := i_al 0 22) (s_aln (i := 0) dX5_fitsLong_21) ?_
  refine sd_c (pc := 22) (f := i_cv 5 1 2 f_X5_lowLong 0 0 0 0 25) (s_cv (np := 0) (rk := 2) (ci := 5) (rmz := rm_X5_lowLong) dX5_fitsLong_22 V_X5_lowLong w366 w305 w306 rfl (by decide)) ?_
  refine sd_c (pc := 25) (f := i_c (.long (-9223372036854775808)) 28) (s_ldc2 dX5_fitsLong_25 w367) ?_
  refine sd_c (pc := 28) (f := i_lc 29) (s_lcmp dX5_fitsLong_28) ?_
  refine sd_c (pc := 29) (f := i_z (fun x => x = 0) 32 36) (s_if_ne (tgt := 36) dX5_fitsLong_29 (by decide)) ?_
  refine sd_c (pc := 32) (f := i_c (.int (1)) 33) (s_iconst dX5_fitsLong_32 (by decide)) ?_
  refine sd_c (pc := 33) (f := i_g 37) (s_goto (tgt := 37) dX5_fitsLong_33 (by decide)) ?_
  refine sd_c (pc := 36) (f := i_c (.int (0)) 37) (s_iconst dX5_fitsLong_36 (by decide)) ?_
  refine sd_c (pc := 37) (f := i_rz 0 0) (s_rz dX5_fitsLong_37 rfl) ?_
  exact sd_n
noncomputable def f_X5_fitsLong : List Value → me_M → Option sm_R := sd_f 3 T_X5_fitsLong
theorem V_X5_fitsLong : sd_V yX5_fitsLong cX5_fitsLong 3 (some .boolean) rm_X5_fitsLong 1 f_X5_fitsLong := ⟨sd_met A_X5_fitsLong (by decide +kernel), w364, w4, by decide +kernel⟩
set_option maxRecDepth 20000 in
theorem e_X5_fitsLong (x0 : Nat) (x1 : Int32) (M : me_M) : f_X5_fitsLong [.ref x0, .int x1] M = (me_obj M 5 x0).bind fun _ => (f_X5_length [.ref x0] M).bind fun r1 => r1.1.bind fun v2 => (v_int v2).bind fun y3 => if y3 < (64 : Int32) then (if (1 : Int32) = 0 ∨ (1 : Int32) = 1 then (if 0 ≤ 0 ∧ 0 ≤ 0 then some (some (.int (1 : Int32)), r1.2) else none) else none) else if x1 = 0 then (if (0 : Int32) = 0 ∨ (0 : Int32) = 1 then (if 0 ≤ 0 ∧ 0 ≤ 0 then some (some (.int (0 : Int32)), r1.2) else none) else none) else if y3 = (64 : Int32) then ((me_obj r1.2 5 x0).bind fun _ => (f_X5_lowLong [.ref x0] r1.2).bind fun r4 => r4.1.bind fun v5 => (v_long v5).bind fun y6 => if (lg_cmp y6 (-9223372036854775808 : Int64)) = 0 then (if (1 : Int32) = 0 ∨ (1 : Int32) = 1 then (if 0 ≤ 0 ∧ 0 ≤ 0 then some (some (.int (1 : Int32)), r4.2) else none) else none) else if (0 : Int32) = 0 ∨ (0 : Int32) = 1 then (if 0 ≤ 0 ∧ 0 ≤ 0 then some (some (.int (0 : Int32)), r4.2) else none) else none) else if (0 : Int32) = 0 ∨ (0 : Int32) = 1 then (if 0 ≤ 0 ∧ 0 ≤ 0 then some (some (.int (0 : Int32)), r1.2) else none) else none := (show f_X5_fitsLong [.ref x0, .int x1] M = sm T_X5_fitsLong (0, [(0, .ref x0), (1, .int x1)], [], M, 0, 0) from rfl).trans (by have hF := sm_fx A_X5_fitsLong; generalize sm T_X5_fitsLong = F_ at hF ⊢; exact (sm_h hF (f := i_al 0 1) rfl).trans (q_al rfl ((sm_h hF (f := i_cv 5 1 1 f_X5_length 0 0 0 0 4) rfl).trans (q_cv rfl rfl rfl (vr (ob fun _ => ob fun r1 => cT rfl (q_r1 (ob fun v2 => ob fun y3 => (sm_h hF (f := i_is 2 5) rfl).trans (q_is (vi ((sm_h hF (f := i_il 2 6) rfl).trans (q_il rfl ((sm_h hF (f := i_c (.int (64)) 8) rfl).trans (q_c ((sm_h hF (f := i_zz (fun x z => x < z) 32 11) rfl).trans (q_zz (vi (vi (ic ((sm_h hF (f := i_c (.int (1)) 33) rfl).trans (q_c ((sm_h hF (f := i_g 37) rfl).trans (q_g ((sm_h hF (f := i_rz 0 0) rfl).trans (q_rz (vi (rfl)))))))) ((sm_h hF (f := i_il 1 12) rfl).trans (q_il rfl ((sm_h hF (f := i_z (fun x => x = 0) 36 15) rfl).trans (q_z (vi (ic ((sm_h hF (f := i_c (.int (0)) 37) rfl).trans (q_c ((sm_h hF (f := i_rz 0 0) rfl).trans (q_rz (vi (rfl)))))) ((sm_h hF (f := i_il 2 16) rfl).trans (q_il rfl ((sm_h hF (f := i_c (.int (64)) 18) rfl).trans (q_c ((sm_h hF (f := i_zz (fun x z => x = z) 21 36) rfl).trans (q_zz (vi (vi (ic ((sm_h hF (f := i_al 0 22) rfl).trans (q_al rfl ((sm_h hF (f := i_cv 5 1 2 f_X5_lowLong 0 0 0 0 25) rfl).trans (q_cv rfl rfl rfl (vr (ob fun _ => ob fun r4 => cT rfl (q_r2 (ob fun v5 => ob fun y6 => (sm_h hF (f := i_c (.long (-9223372036854775808)) 28) rfl).trans (q_c ((sm_h hF (f := i_lc 29) rfl).trans (q_lc (vl (vl ((sm_h hF (f := i_z (fun x => x = 0) 32 36) rfl).trans (q_z (vi (ic ((sm_h hF (f := i_c (.int (1)) 33) rfl).trans (q_c ((sm_h hF (f := i_g 37) rfl).trans (q_g ((sm_h hF (f := i_rz 0 0) rfl).trans (q_rz (vi (rfl)))))))) ((sm_h hF (f := i_c (.int (0)) 37) rfl).trans (q_c ((sm_h hF (f := i_rz 0 0) rfl).trans (q_rz (vi (rfl))))))))))))))))))))))) ((sm_h hF (f := i_c (.int (0)) 37) rfl).trans (q_c ((sm_h hF (f := i_rz 0 0) rfl).trans (q_rz (vi (rfl))))))))))))))))))))))))))))))))))))))))
/-! X5_kept -/
abbrev rm_X5_kept : Room := { frames := 2, cells := 2, slots := 74, locals := 81 }
noncomputable def T_X5_kept : sm_T := [(0, i_new 5 2 [.null, .int 0] 2 74 3), (3, i_dup 4), (4, i_al 0 5), (5, i_gf 5 1 8), (8, i_cv 5 2 0 f_X5_init 1 72 2 74 11), (11, i_as 1 12), (12, i_al 1 13), (13, i_al 0 14), (14, i_cv 5 2 0 f_X5_copy 0 0 2 74 17), (17, i_al 1 18), (18, i_ra 2 74)]
set_option maxRecDepth 20000 in
theorem A_X5_kept : sd_A yX5_kept cX5_kept 2 (some (.object RX5)) rm_X5_kept T_X5_kept := by
  refine sd_c (pc := 0) (f := i_new 5 2 [.null, .int 0] 2 74 3) (s_new (ci := 5) (N := 2) dX5_kept_0 rfl in_X5 tyX5_ok w347 w41 w4 dfX5) ?_
  refine sd_c (pc := 3) (f := i_dup 4) (s_dup dX5_kept_3) ?_
  refine sd_c (pc := 4) (f := i_al 0 5) (s_aln (i := 0) dX5_kept_4) ?_
  refine sd_c (pc := 5) (f := i_gf 5 1 8) (s_gf (ci := 5) (k := 1) dX5_kept_5 rfl in_X5 (by decide) w52) ?_
  refine sd_c (pc := 8) (f := i_cv 5 2 0 f_X5_init 1 72 2 74 11) (s_ci (np := 1) (ci := 5) (rmz := rm_X5_init) dX5_kept_8 V_X5_init (Or.inl w348) w43 rfl (by decide)) ?_
  refine sd_c (pc := 11) (f := i_as 1 12) (s_asn (i := 1) dX5_kept_11 (by decide)) ?_
  refine sd_c (pc := 12) (f := i_al 1 13) (s_aln (i := 1) dX5_kept_12) ?_
  refine sd_c (pc := 13) (f := i_al 0 14) (s_aln (i := 0) dX5_kept_13) ?_
  refine sd_c (pc := 14) (f := i_cv 5 2 0 f_X5_copy 0 0 2 74 17) (s_cv (np := 1) (rk := 0) (ci := 5) (rmz := rm_X5_copy) dX5_kept_14 V_X5_copy w282 w243 w244 rfl (by decide)) ?_
  refine sd_c (pc := 17) (f := i_al 1 18) (s_aln (i := 1) dX5_kept_17) ?_
  refine sd_c (pc := 18) (f := i_ra 2 74) (s_ra dX5_kept_18 rfl) ?_
  exact sd_n
noncomputable def f_X5_kept : List Value → me_M → Option sm_R := sd_f 2 T_X5_kept
theorem V_X5_kept : sd_V yX5_kept cX5_kept 2 (some (.object RX5)) rm_X5_kept 0 f_X5_kept := ⟨sd_met A_X5_kept (by decide +kernel), w346, w4, by decide +kernel⟩
set_option maxRecDepth 20000 in
theorem e_X5_kept (x0 : Nat) (M : me_M) : f_X5_kept [.ref x0] M = (me_obj (me_new M (.inr (5, [.null, .int 0]))) 5 x0).bind fun f1 => (f1[1]?).bind fun w2 => (me_obj (me_new M (.inr (5, [.null, .int 0]))) 5 M.1).bind fun _ => (f_X5_init [.ref M.1, w2] (me_new M (.inr (5, [.null, .int 0])))).bind fun r3 => cond r3.1.isNone ((me_obj r3.2 5 M.1).bind fun _ => (f_X5_copy [.ref M.1, .ref x0] r3.2).bind fun r4 => cond r4.1.isNone (if 2 ≤ 2 ∧ 74 ≤ 74 then some (some (.ref M.1), r4.2) else none) none) none := (show f_X5_kept [.ref x0] M = sm T_X5_kept (0, [(0, .ref x0)], [], M, 0, 0) from rfl).trans (by have hF := sm_fx A_X5_kept; generalize sm T_X5_kept = F_ at hF ⊢; exact (sm_h hF (f := i_new 5 2 [.null, .int 0] 2 74 3) rfl).trans (q_new (cT rfl ((sm_h hF (f := i_dup 4) rfl).trans (q_dup (vr ((sm_h hF (f := i_al 0 5) rfl).trans (q_al rfl ((sm_h hF (f := i_gf 5 1 8) rfl).trans (q_gf (vr (ob fun f1 => ob fun w2 => (sm_h hF (f := i_cv 5 2 0 f_X5_init 1 72 2 74 11) rfl).trans (q_cv rfl rfl rfl (vr (ob fun _ => ob fun r3 => cT rfl (q_r0 (cg ((sm_h hF (f := i_as 1 12) rfl).trans (q_as (vr ((sm_h hF (f := i_al 1 13) rfl).trans (q_al rfl ((sm_h hF (f := i_al 0 14) rfl).trans (q_al rfl ((sm_h hF (f := i_cv 5 2 0 f_X5_copy 0 0 2 74 17) rfl).trans (q_cv rfl rfl rfl (vr (ob fun _ => ob fun r4 => cT rfl (q_r0 (cg ((sm_h hF (f := i_al 1 18) rfl).trans (q_al rfl ((sm_h hF (f := i_ra 2 74) rfl).trans (q_ra (vn (rfl)))))) rfl))))))))))))) rfl)))))))))))))))))
/-! X5_setProduct -/
abbrev rm_X5_setProduct : Room := { frames := 1, cells := 0, slots := 0, locals := 20 }
noncomputable def T_X5_setProduct : sm_T := [(0, i_al 0 1), (1, i_al 1 2), (2, i_gf 5 1 5), (5, i_al 2 6), (6, i_gf 5 1 9), (9, i_bi (fun x z => x + z) 10), (10, i_pi 5 1 13), (13, i_c (.int (0)) 14), (14, i_w [(15, [0, 1, 2, 3])] (i_is 3 15)), (15, i_il 3 16), (16, i_al 0 17), (17, i_gf 5 1 20), (20, i_zz (fun x z => z ≤ x) 36 23), (23, i_al 0 24), (24, i_gf 5 0 27), (27, i_il 3 28), (28, i_c (.int (0)) 29), (29, i_ist 30), (30, i_inc 3 (1) 33), (33, i_w [(15, [0, 1, 2, 3])] (i_g 15)), (36, i_c (.int (0)) 37), (37, i_w [(38, [0, 1, 2, 3])] (i_is 3 38)), (38, i_il 3 39), (39, i_al 1 40), (40, i_gf 5 1 43), (43, i_zz (fun x z => z ≤ x) 145 46), (46, i_al 1 47), (47, i_gf 5 0 50), (50, i_il 3 51), (51, i_ia 0 52), (52, i_u12 (fun x => x.toInt64) 53), (53, i_ls 4 55), (55, i_c (.long (0)) 56), (56, i_ls 6 58), (58, i_c (.int (0)) 59), (59, i_w [(61, [0, 1, 2, 3, 4, 6, 8])] (i_is 8 61)), (61, i_il 8 63), (63, i_al 2 64), (64, i_gf 5 1 67), (67, i_zz (fun x z => z ≤ x) 125 70), (70, i_ll 6 72), (72, i_ll 4 74), (74, i_al 2 75), (75, i_gf 5 0 78), (78, i_il 8 80), (80, i_ia 0 81), (81, i_u12 (fun x => x.toInt64) 82), (82, i_bl (fun x z => x * z) 83), (83, i_al 0 84), (84, i_gf 5 0 87), (87, i_il 3 88), (88, i_il 8 90), (90, i_bi (fun x z => x + z) 91), (91, i_ia 0 92), (92, i_u12 (fun x => x.toInt64) 93), (93, i_bl (fun x z => x + z) 94), (94, i_bl (fun x z => x + z) 95), (95, i_ls 6 97), (97, i_al 0 98), (98, i_gf 5 0 101), (101, i_il 3 102), (102, i_il 8 104), (104, i_bi (fun x z => x + z) 105), (105, i_ll 6 107), (107, i_u21 (fun x => x.toInt32) 108), (108, i_c (.int (2147483647)) 110), (110, i_bi (fun x z => x &&& z) 111), (111, i_ist 112), (112, i_ll 6 114), (114, i_c (.int (31)) 116), (116, i_sl (fun x z => (x.toUInt64 >>> (z.toInt64.toUInt64 &&& Int64.toUInt64 63)).toInt64) 117), (117, i_ls 6 119), (119, i_inc 8 (1) 122), (122, i_w [(61, [0, 1, 2, 3, 4, 6, 8])] (i_g 61)), (125, i_al 0 126), (126, i_gf 5 0 129), (129, i_il 3 130), (130, i_al 2 131), (131, i_gf 5 1 134), (134, i_bi (fun x z => x + z) 135), (135, i_ll 6 137), (137, i_u21 (fun x => x.toInt32) 138), (138, i_ist 139), (139, i_inc 3 (1) 142), (142, i_w [(38, [0, 1, 2, 3])] (i_g 38)), (145, i_al 0 146), (146, i_cv 5 1 0 f_X5_trim 0 0 0 0 149), (149, i_rv 0 0)]
set_option maxRecDepth 20000 in
theorem A_X5_setProduct : sd_A yX5_setProduct cX5_setProduct 9 none rm_X5_setProduct T_X5_setProduct := by
  refine sd_c (pc := 0) (f := i_al 0 1) (s_aln (i := 0) dX5_setProduct_0) ?_
  refine sd_c (pc := 1) (f := i_al 1 2) (s_aln (i := 1) dX5_setProduct_1) ?_
  refine sd_c (pc := 2) (f := i_gf 5 1 5) (s_gf (ci := 5) (k := 1) dX5_setProduct_2 rfl in_X5 (by decide) w52) ?_
  refine sd_c (pc := 5) (f := i_al 2 6) (s_aln (i := 2) dX5_setProduct_5) ?_
  refine sd_c (pc := 6) (f := i_gf 5 1 9) (s_gf (ci := 5) (k := 1) dX5_setProduct_6 rfl in_X5 (by decide) w52) ?_
  refine sd_c (pc := 9) (f := i_bi (fun x z => x + z) 10) (s_iadd dX5_setProduct_9) ?_
  refine sd_c (pc := 10) (f := i_pi 5 1 13) (s_pi (ci := 5) (k := 1) dX5_setProduct_10 rfl in_X5 tyX5_ok nmX5 (by decide) w52 (Or.inl rfl) rfl) ?_
  refine sd_c (pc := 13) (f := i_c (.int (0)) 14) (s_iconst dX5_setProduct_13 (by decide)) ?_
  refine sd_c (pc := 14) (f := i_w [(15, [0, 1, 2, 3])] (i_is 3 15)) (s_w (s_isn (i := 3) dX5_setProduct_14 (by decide))) ?_
  refine sd_c (pc := 15) (f := i_il 3 16) (s_iln (i := 3) dX5_setProduct_15) ?_
  refine sd_c (pc := 16) (f := i_al 0 17) (s_aln (i := 0) dX5_setProduct_16) ?_
  refine sd_c (pc := 17) (f := i_gf 5 1 20) (s_gf (ci := 5) (k := 1) dX5_setProduct_17 rfl in_X5 (by decide) w52) ?_
  refine sd_c (pc := 20) (f := i_zz (fun x z => z ≤ x) 36 23) (s_ic_ge (tgt := 36) dX5_setProduct_20 (by decide)) ?_
  refine sd_c (pc := 23) (f := i_al 0 24) (s_aln (i := 0) dX5_setProduct_23) ?_
  refine sd_c (pc := 24) (f := i_gf 5 0 27) (s_gf (ci := 5) (k := 0) dX5_setProduct_24 rfl in_X5 (by decide) w49) ?_
  refine sd_c (pc := 27) (f := i_il 3 28) (s_iln (i := 3) dX5_setProduct_27) ?_
  refine sd_c (pc := 28) (f := i_c (.int (0)) 29) (s_iconst dX5_setProduct_28 (by decide)) ?_
  refine sd_c (pc := 29) (f := i_ist 30) (s_ist dX5_setProduct_29) ?_
  refine sd_c (pc := 30) (f := i_inc 3 (1) 33) (s_inc dX5_setProduct_30 (by decide) (by decide)) ?_
  refine sd_c (pc := 33) (f := i_w [(15, [0, 1, 2, 3])] (i_g 15)) (s_w (s_goto (tgt := 15) dX5_setProduct_33 (by decide))) ?_
  refine sd_c (pc := 36) (f := i_c (.int (0)) 37) (s_iconst dX5_setProduct_36 (by decide)) ?_
  refine sd_c (pc := 37) (f := i_w [(38, [0, 1, 2, 3])] (i_is 3 38)) (s_w (s_isn (i := 3) dX5_setProduct_37 (by decide))) ?_
  refine sd_c (pc := 38) (f := i_il 3 39) (s_iln (i := 3) dX5_setProduct_38) ?_
  refine sd_c (pc := 39) (f := i_al 1 40) (s_aln (i := 1) dX5_setProduct_39) ?_
  refine sd_c (pc := 40) (f := i_gf 5 1 43) (s_gf (ci := 5) (k := 1) dX5_setProduct_40 rfl in_X5 (by decide) w52) ?_
  refine sd_c (pc := 43) (f := i_zz (fun x z => z ≤ x) 145 46) (s_ic_ge (tgt := 145) dX5_setProduct_43 (by decide)) ?_
  refine sd_c (pc := 46) (f := i_al 1 47) (s_aln (i := 1) dX5_setProduct_46) ?_
  refine sd_c (pc := 47) (f := i_gf 5 0 50) (s_gf (ci := 5) (k := 0) dX5_setProduct_47 rfl in_X5 (by decide) w49) ?_
  refine sd_c (pc := 50) (f := i_il 3 51) (s_iln (i := 3) dX5_setProduct_50) ?_
  refine sd_c (pc := 51) (f := i_ia 0 52) (s_iald dX5_setProduct_51) ?_
  refine sd_c (pc := 52) (f := i_u12 (fun x => x.toInt64) 53) (s_i2l dX5_setProduct_52) ?_
  refine sd_c (pc := 53) (f := i_ls 4 55) (s_ls (i := 4) dX5_setProduct_53 (by decide)) ?_
  refine sd_c (pc := 55) (f := i_c (.long (0)) 56) (s_lconst dX5_setProduct_55 (by decide)) ?_
  refine sd_c (pc := 56) (f := i_ls 6 58) (s_ls (i := 6) dX5_setProduct_56 (by decide)) ?_
  refine sd_c (pc := 58) (f := i_c (.int (0)) 59) (s_iconst dX5_setProduct_58 (by decide)) ?_
  refine sd_c (pc := 59) (f := i_w [(61, [0, 1, 2, 3, 4, 6, 8])] (i_is 8 61)) (s_w (s_is (i := 8) dX5_setProduct_59 (by decide))) ?_
  refine sd_c (pc := 61) (f := i_il 8 63) (s_il dX5_setProduct_61) ?_
  refine sd_c (pc := 63) (f := i_al 2 64) (s_aln (i := 2) dX5_setProduct_63) ?_
  refine sd_c (pc := 64) (f := i_gf 5 1 67) (s_gf (ci := 5) (k := 1) dX5_setProduct_64 rfl in_X5 (by decide) w52) ?_
  refine sd_c (pc := 67) (f := i_zz (fun x z => z ≤ x) 125 70) (s_ic_ge (tgt := 125) dX5_setProduct_67 (by decide)) ?_
  refine sd_c (pc := 70) (f := i_ll 6 72) (s_ll dX5_setProduct_70) ?_
  refine sd_c (pc := 72) (f := i_ll 4 74) (s_ll dX5_setProduct_72) ?_
  refine sd_c (pc := 74) (f := i_al 2 75) (s_aln (i := 2) dX5_setProduct_74) ?_
  refine sd_c (pc := 75) (f := i_gf 5 0 78) (s_gf (ci := 5) (k := 0) dX5_setProduct_75 rfl in_X5 (by decide) w49) ?_
  refine sd_c (pc := 78) (f := i_il 8 80) (s_il dX5_setProduct_78) ?_
  refine sd_c (pc := 80) (f := i_ia 0 81) (s_iald dX5_setProduct_80) ?_
  refine sd_c (pc := 81) (f := i_u12 (fun x => x.toInt64) 82) (s_i2l dX5_setProduct_81) ?_
  refine sd_c (pc := 82) (f := i_bl (fun x z => x * z) 83) (s_lmul dX5_setProduct_82) ?_
  refine sd_c (pc := 83) (f := i_al 0 84) (s_aln (i := 0) dX5_setProduct_83) ?_
  refine sd_c (pc := 84) (f := i_gf 5 0 87) (s_gf (ci := 5) (k := 0) dX5_setProduct_84 rfl in_X5 (by decide) w49) ?_
  refine sd_c (pc := 87) (f := i_il 3 88) (s_iln (i := 3) dX5_setProduct_87) ?_
  refine sd_c (pc := 88) (f := i_il 8 90) (s_il dX5_setProduct_88) ?_
  refine sd_c (pc := 90) (f := i_bi (fun x z => x + z) 91) (s_iadd dX5_setProduct_90) ?_
  refine sd_c (pc := 91) (f := i_ia 0 92) (s_iald dX5_setProduct_91) ?_
  refine sd_c (pc := 92) (f := i_u12 (fun x => x.toInt64) 93) (s_i2l dX5_setProduct_92) ?_
  refine sd_c (pc := 93) (f := i_bl (fun x z => x + z) 94) (s_ladd dX5_setProduct_93) ?_
  refine sd_c (pc := 94) (f := i_bl (fun x z => x + z) 95) (s_ladd dX5_setProduct_94) ?_
  refine sd_c (pc := 95) (f := i_ls 6 97) (s_ls (i := 6) dX5_setProduct_95 (by decide)) ?_
  refine sd_c (pc := 97) (f := i_al 0 98) (s_aln (i := 0) dX5_setProduct_97) ?_
  refine sd_c (pc := 98) (f := i_gf 5 0 101) (s_gf (ci := 5) (k := 0) dX5_setProduct_98 rfl in_X5 (by decide) w49) ?_
  refine sd_c (pc := 101) (f := i_il 3 102) (s_iln (i := 3) dX5_setProduct_101) ?_
  refine sd_c (pc := 102) (f := i_il 8 104) (s_il dX5_setProduct_102) ?_
  refine sd_c (pc := 104) (f := i_bi (fun x z => x + z) 105) (s_iadd dX5_setProduct_104) ?_
  refine sd_c (pc := 105) (f := i_ll 6 107) (s_ll dX5_setProduct_105) ?_
  refine sd_c (pc := 107) (f := i_u21 (fun x => x.toInt32) 108) (s_l2i dX5_setProduct_107) ?_
  refine sd_c (pc := 108) (f := i_c (.int (2147483647)) 110) (s_ldc dX5_setProduct_108 w89) ?_
  refine sd_c (pc := 110) (f := i_bi (fun x z => x &&& z) 111) (s_iand dX5_setProduct_110) ?_
  refine sd_c (pc := 111) (f := i_ist 112) (s_ist dX5_setProduct_111) ?_
  refine sd_c (pc := 112) (f := i_ll 6 114) (s_ll dX5_setProduct_112) ?_
  refine sd_c (pc := 114) (f := i_c (.int (31)) 116) (s_bipush dX5_setProduct_114 (by decide)) ?_
  refine sd_c (pc := 116) (f := i_sl (fun x z => (x.toUInt64 >>> (z.toInt64.toUInt64 &&& Int64.toUInt64 63)).toInt64) 117) (s_lushr dX5_setProduct_116) ?_
  refine sd_c (pc := 117) (f := i_ls 6 119) (s_ls (i := 6) dX5_setProduct_117 (by decide)) ?_
  refine sd_c (pc := 119) (f := i_inc 8 (1) 122) (s_inc dX5_setProduct_119 (by decide) (by decide)) ?_
  refine sd_c (pc := 122) (f := i_w [(61, [0, 1, 2, 3, 4, 6, 8])] (i_g 61)) (s_w (s_goto (tgt := 61) dX5_setProduct_122 (by decide))) ?_
  refine sd_c (pc := 125) (f := i_al 0 126) (s_aln (i := 0) dX5_setProduct_125) ?_
  refine sd_c (pc := 126) (f := i_gf 5 0 129) (s_gf (ci := 5) (k := 0) dX5_setProduct_126 rfl in_X5 (by decide) w49) ?_
  refine sd_c (pc := 129) (f := i_il 3 130) (s_iln (i := 3) dX5_setProduct_129) ?_
  refine sd_c (pc := 130) (f := i_al 2 131) (s_aln (i := 2) dX5_setProduct_130) ?_
  refine sd_c (pc := 131) (f := i_gf 5 1 134) (s_gf (ci := 5) (k := 1) dX5_setProduct_131 rfl in_X5 (by decide) w52) ?_
  refine sd_c (pc := 134) (f := i_bi (fun x z => x + z) 135) (s_iadd dX5_setProduct_134) ?_
  refine sd_c (pc := 135) (f := i_ll 6 137) (s_ll dX5_setProduct_135) ?_
  refine sd_c (pc := 137) (f := i_u21 (fun x => x.toInt32) 138) (s_l2i dX5_setProduct_137) ?_
  refine sd_c (pc := 138) (f := i_ist 139) (s_ist dX5_setProduct_138) ?_
  refine sd_c (pc := 139) (f := i_inc 3 (1) 142) (s_inc dX5_setProduct_139 (by decide) (by decide)) ?_
  refine sd_c (pc := 142) (f := i_w [(38, [0, 1, 2, 3])] (i_g 38)) (s_w (s_goto (tgt := 38) dX5_setProduct_142 (by decide))) ?_
  refine sd_c (pc := 145) (f := i_al 0 146) (s_aln (i := 0) dX5_setProduct_145) ?_
  refine sd_c (pc := 146) (f := i_cv 5 1 0 f_X5_trim 0 0 0 0 149) (s_cv (np := 0) (rk := 0) (ci := 5) (rmz := rm_X5_trim) dX5_setProduct_146 V_X5_trim w90 w91 w92 rfl (by decide)) ?_
  refine sd_c (pc := 149) (f := i_rv 0 0) (s_rv dX5_setProduct_149 rfl) ?_
  exact sd_n
noncomputable def f_X5_setProduct : List Value → me_M → Option sm_R := sd_f 9 T_X5_setProduct
theorem V_X5_setProduct : sd_V yX5_setProduct cX5_setProduct 9 none rm_X5_setProduct 2 f_X5_setProduct := ⟨sd_met A_X5_setProduct (by decide +kernel), w321, w4, by decide +kernel⟩
set_option maxRecDepth 20000 in
theorem e_X5_setProduct (x0 : Nat) (x1 : Nat) (x2 : Nat) (M : me_M) : f_X5_setProduct [.ref x0, .ref x1, .ref x2] M = (me_obj M 5 x1).bind fun f1 => (f1[1]?).bind fun w2 => (me_obj M 5 x2).bind fun f3 => (f3[1]?).bind fun w4 => (v_int w2).bind fun y5 => (v_int w4).bind fun y6 => (me_obj M 5 x0).bind fun f7 => if 1 < f7.length then (sm T_X5_setProduct (15, [(0, .ref x0), (1, .ref x1), (2, .ref x2), (3, .int (0 : Int32))], [], (me_set M x0 (.inr (5, f7.set 1 (.int (y5 + y6))))), 0, 0)) else none := (show f_X5_setProduct [.ref x0, .ref x1, .ref x2] M = sm T_X5_setProduct (0, [(0, .ref x0), (1, .ref x1), (2, .ref x2)], [], M, 0, 0) from rfl).trans (by have hF := sm_fx A_X5_setProduct; generalize sm T_X5_setProduct = F_ at hF ⊢; exact (sm_h hF (f := i_al 0 1) rfl).trans (q_al rfl ((sm_h hF (f := i_al 1 2) rfl).trans (q_al rfl ((sm_h hF (f := i_gf 5 1 5) rfl).trans (q_gf (vr (ob fun f1 => ob fun w2 => (sm_h hF (f := i_al 2 6) rfl).trans (q_al rfl ((sm_h hF (f := i_gf 5 1 9) rfl).trans (q_gf (vr (ob fun f3 => ob fun w4 => (sm_h hF (f := i_bi (fun x z => x + z) 10) rfl).trans (q_bi (ob fun y5 => ob fun y6 => (sm_h hF (f := i_pi 5 1 13) rfl).trans (q_pi (vi (vr (ob fun f7 => ic ((sm_h hF (f := i_c (.int (0)) 14) rfl).trans (q_c ((sm_h hF (f := i_w [(15, [0, 1, 2, 3])] (i_is 3 15)) rfl).trans (q_w (q_is (vi (rfl))))))) (rfl))))))))))))))))))))
set_option maxRecDepth 20000 in
theorem e_X5_setProduct_15 (x0 : Nat) (x1 : Nat) (x2 : Nat) (x3 : Int32) (M : me_M) : sm T_X5_setProduct (15, [(0, .ref x0), (1, .ref x1), (2, .ref x2), (3, .int x3)], [], M, 0, 0) = (me_obj M 5 x0).bind fun f1 => (f1[1]?).bind fun w2 => (v_int w2).bind fun y3 => if y3 ≤ x3 then (sm T_X5_setProduct (38, [(0, .ref x0), (1, .ref x1), (2, .ref x2), (3, .int (0 : Int32))], [], M, 0, 0)) else (me_obj M 5 x0).bind fun f4 => (f4[0]?).bind fun w5 => (v_ref w5).bind fun a6 => (me_int M 0 a6).bind fun f7 => if x3 < 0 ∨ f7.1 ≤ x3.toNatClampNeg then (none) else sm T_X5_setProduct (15, [(0, .ref x0), (1, .ref x1), (2, .ref x2), (3, .int (x3 + (1)))], [], (me_set M a6 (.inl (0, f7.1, .inl (upd f7.2 x3.toNatClampNeg (0 : Int32))))), 0, 0) := (by have hF := sm_fx A_X5_setProduct; generalize sm T_X5_setProduct = F_ at hF ⊢; exact (sm_h hF (f := i_il 3 16) rfl).trans (q_il rfl ((sm_h hF (f := i_al 0 17) rfl).trans (q_al rfl ((sm_h hF (f := i_gf 5 1 20) rfl).trans (q_gf (vr (ob fun f1 => ob fun w2 => (sm_h hF (f := i_zz (fun x z => z ≤ x) 36 23) rfl).trans (q_zz (vi (ob fun y3 => ic ((sm_h hF (f := i_c (.int (0)) 37) rfl).trans (q_c ((sm_h hF (f := i_w [(38, [0, 1, 2, 3])] (i_is 3 38)) rfl).trans (q_w (q_is (vi (rfl))))))) ((sm_h hF (f := i_al 0 24) rfl).trans (q_al rfl ((sm_h hF (f := i_gf 5 0 27) rfl).trans (q_gf (vr (ob fun f4 => ob fun w5 => (sm_h hF (f := i_il 3 28) rfl).trans (q_il rfl ((sm_h hF (f := i_c (.int (0)) 29) rfl).trans (q_c ((sm_h hF (f := i_ist 30) rfl).trans (q_ist (vi (vi (ob fun a6 => ob fun f7 => ic (rfl) ((sm_h hF (f := i_inc 3 (1) 33) rfl).trans (q_inc rfl ((sm_h hF (f := i_w [(15, [0, 1, 2, 3])] (i_g 15)) rfl).trans (q_w (q_g (rfl)))))))))))))))))))))))))))))))
set_option maxRecDepth 20000 in
theorem e_X5_setProduct_38 (x0 : Nat) (x1 : Nat) (x2 : Nat) (x3 : Int32) (M : me_M) : sm T_X5_setProduct (38, [(0, .ref x0), (1, .ref x1), (2, .ref x2), (3, .int x3)], [], M, 0, 0) = (me_obj M 5 x1).bind fun f1 => (f1[1]?).bind fun w2 => (v_int w2).bind fun y3 => if y3 ≤ x3 then ((me_obj M 5 x0).bind fun _ => (f_X5_trim [.ref x0] M).bind fun r4 => cond r4.1.isNone (if 0 ≤ 0 ∧ 0 ≤ 0 then some (none, r4.2) else none) none) else (me_obj M 5 x1).bind fun f5 => (f5[0]?).bind fun w6 => (v_ref w6).bind fun a7 => (me_int M 0 a7).bind fun f8 => if x3 < 0 ∨ f8.1 ≤ x3.toNatClampNeg then (none) else sm T_X5_setProduct (61, [(0, .ref x0), (1, .ref x1), (2, .ref x2), (3, .int x3), (4, .long ((f8.2 x3.toNatClampNeg).toInt64)), (6, .long (0 : Int64)), (8, .int (0 : Int32))], [], M, 0, 0) := (by have hF := sm_fx A_X5_setProduct; generalize sm T_X5_setProduct = F_ at hF ⊢; exact (sm_h hF (f := i_il 3 39) rfl).trans (q_il rfl ((sm_h hF (f := i_al 1 40) rfl).trans (q_al rfl ((sm_h hF (f := i_gf 5 1 43) rfl).trans (q_gf (vr (ob fun f1 => ob fun w2 => (sm_h hF (f := i_zz (fun x z => z ≤ x) 145 46) rfl).trans (q_zz (vi (ob fun y3 => ic ((sm_h hF (f := i_al 0 146) rfl).trans (q_al rfl ((sm_h hF (f := i_cv 5 1 0 f_X5_trim 0 0 0 0 149) rfl).trans (q_cv rfl rfl rfl (vr (ob fun _ => ob fun r4 => cT rfl (q_r0 (cg ((sm_h hF (f := i_rv 0 0) rfl).trans (q_rv (rfl))) rfl)))))))) ((sm_h hF (f := i_al 1 47) rfl).trans (q_al rfl ((sm_h hF (f := i_gf 5 0 50) rfl).trans (q_gf (vr (ob fun f5 => ob fun w6 => (sm_h hF (f := i_il 3 51) rfl).trans (q_il rfl ((sm_h hF (f := i_ia 0 52) rfl).trans (q_ia (vi (ob fun a7 => ob fun f8 => ic (rfl) ((sm_h hF (f := i_u12 (fun x => x.toInt64) 53) rfl).trans (q_u12 (vi ((sm_h hF (f := i_ls 4 55) rfl).trans (q_ls (vl ((sm_h hF (f := i_c (.long (0)) 56) rfl).trans (q_c ((sm_h hF (f := i_ls 6 58) rfl).trans (q_ls (vl ((sm_h hF (f := i_c (.int (0)) 59) rfl).trans (q_c ((sm_h hF (f := i_w [(61, [0, 1, 2, 3, 4, 6, 8])] (i_is 8 61)) rfl).trans (q_w (q_is (vi (rfl))))))))))))))))))))))))))))))))))))))))
set_option maxRecDepth 20000 in
theorem e_X5_setProduct_61 (x0 : Nat) (x1 : Nat) (x2 : Nat) (x3 : Int32) (x4 : Int64) (x6 : Int64) (x8 : Int32) (M : me_M) : sm T_X5_setProduct (61, [(0, .ref x0), (1, .ref x1), (2, .ref x2), (3, .int x3), (4, .long x4), (6, .long x6), (8, .int x8)], [], M, 0, 0) = (me_obj M 5 x2).bind fun f1 => (f1[1]?).bind fun w2 => (v_int w2).bind fun y3 => if y3 ≤ x8 then ((me_obj M 5 x0).bind fun f4 => (f4[0]?).bind fun w5 => (me_obj M 5 x2).bind fun f6 => (f6[1]?).bind fun w7 => (v_int w7).bind fun y8 => (v_ref w5).bind fun a9 => (me_int M 0 a9).bind fun f10 => if (x3 + y8) < 0 ∨ f10.1 ≤ (x3 + y8).toNatClampNeg then (none) else sm T_X5_setProduct (38, [(0, .ref x0), (1, .ref x1), (2, .ref x2), (3, .int (x3 + (1)))], [], (me_set M a9 (.inl (0, f10.1, .inl (upd f10.2 (x3 + y8).toNatClampNeg x6.toInt32)))), 0, 0)) else (me_obj M 5 x2).bind fun f11 => (f11[0]?).bind fun w12 => (v_ref w12).bind fun a13 => (me_int M 0 a13).bind fun f14 => if x8 < 0 ∨ f14.1 ≤ x8.toNatClampNeg then (none) else (me_obj M 5 x0).bind fun f15 => (f15[0]?).bind fun w16 => (v_ref w16).bind fun a17 => (me_int M 0 a17).bind fun f18 => if (x3 + x8) < 0 ∨ f18.1 ≤ (x3 + x8).toNatClampNeg then (none) else (me_obj M 5 x0).bind fun f19 => (f19[0]?).bind fun w20 => (v_ref w20).bind fun a21 => (me_int M 0 a21).bind fun f22 => if (x3 + x8) < 0 ∨ f22.1 ≤ (x3 + x8).toNatClampNeg then (none) else sm T_X5_setProduct (61, [(0, .ref x0), (1, .ref x1), (2, .ref x2), (3, .int x3), (4, .long x4), (6, .long (((x6 + ((x4 * ((f14.2 x8.toNatClampNeg).toInt64)) + ((f18.2 (x3 + x8).toNatClampNeg).toInt64))).toUInt64 >>> ((31 : Int32).toInt64.toUInt64 &&& Int64.toUInt64 63)).toInt64)), (8, .int (x8 + (1)))], [], (me_set M a21 (.inl (0, f22.1, .inl (upd f22.2 (x3 + x8).toNatClampNeg (((x6 + ((x4 * ((f14.2 x8.toNatClampNeg).toInt64)) + ((f18.2 (x3 + x8).toNatClampNeg).toInt64))).toInt32) &&& (2147483647 : Int32)))))), 0, 0) := (by have hF := sm_fx A_X5_setProduct; generalize sm T_X5_setProduct = F_ at hF ⊢; exact (sm_h hF (f := i_il 8 63) rfl).trans (q_il rfl ((sm_h hF (f := i_al 2 64) rfl).trans (q_al rfl ((sm_h hF (f := i_gf 5 1 67) rfl).trans (q_gf (vr (ob fun f1 => ob fun w2 => (sm_h hF (f := i_zz (fun x z => z ≤ x) 125 70) rfl).trans (q_zz (vi (ob fun y3 => ic ((sm_h hF (f := i_al 0 126) rfl).trans (q_al rfl ((sm_h hF (f := i_gf 5 0 129) rfl).trans (q_gf (vr (ob fun f4 => ob fun w5 => (sm_h hF (f := i_il 3 130) rfl).trans (q_il rfl ((sm_h hF (f := i_al 2 131) rfl).trans (q_al rfl ((sm_h hF (f := i_gf 5 1 134) rfl).trans (q_gf (vr (ob fun f6 => ob fun w7 => (sm_h hF (f := i_bi (fun x z => x + z) 135) rfl).trans (q_bi (vi (ob fun y8 => (sm_h hF (f := i_ll 6 137) rfl).trans (q_ll rfl ((sm_h hF (f := i_u21 (fun x => x.toInt32) 138) rfl).trans (q_u21 (vl ((sm_h hF (f := i_ist 139) rfl).trans (q_ist (vi (vi (ob fun a9 => ob fun f10 => ic (rfl) ((sm_h hF (f := i_inc 3 (1) 142) rfl).trans (q_inc rfl ((sm_h hF (f := i_w [(38, [0, 1, 2, 3])] (i_g 38)) rfl).trans (q_w (q_g (rfl))))))))))))))))))))))))))))))) ((sm_h hF (f := i_ll 6 72) rfl).trans (q_ll rfl ((sm_h hF (f := i_ll 4 74) rfl).trans (q_ll rfl ((sm_h hF (f := i_al 2 75) rfl).trans (q_al rfl ((sm_h hF (f := i_gf 5 0 78) rfl).trans (q_gf (vr (ob fun f11 => ob fun w12 => (sm_h hF (f := i_il 8 80) rfl).trans (q_il rfl ((sm_h hF (f := i_ia 0 81) rfl).trans (q_ia (vi (ob fun a13 => ob fun f14 => ic (rfl) ((sm_h hF (f := i_u12 (fun x => x.toInt64) 82) rfl).trans (q_u12 (vi ((sm_h hF (f := i_bl (fun x z => x * z) 83) rfl).trans (q_bl (vl (vl ((sm_h hF (f := i_al 0 84) rfl).trans (q_al rfl ((sm_h hF (f := i_gf 5 0 87) rfl).trans (q_gf (vr (ob fun f15 => ob fun w16 => (sm_h hF (f := i_il 3 88) rfl).trans (q_il rfl ((sm_h hF (f := i_il 8 90) rfl).trans (q_il rfl ((sm_h hF (f := i_bi (fun x z => x + z) 91) rfl).trans (q_bi (vi (vi ((sm_h hF (f := i_ia 0 92) rfl).trans (q_ia (vi (ob fun a17 => ob fun f18 => ic (rfl) ((sm_h hF (f := i_u12 (fun x => x.toInt64) 93) rfl).trans (q_u12 (vi ((sm_h hF (f := i_bl (fun x z => x + z) 94) rfl).trans (q_bl (vl (vl ((sm_h hF (f := i_bl (fun x z => x + z) 95) rfl).trans (q_bl (vl (vl ((sm_h hF (f := i_ls 6 97) rfl).trans (q_ls (vl ((sm_h hF (f := i_al 0 98) rfl).trans (q_al rfl ((sm_h hF (f := i_gf 5 0 101) rfl).trans (q_gf (vr (ob fun f19 => ob fun w20 => (sm_h hF (f := i_il 3 102) rfl).trans (q_il rfl ((sm_h hF (f := i_il 8 104) rfl).trans (q_il rfl ((sm_h hF (f := i_bi (fun x z => x + z) 105) rfl).trans (q_bi (vi (vi ((sm_h hF (f := i_ll 6 107) rfl).trans (q_ll rfl ((sm_h hF (f := i_u21 (fun x => x.toInt32) 108) rfl).trans (q_u21 (vl ((sm_h hF (f := i_c (.int (2147483647)) 110) rfl).trans (q_c ((sm_h hF (f := i_bi (fun x z => x &&& z) 111) rfl).trans (q_bi (vi (vi ((sm_h hF (f := i_ist 112) rfl).trans (q_ist (vi (vi (ob fun a21 => ob fun f22 => ic (rfl) ((sm_h hF (f := i_ll 6 114) rfl).trans (q_ll rfl ((sm_h hF (f := i_c (.int (31)) 116) rfl).trans (q_c ((sm_h hF (f := i_sl (fun x z => (x.toUInt64 >>> (z.toInt64.toUInt64 &&& Int64.toUInt64 63)).toInt64) 117) rfl).trans (q_sl (vl (vi ((sm_h hF (f := i_ls 6 119) rfl).trans (q_ls (vl ((sm_h hF (f := i_inc 8 (1) 122) rfl).trans (q_inc rfl ((sm_h hF (f := i_w [(61, [0, 1, 2, 3, 4, 6, 8])] (i_g 61)) rfl).trans (q_w (q_g (rfl))))))))))))))))))))))))))))))))))))))))))))))))))))))))))))))))))))))))))))))))))))))))))))))))))))))))))))))
/-! X5_setSum -/
abbrev rm_X5_setSum : Room := { frames := 1, cells := 0, slots := 0, locals := 24 }
noncomputable def T_X5_setSum : sm_T := [(0, i_al 1 1), (1, i_gf 5 1 4), (4, i_al 2 5), (5, i_gf 5 1 8), (8, i_mx 11 0 0), (11, i_is 3 12), (12, i_c (.long (0)) 13), (13, i_ls 4 15), (15, i_c (.int (0)) 16), (16, i_w [(18, [0, 1, 2, 3, 4, 6])] (i_is 6 18)), (18, i_il 6 20), (20, i_il 3 21), (21, i_zz (fun x z => z ≤ x) 68 24), (24, i_ll 4 26), (26, i_al 1 27), (27, i_il 6 29), (29, i_cv 5 2 2 f_X5_limbOrZero 0 0 0 0 32), (32, i_al 2 33), (33, i_il 6 35), (35, i_cv 5 2 2 f_X5_limbOrZero 0 0 0 0 38), (38, i_bl (fun x z => x + z) 39), (39, i_bl (fun x z => x + z) 40), (40, i_ls 4 42), (42, i_al 0 43), (43, i_gf 5 0 46), (46, i_il 6 48), (48, i_ll 4 50), (50, i_u21 (fun x => x.toInt32) 51), (51, i_c (.int (2147483647)) 53), (53, i_bi (fun x z => x &&& z) 54), (54, i_ist 55), (55, i_ll 4 57), (57, i_c (.int (31)) 59), (59, i_sl (fun x z => (x.toUInt64 >>> (z.toInt64.toUInt64 &&& Int64.toUInt64 63)).toInt64) 60), (60, i_ls 4 62), (62, i_inc 6 (1) 65), (65, i_w [(18, [0, 1, 2, 3, 4, 6])] (i_g 18)), (68, i_al 0 69), (69, i_gf 5 0 72), (72, i_il 3 73), (73, i_ll 4 75), (75, i_u21 (fun x => x.toInt32) 76), (76, i_w [(77, [0, 3])] (i_ist 77)), (77, i_al 0 78), (78, i_il 3 79), (79, i_c (.int (1)) 80), (80, i_bi (fun x z => x + z) 81), (81, i_pi 5 1 84), (84, i_al 0 85), (85, i_cv 5 1 0 f_X5_trim 0 0 0 0 88), (88, i_rv 0 0)]
set_option maxRecDepth 20000 in
theorem A_X5_setSum : sd_A yX5_setSum cX5_setSum 7 none rm_X5_setSum T_X5_setSum := by
  refine sd_c (pc := 0) (f := i_al 1 1) (s_aln (i := 1) dX5_setSum_0) ?_
  refine sd_c (pc := 1) (f := i_gf 5 1 4) (s_gf (ci := 5) (k := 1) dX5_setSum_1 rfl in_X5 (by decide) w52) ?_
  refine sd_c (pc := 4) (f := i_al 2 5) (s_aln (i := 2) dX5_setSum_4) ?_
  refine sd_c (pc := 5) (f := i_gf 5 1 8) (s_gf (ci := 5) (k := 1) dX5_setSum_5 rfl in_X5 (by decide) w52) ?_
  refine sd_c (pc := 8) (f := i_mx 11 0 0) (s_mx dX5_setSum_8 w46 w47 w5 w48 (by decide)) ?_
  refine sd_c (pc := 11) (f := i_is 3 12) (s_isn (i := 3) dX5_setSum_11 (by decide)) ?_
  refine sd_c (pc := 12) (f := i_c (.long (0)) 13) (s_lconst dX5_setSum_12 (by decide)) ?_
  refine sd_c (pc := 13) (f := i_ls 4 15) (s_ls (i := 4) dX5_setSum_13 (by decide)) ?_
  refine sd_c (pc := 15) (f := i_c (.int (0)) 16) (s_iconst dX5_setSum_15 (by decide)) ?_
  refine sd_c (pc := 16) (f := i_w [(18, [0, 1, 2, 3, 4, 6])] (i_is 6 18)) (s_w (s_is (i := 6) dX5_setSum_16 (by decide))) ?_
  refine sd_c (pc := 18) (f := i_il 6 20) (s_il dX5_setSum_18) ?_
  refine sd_c (pc := 20) (f := i_il 3 21) (s_iln (i := 3) dX5_setSum_20) ?_
  refine sd_c (pc := 21) (f := i_zz (fun x z => z ≤ x) 68 24) (s_ic_ge (tgt := 68) dX5_setSum_21 (by decide)) ?_
  refine sd_c (pc := 24) (f := i_ll 4 26) (s_ll dX5_setSum_24) ?_
  refine sd_c (pc := 26) (f := i_al 1 27) (s_aln (i := 1) dX5_setSum_26) ?_
  refine sd_c (pc := 27) (f := i_il 6 29) (s_il dX5_setSum_27) ?_
  refine sd_c (pc := 29) (f := i_cv 5 2 2 f_X5_limbOrZero 0 0 0 0 32) (s_cv (np := 1) (rk := 2) (ci := 5) (rmz := rm_X5_limbOrZero) dX5_setSum_29 V_X5_limbOrZero w265 w266 w267 rfl (by decide)) ?_
  refine sd_c (pc := 32) (f := i_al 2 33) (s_aln (i := 2) dX5_setSum_32) ?_
  refine sd_c (pc := 33) (f := i_il 6 35) (s_il dX5_setSum_33) ?_
  refine sd_c (pc := 35) (f := i_cv 5 2 2 f_X5_limbOrZero 0 0 0 0 38) (s_cv (np := 1) (rk := 2) (ci := 5) (rmz := rm_X5_limbOrZero) dX5_setSum_35 V_X5_limbOrZero w265 w266 w267 rfl (by decide)) ?_
  refine sd_c (pc := 38) (f := i_bl (fun x z => x + z) 39) (s_ladd dX5_setSum_38) ?_
  refine sd_c (pc := 39) (f := i_bl (fun x z => x + z) 40) (s_ladd dX5_setSum_39) ?_
  refine sd_c (pc := 40) (f := i_ls 4 42) (s_ls (i := 4) dX5_setSum_40 (by decide)) ?_
  refine sd_c (pc := 42) (f := i_al 0 43) (s_aln (i := 0) dX5_setSum_42) ?_
  refine sd_c (pc := 43) (f := i_gf 5 0 46) (s_gf (ci := 5) (k := 0) dX5_setSum_43 rfl in_X5 (by decide) w49) ?_
  refine sd_c (pc := 46) (f := i_il 6 48) (s_il dX5_setSum_46) ?_
  refine sd_c (pc := 48) (f := i_ll 4 50) (s_ll dX5_setSum_48) ?_
  refine sd_c (pc := 50) (f := i_u21 (fun x => x.toInt32) 51) (s_l2i dX5_setSum_50) ?_
  refine sd_c (pc := 51) (f := i_c (.int (2147483647)) 53) (s_ldc dX5_setSum_51 w89) ?_
  refine sd_c (pc := 53) (f := i_bi (fun x z => x &&& z) 54) (s_iand dX5_setSum_53) ?_
  refine sd_c (pc := 54) (f := i_ist 55) (s_ist dX5_setSum_54) ?_
  refine sd_c (pc := 55) (f := i_ll 4 57) (s_ll dX5_setSum_55) ?_
  refine sd_c (pc := 57) (f := i_c (.int (31)) 59) (s_bipush dX5_setSum_57 (by decide)) ?_
  refine sd_c (pc := 59) (f := i_sl (fun x z => (x.toUInt64 >>> (z.toInt64.toUInt64 &&& Int64.toUInt64 63)).toInt64) 60) (s_lushr dX5_setSum_59) ?_
  refine sd_c (pc := 60) (f := i_ls 4 62) (s_ls (i := 4) dX5_setSum_60 (by decide)) ?_
  refine sd_c (pc := 62) (f := i_inc 6 (1) 65) (s_inc dX5_setSum_62 (by decide) (by decide)) ?_
  refine sd_c (pc := 65) (f := i_w [(18, [0, 1, 2, 3, 4, 6])] (i_g 18)) (s_w (s_goto (tgt := 18) dX5_setSum_65 (by decide))) ?_
  refine sd_c (pc := 68) (f := i_al 0 69) (s_aln (i := 0) dX5_setSum_68) ?_
  refine sd_c (pc := 69) (f := i_gf 5 0 72) (s_gf (ci := 5) (k := 0) dX5_setSum_69 rfl in_X5 (by decide) w49) ?_
  refine sd_c (pc := 72) (f := i_il 3 73) (s_iln (i := 3) dX5_setSum_72) ?_
  refine sd_c (pc := 73) (f := i_ll 4 75) (s_ll dX5_setSum_73) ?_
  refine sd_c (pc := 75) (f := i_u21 (fun x => x.toInt32) 76) (s_l2i dX5_setSum_75) ?_
  refine sd_c (pc := 76) (f := i_w [(77, [0, 3])] (i_ist 77)) (s_w (s_ist dX5_setSum_76)) ?_
  refine sd_c (pc := 77) (f := i_al 0 78) (s_aln (i := 0) dX5_setSum_77) ?_
  refine sd_c (pc := 78) (f := i_il 3 79) (s_iln (i := 3) dX5_setSum_78) ?_
  refine sd_c (pc := 79) (f := i_c (.int (1)) 80) (s_iconst dX5_setSum_79 (by decide)) ?_
  refine sd_c (pc := 80) (f := i_bi (fun x z => x + z) 81) (s_iadd dX5_setSum_80) ?_
  refine sd_c (pc := 81) (f := i_pi 5 1 84) (s_pi (ci := 5) (k := 1) dX5_setSum_81 rfl in_X5 tyX5_ok nmX5 (by decide) w52 (Or.inl rfl) rfl) ?_
  refine sd_c (pc := 84) (f := i_al 0 85) (s_aln (i := 0) dX5_setSum_84) ?_
  refine sd_c (pc := 85) (f := i_cv 5 1 0 f_X5_trim 0 0 0 0 88) (s_cv (np := 0) (rk := 0) (ci := 5) (rmz := rm_X5_trim) dX5_setSum_85 V_X5_trim w90 w91 w92 rfl (by decide)) ?_
  refine sd_c (pc := 88) (f := i_rv 0 0) (s_rv dX5_setSum_88 rfl) ?_
  exact sd_n
noncomputable def f_X5_setSum : List Value → me_M → Option sm_R := sd_f 7 T_X5_setSum
theorem V_X5_setSum : sd_V yX5_setSum cX5_setSum 7 none rm_X5_setSum 2 f_X5_setSum := ⟨sd_met A_X5_setSum (by decide +kernel), w325, w4, by decide +kernel⟩
set_option maxRecDepth 20000 in
theorem e_X5_setSum (x0 : Nat) (x1 : Nat) (x2 : Nat) (M : me_M) : f_X5_setSum [.ref x0, .ref x1, .ref x2] M = (me_obj M 5 x1).bind fun f1 => (f1[1]?).bind fun w2 => (me_obj M 5 x2).bind fun f3 => (f3[1]?).bind fun w4 => (v_int w2).bind fun y5 => (v_int w4).bind fun y6 => sm T_X5_setSum (18, [(0, .ref x0), (1, .ref x1), (2, .ref x2), (3, .int (if y5 < y6 then y6 else y5)), (4, .long (0 : Int64)), (6, .int (0 : Int32))], [], M, 0, 0) := (show f_X5_setSum [.ref x0, .ref x1, .ref x2] M = sm T_X5_setSum (0, [(0, .ref x0), (1, .ref x1), (2, .ref x2)], [], M, 0, 0) from rfl).trans (by have hF := sm_fx A_X5_setSum; generalize sm T_X5_setSum = F_ at hF ⊢; exact (sm_h hF (f := i_al 1 1) rfl).trans (q_al rfl ((sm_h hF (f := i_gf 5 1 4) rfl).trans (q_gf (vr (ob fun f1 => ob fun w2 => (sm_h hF (f := i_al 2 5) rfl).trans (q_al rfl ((sm_h hF (f := i_gf 5 1 8) rfl).trans (q_gf (vr (ob fun f3 => ob fun w4 => (sm_h hF (f := i_mx 11 0 0) rfl).trans (q_mx (cT rfl (ob fun y5 => ob fun y6 => (sm_h hF (f := i_is 3 12) rfl).trans (q_is (vi ((sm_h hF (f := i_c (.long (0)) 13) rfl).trans (q_c ((sm_h hF (f := i_ls 4 15) rfl).trans (q_ls (vl ((sm_h hF (f := i_c (.int (0)) 16) rfl).trans (q_c ((sm_h hF (f := i_w [(18, [0, 1, 2, 3, 4, 6])] (i_is 6 18)) rfl).trans (q_w (q_is (vi (rfl))))))))))))))))))))))))))))
set_option maxRecDepth 20000 in
theorem e_X5_setSum_18 (x0 : Nat) (x1 : Nat) (x2 : Nat) (x3 : Int32) (x4 : Int64) (x6 : Int32) (M : me_M) : sm T_X5_setSum (18, [(0, .ref x0), (1, .ref x1), (2, .ref x2), (3, .int x3), (4, .long x4), (6, .int x6)], [], M, 0, 0) = if x3 ≤ x6 then ((me_obj M 5 x0).bind fun f1 => (f1[0]?).bind fun w2 => (v_ref w2).bind fun a3 => (me_int M 0 a3).bind fun f4 => if x3 < 0 ∨ f4.1 ≤ x3.toNatClampNeg then (none) else sm T_X5_setSum (77, [(0, .ref x0), (3, .int x3)], [], (me_set M a3 (.inl (0, f4.1, .inl (upd f4.2 x3.toNatClampNeg x4.toInt32)))), 0, 0)) else (me_obj M 5 x1).bind fun _ => (f_X5_limbOrZero [.ref x1, .int x6] M).bind fun r5 => r5.1.bind fun v6 => (v_long v6).bind fun y7 => (me_obj r5.2 5 x2).bind fun _ => (f_X5_limbOrZero [.ref x2, .int x6] r5.2).bind fun r8 => r8.1.bind fun v9 => (v_long v9).bind fun y10 => (me_obj r8.2 5 x0).bind fun f11 => (f11[0]?).bind fun w12 => (v_ref w12).bind fun a13 => (me_int r8.2 0 a13).bind fun f14 => if x6 < 0 ∨ f14.1 ≤ x6.toNatClampNeg then (none) else sm T_X5_setSum (18, [(0, .ref x0), (1, .ref x1), (2, .ref x2), (3, .int x3), (4, .long (((x4 + (y7 + y10)).toUInt64 >>> ((31 : Int32).toInt64.toUInt64 &&& Int64.toUInt64 63)).toInt64)), (6, .int (x6 + (1)))], [], (me_set r8.2 a13 (.inl (0, f14.1, .inl (upd f14.2 x6.toNatClampNeg (((x4 + (y7 + y10)).toInt32) &&& (2147483647 : Int32)))))), 0, 0) := (by have hF := sm_fx A_X5_setSum; generalize sm T_X5_setSum = F_ at hF ⊢; exact (sm_h hF (f := i_il 6 20) rfl).trans (q_il rfl ((sm_h hF (f := i_il 3 21) rfl).trans (q_il rfl ((sm_h hF (f := i_zz (fun x z => z ≤ x) 68 24) rfl).trans (q_zz (vi (vi (ic ((sm_h hF (f := i_al 0 69) rfl).trans (q_al rfl ((sm_h hF (f := i_gf 5 0 72) rfl).trans (q_gf (vr (ob fun f1 => ob fun w2 => (sm_h hF (f := i_il 3 73) rfl).trans (q_il rfl ((sm_h hF (f := i_ll 4 75) rfl).trans (q_ll rfl ((sm_h hF (f := i_u21 (fun x => x.toInt32) 76) rfl).trans (q_u21 (vl ((sm_h hF (f := i_w [(77, [0, 3])] (i_ist 77)) rfl).trans (q_w (q_ist (vi (vi (ob fun a3 => ob fun f4 => ic (rfl) (rfl))))))))))))))))))) ((sm_h hF (f := i_ll 4 26) rfl).trans (q_ll rfl ((sm_h hF (f := i_al 1 27) rfl).trans (q_al rfl ((sm_h hF (f := i_il 6 29) rfl).trans (q_il rfl ((sm_h hF (f := i_cv 5 2 2 f_X5_limbOrZero 0 0 0 0 32) rfl).trans (q_cv rfl rfl rfl (vr (ob fun _ => ob fun r5 => cT rfl (q_r2 (ob fun v6 => ob fun y7 => (sm_h hF (f := i_al 2 33) rfl).trans (q_al rfl ((sm_h hF (f := i_il 6 35) rfl).trans (q_il rfl ((sm_h hF (f := i_cv 5 2 2 f_X5_limbOrZero 0 0 0 0 38) rfl).trans (q_cv rfl rfl rfl (vr (ob fun _ => ob fun r8 => cT rfl (q_r2 (ob fun v9 => ob fun y10 => (sm_h hF (f := i_bl (fun x z => x + z) 39) rfl).trans (q_bl (vl (vl ((sm_h hF (f := i_bl (fun x z => x + z) 40) rfl).trans (q_bl (vl (vl ((sm_h hF (f := i_ls 4 42) rfl).trans (q_ls (vl ((sm_h hF (f := i_al 0 43) rfl).trans (q_al rfl ((sm_h hF (f := i_gf 5 0 46) rfl).trans (q_gf (vr (ob fun f11 => ob fun w12 => (sm_h hF (f := i_il 6 48) rfl).trans (q_il rfl ((sm_h hF (f := i_ll 4 50) rfl).trans (q_ll rfl ((sm_h hF (f := i_u21 (fun x => x.toInt32) 51) rfl).trans (q_u21 (vl ((sm_h hF (f := i_c (.int (2147483647)) 53) rfl).trans (q_c ((sm_h hF (f := i_bi (fun x z => x &&& z) 54) rfl).trans (q_bi (vi (vi ((sm_h hF (f := i_ist 55) rfl).trans (q_ist (vi (vi (ob fun a13 => ob fun f14 => ic (rfl) ((sm_h hF (f := i_ll 4 57) rfl).trans (q_ll rfl ((sm_h hF (f := i_c (.int (31)) 59) rfl).trans (q_c ((sm_h hF (f := i_sl (fun x z => (x.toUInt64 >>> (z.toInt64.toUInt64 &&& Int64.toUInt64 63)).toInt64) 60) rfl).trans (q_sl (vl (vi ((sm_h hF (f := i_ls 4 62) rfl).trans (q_ls (vl ((sm_h hF (f := i_inc 6 (1) 65) rfl).trans (q_inc rfl ((sm_h hF (f := i_w [(18, [0, 1, 2, 3, 4, 6])] (i_g 18)) rfl).trans (q_w (q_g (rfl))))))))))))))))))))))))))))))))))))))))))))))))))))))))))))))))))))))))))))))))
set_option maxRecDepth 20000 in
theorem e_X5_setSum_77 (x0 : Nat) (x3 : Int32) (M : me_M) : sm T_X5_setSum (77, [(0, .ref x0), (3, .int x3)], [], M, 0, 0) = (me_obj M 5 x0).bind fun f1 => if 1 < f1.length then ((me_obj (me_set M x0 (.inr (5, f1.set 1 (.int (x3 + (1 : Int32)))))) 5 x0).bind fun _ => (f_X5_trim [.ref x0] (me_set M x0 (.inr (5, f1.set 1 (.int (x3 + (1 : Int32))))))).bind fun r2 => cond r2.1.isNone (if 0 ≤ 0 ∧ 0 ≤ 0 then some (none, r2.2) else none) none) else none := (by have hF := sm_fx A_X5_setSum; generalize sm T_X5_setSum = F_ at hF ⊢; exact (sm_h hF (f := i_al 0 78) rfl).trans (q_al rfl ((sm_h hF (f := i_il 3 79) rfl).trans (q_il rfl ((sm_h hF (f := i_c (.int (1)) 80) rfl).trans (q_c ((sm_h hF (f := i_bi (fun x z => x + z) 81) rfl).trans (q_bi (vi (vi ((sm_h hF (f := i_pi 5 1 84) rfl).trans (q_pi (vi (vr (ob fun f1 => ic ((sm_h hF (f := i_al 0 85) rfl).trans (q_al rfl ((sm_h hF (f := i_cv 5 1 0 f_X5_trim 0 0 0 0 88) rfl).trans (q_cv rfl rfl rfl (vr (ob fun _ => ob fun r2 => cT rfl (q_r0 (cg ((sm_h hF (f := i_rv 0 0) rfl).trans (q_rv (rfl))) rfl)))))))) (rfl))))))))))))))))
/-! X5_setDifference -/
abbrev rm_X5_setDifference : Room := { frames := 1, cells := 0, slots := 0, locals := 21 }
noncomputable def T_X5_setDifference : sm_T := [(0, i_al 1 1), (1, i_gf 5 1 4), (4, i_is 3 5), (5, i_c (.long (0)) 6), (6, i_ls 4 8), (8, i_c (.int (0)) 9), (9, i_w [(11, [0, 1, 2, 3, 4, 6])] (i_is 6 11)), (11, i_il 6 13), (13, i_il 3 14), (14, i_zz (fun x z => z ≤ x) 61 17), (17, i_ll 4 19), (19, i_al 1 20), (20, i_il 6 22), (22, i_cv 5 2 2 f_X5_limbOrZero 0 0 0 0 25), (25, i_al 2 26), (26, i_il 6 28), (28, i_cv 5 2 2 f_X5_limbOrZero 0 0 0 0 31), (31, i_bl (fun x z => x - z) 32), (32, i_bl (fun x z => x + z) 33), (33, i_ls 4 35), (35, i_al 0 36), (36, i_gf 5 0 39), (39, i_il 6 41), (41, i_ll 4 43), (43, i_u21 (fun x => x.toInt32) 44), (44, i_c (.int (2147483647)) 46), (46, i_bi (fun x z => x &&& z) 47), (47, i_ist 48), (48, i_ll 4 50), (50, i_c (.int (31)) 52), (52, i_sl (fun x z => x >>> (z.toInt64 &&& 63)) 53), (53, i_ls 4 55), (55, i_inc 6 (1) 58), (58, i_w [(11, [0, 1, 2, 3, 4, 6])] (i_g 11)), (61, i_al 0 62), (62, i_il 3 63), (63, i_w [(66, [0])] (i_pi 5 1 66)), (66, i_al 0 67), (67, i_cv 5 1 0 f_X5_trim 0 0 0 0 70), (70, i_rv 0 0)]
set_option maxRecDepth 20000 in
theorem A_X5_setDifference : sd_A yX5_setDifference cX5_setDifference 7 none rm_X5_setDifference T_X5_setDifference := by
  refine sd_c (pc := 0) (f := i_al 1 1) (s_aln (i := 1) dX5_setDifference_0) ?_
  refine sd_c (pc := 1) (f := i_gf 5 1 4) (s_gf (ci := 5) (k := 1) dX5_setDifference_1 rfl in_X5 (by decide) w52) ?_
  refine sd_c (pc := 4) (f := i_is 3 5) (s_isn (i := 3) dX5_setDifference_4 (by decide)) ?_
  refine sd_c (pc := 5) (f := i_c (.long (0)) 6) (s_lconst dX5_setDifference_5 (by decide)) ?_
  refine sd_c (pc := 6) (f := i_ls 4 8) (s_ls (i := 4) dX5_setDifference_6 (by decide)) ?_
  refine sd_c (pc := 8) (f := i_c (.int (0)) 9) (s_iconst dX5_setDifference_8 (by decide)) ?_
  refine sd_c (pc := 9) (f := i_w [(11, [0, 1, 2, 3, 4, 6])] (i_is 6 11)) (s_w (s_is (i := 6) dX5_setDifference_9 (by decide))) ?_
  refine sd_c (pc := 11) (f := i_il 6 13) (s_il dX5_setDifference_11) ?_
  refine sd_c (pc := 13) (f := i_il 3 14) (s_iln (i := 3) dX5_setDifference_13) ?_
  refine sd_c (pc := 14) (f := i_zz (fun x z => z ≤ x) 61 17) (s_ic_ge (tgt := 61) dX5_setDifference_14 (by decide)) ?_
  refine sd_c (pc := 17) (f := i_ll 4 19) (s_ll dX5_setDifference_17) ?_
  refine sd_c (pc := 19) (f := i_al 1 20) (s_aln (i := 1) dX5_setDifference_19) ?_
  refine sd_c (pc := 20) (f := i_il 6 22) (s_il dX5_setDifference_20) ?_
  refine sd_c (pc := 22) (f := i_cv 5 2 2 f_X5_limbOrZero 0 0 0 0 25) (s_cv (np := 1) (rk := 2) (ci := 5) (rmz := rm_X5_limbOrZero) dX5_setDifference_22 V_X5_limbOrZero w265 w266 w267 rfl (by decide)) ?_
  refine sd_c (pc := 25) (f := i_al 2 26) (s_aln (i := 2) dX5_setDifference_25) ?_
  refine sd_c (pc := 26) (f := i_il 6 28) (s_il dX5_setDifference_26) ?_
  refine sd_c (pc := 28) (f := i_cv 5 2 2 f_X5_limbOrZero 0 0 0 0 31) (s_cv (np := 1) (rk := 2) (ci := 5) (rmz := rm_X5_limbOrZero) dX5_setDifference_28 V_X5_limbOrZero w265 w266 w267 rfl (by decide)) ?_
  refine sd_c (pc := 31) (f := i_bl (fun x z => x - z) 32) (s_lsub dX5_setDifference_31) ?_
  refine sd_c (pc := 32) (f := i_bl (fun x z => x + z) 33) (s_ladd dX5_setDifference_32) ?_
  refine sd_c (pc := 33) (f := i_ls 4 35) (s_ls (i := 4) dX5_setDifference_33 (by decide)) ?_
  refine sd_c (pc := 35) (f := i_al 0 36) (s_aln (i := 0) dX5_setDifference_35) ?_
  refine sd_c (pc := 36) (f := i_gf 5 0 39) (s_gf (ci := 5) (k := 0) dX5_setDifference_36 rfl in_X5 (by decide) w49) ?_
  refine sd_c (pc := 39) (f := i_il 6 41) (s_il dX5_setDifference_39) ?_
  refine sd_c (pc := 41) (f := i_ll 4 43) (s_ll dX5_setDifference_41) ?_
  refine sd_c (pc := 43) (f := i_u21 (fun x => x.toInt32) 44) (s_l2i dX5_setDifference_43) ?_
  refine sd_c (pc := 44) (f := i_c (.int (2147483647)) 46) (s_ldc dX5_setDifference_44 w89) ?_
  refine sd_c (pc := 46) (f := i_bi (fun x z => x &&& z) 47) (s_iand dX5_setDifference_46) ?_
  refine sd_c (pc := 47) (f := i_ist 48) (s_ist dX5_setDifference_47) ?_
  refine sd_c (pc := 48) (f := i_ll 4 50) (s_ll dX5_setDifference_48) ?_
  refine sd_c (pc := 50) (f := i_c (.int (31)) 52) (s_bipush dX5_setDifference_50 (by decide)) ?_
  refine sd_c (pc := 52) (f := i_sl (fun x z => x >>> (z.toInt64 &&& 63)) 53) (s_lshr dX5_setDifference_52) ?_
  refine sd_c (pc := 53) (f := i_ls 4 55) (s_ls (i := 4) dX5_setDifference_53 (by decide)) ?_
  refine sd_c (pc := 55) (f := i_inc 6 (1) 58) (s_inc dX5_setDifference_55 (by decide) (by decide)) ?_
  refine sd_c (pc := 58) (f := i_w [(11, [0, 1, 2, 3, 4, 6])] (i_g 11)) (s_w (s_goto (tgt := 11) dX5_setDifference_58 (by decide))) ?_
  refine sd_c (pc := 61) (f := i_al 0 62) (s_aln (i := 0) dX5_setDifference_61) ?_
  refine sd_c (pc := 62) (f := i_il 3 63) (s_iln (i := 3) dX5_setDifference_62) ?_
  refine sd_c (pc := 63) (f := i_w [(66, [0])] (i_pi 5 1 66)) (s_w (s_pi (ci := 5) (k := 1) dX5_setDifference_63 rfl in_X5 tyX5_ok nmX5 (by decide) w52 (Or.inl rfl) rfl)) ?_
  refine sd_c (pc := 66) (f := i_al 0 67) (s_aln (i := 0) dX5_setDifference_66) ?_
  refine sd_c (pc := 67) (f := i_cv 5 1 0 f_X5_trim 0 0 0 0 70) (s_cv (np := 0) (rk := 0) (ci := 5) (rmz := rm_X5_trim) dX5_setDifference_67 V_X5_trim w90 w91 w92 rfl (by decide)) ?_
  refine sd_c (pc := 70) (f := i_rv 0 0) (s_rv dX5_setDifference_70 rfl) ?_
  exact sd_n
noncomputable def f_X5_setDifference : List Value → me_M → Option sm_R := sd_f 7 T_X5_setDifference
theorem V_X5_setDifference : sd_V yX5_setDifference cX5_setDifference 7 none rm_X5_setDifference 2 f_X5_setDifference := ⟨sd_met A_X5_setDifference (by decide +kernel), w330, w4, by decide +kernel⟩
set_option maxRecDepth 20000 in
theorem e_X5_setDifference (x0 : Nat) (x1 : Nat) (x2 : Nat) (M : me_M) : f_X5_setDifference [.ref x0, .ref x1, .ref x2] M = (me_obj M 5 x1).bind fun f1 => (f1[1]?).bind fun w2 => (v_int w2).bind fun y3 => sm T_X5_setDifference (11, [(0, .ref x0), (1, .ref x1), (2, .ref x2), (3, .int y3), (4, .long (0 : Int64)), (6, .int (0 : Int32))], [], M, 0, 0) := (show f_X5_setDifference [.ref x0, .ref x1, .ref x2] M = sm T_X5_setDifference (0, [(0, .ref x0), (1, .ref x1), (2, .ref x2)], [], M, 0, 0) from rfl).trans (by have hF := sm_fx A_X5_setDifference; generalize sm T_X5_setDifference = F_ at hF ⊢; exact (sm_h hF (f := i_al 1 1) rfl).trans (q_al rfl ((sm_h hF (f := i_gf 5 1 4) rfl).trans (q_gf (vr (ob fun f1 => ob fun w2 => (sm_h hF (f := i_is 3 5) rfl).trans (q_is (ob fun y3 => (sm_h hF (f := i_c (.long (0)) 6) rfl).trans (q_c ((sm_h hF (f := i_ls 4 8) rfl).trans (q_ls (vl ((sm_h hF (f := i_c (.int (0)) 9) rfl).trans (q_c ((sm_h hF (f := i_w [(11, [0, 1, 2, 3, 4, 6])] (i_is 6 11)) rfl).trans (q_w (q_is (vi (rfl)))))))))))))))))))
set_option maxRecDepth 20000 in
theorem e_X5_setDifference_11 (x0 : Nat) (x1 : Nat) (x2 : Nat) (x3 : Int32) (x4 : Int64) (x6 : Int32) (M : me_M) : sm T_X5_setDifference (11, [(0, .ref x0), (1, .ref x1), (2, .ref x2), (3, .int x3), (4, .long x4), (6, .int x6)], [], M, 0, 0) = if x3 ≤ x6 then ((me_obj M 5 x0).bind fun f1 => if 1 < f1.length then (sm T_X5_setDifference (66, [(0, .ref x0)], [], (me_set M x0 (.inr (5, f1.set 1 (.int x3)))), 0, 0)) else none) else (me_obj M 5 x1).bind fun _ => (f_X5_limbOrZero [.ref x1, .int x6] M).bind fun r2 => r2.1.bind fun v3 => (v_long v3).bind fun y4 => (me_obj r2.2 5 x2).bind fun _ => (f_X5_limbOrZero [.ref x2, .int x6] r2.2).bind fun r5 => r5.1.bind fun v6 => (v_long v6).bind fun y7 => (me_obj r5.2 5 x0).bind fun f8 => (f8[0]?).bind fun w9 => (v_ref w9).bind fun a10 => (me_int r5.2 0 a10).bind fun f11 => if x6 < 0 ∨ f11.1 ≤ x6.toNatClampNeg then (none) else sm T_X5_setDifference (11, [(0, .ref x0), (1, .ref x1), (2, .ref x2), (3, .int x3), (4, .long ((x4 + (y4 - y7)) >>> ((31 : Int32).toInt64 &&& 63))), (6, .int (x6 + (1)))], [], (me_set r5.2 a10 (.inl (0, f11.1, .inl (upd f11.2 x6.toNatClampNeg (((x4 + (y4 - y7)).toInt32) &&& (2147483647 : Int32)))))), 0, 0) := (by have hF := sm_fx A_X5_setDifference; generalize sm T_X5_setDifference = F_ at hF ⊢; exact (sm_h hF (f := i_il 6 13) rfl).trans (q_il rfl ((sm_h hF (f := i_il 3 14) rfl).trans (q_il rfl ((sm_h hF (f := i_zz (fun x z => z ≤ x) 61 17) rfl).trans (q_zz (vi (vi (ic ((sm_h hF (f := i_al 0 62) rfl).trans (q_al rfl ((sm_h hF (f := i_il 3 63) rfl).trans (q_il rfl ((sm_h hF (f := i_w [(66, [0])] (i_pi 5 1 66)) rfl).trans (q_w (q_pi (vi (vr (ob fun f1 => ic (rfl) (rfl))))))))))) ((sm_h hF (f := i_ll 4 19) rfl).trans (q_ll rfl ((sm_h hF (f := i_al 1 20) rfl).trans (q_al rfl ((sm_h hF (f := i_il 6 22) rfl).trans (q_il rfl ((sm_h hF (f := i_cv 5 2 2 f_X5_limbOrZero 0 0 0 0 25) rfl).trans (q_cv rfl rfl rfl (vr (ob fun _ => ob fun r2 => cT rfl (q_r2 (ob fun v3 => ob fun y4 => (sm_h hF (f := i_al 2 26) rfl).trans (q_al rfl ((sm_h hF (f := i_il 6 28) rfl).trans (q_il rfl ((sm_h hF (f := i_cv 5 2 2 f_X5_limbOrZero 0 0 0 0 31) rfl).trans (q_cv rfl rfl rfl (vr (ob fun _ => ob fun r5 => cT rfl (q_r2 (ob fun v6 => ob fun y7 => (sm_h hF (f := i_bl (fun x z => x - z) 32) rfl).trans (q_bl (vl (vl ((sm_h hF (f := i_bl (fun x z => x + z) 33) rfl).trans (q_bl (vl (vl ((sm_h hF (f := i_ls 4 35) rfl).trans (q_ls (vl ((sm_h hF (f := i_al 0 36) rfl).trans (q_al rfl ((sm_h hF (f := i_gf 5 0 39) rfl).trans (q_gf (vr (ob fun f8 => ob fun w9 => (sm_h hF (f := i_il 6 41) rfl).trans (q_il rfl ((sm_h hF (f := i_ll 4 43) rfl).trans (q_ll rfl ((sm_h hF (f := i_u21 (fun x => x.toInt32) 44) rfl).trans (q_u21 (vl ((sm_h hF (f := i_c (.int (2147483647)) 46) rfl).trans (q_c ((sm_h hF (f := i_bi (fun x z => x &&& z) 47) rfl).trans (q_bi (vi (vi ((sm_h hF (f := i_ist 48) rfl).trans (q_ist (vi (vi (ob fun a10 => ob fun f11 => ic (rfl) ((sm_h hF (f := i_ll 4 50) rfl).trans (q_ll rfl ((sm_h hF (f := i_c (.int (31)) 52) rfl).trans (q_c ((sm_h hF (f := i_sl (fun x z => x >>> (z.toInt64 &&& 63)) 53) rfl).trans (q_sl (vl (vi ((sm_h hF (f := i_ls 4 55) rfl).trans (q_ls (vl ((sm_h hF (f := i_inc 6 (1) 58) rfl).trans (q_inc rfl ((sm_h hF (f := i_w [(11, [0, 1, 2, 3, 4, 6])] (i_g 11)) rfl).trans (q_w (q_g (rfl))))))))))))))))))))))))))))))))))))))))))))))))))))))))))))))))))))))))))))))))
set_option maxRecDepth 20000 in
theorem e_X5_setDifference_66 (x0 : Nat) (M : me_M) : sm T_X5_setDifference (66, [(0, .ref x0)], [], M, 0, 0) = (me_obj M 5 x0).bind fun _ => (f_X5_trim [.ref x0] M).bind fun r1 => cond r1.1.isNone (if 0 ≤ 0 ∧ 0 ≤ 0 then some (none, r1.2) else none) none := (by have hF := sm_fx A_X5_setDifference; generalize sm T_X5_setDifference = F_ at hF ⊢; exact (sm_h hF (f := i_al 0 67) rfl).trans (q_al rfl ((sm_h hF (f := i_cv 5 1 0 f_X5_trim 0 0 0 0 70) rfl).trans (q_cv rfl rfl rfl (vr (ob fun _ => ob fun r1 => cT rfl (q_r0 (cg ((sm_h hF (f := i_rv 0 0) rfl).trans (q_rv (rfl))) rfl))))))))
/-! X5_isOdd -/
abbrev rm_X5_isOdd : Room := { frames := 1, cells := 0, slots := 0, locals := 21 }
noncomputable def T_X5_isOdd : sm_T := [(0, i_al 0 1), (1, i_c (.int (0)) 2), (2, i_cv 5 2 2 f_X5_limbOrZero 0 0 0 0 5), (5, i_c (.long (1)) 6), (6, i_bl (fun x z => x &&& z) 7), (7, i_c (.long (1)) 8), (8, i_lc 9), (9, i_z (fun x => x = 0) 12 16), (12, i_c (.int (1)) 13), (13, i_g 17), (16, i_c (.int (0)) 17), (17, i_rz 0 0)]
set_option maxRecDepth 20000 in
theorem A_X5_isOdd : sd_A yX5_isOdd cX5_isOdd 1 (some .boolean) rm_X5_isOdd T_X5_isOdd := by
  refine sd_c (pc := 0) (f := i_al 0 1) (s_aln (i := 0) dX5_isOdd_0) ?_
  refine sd_c (pc := 1) (f := i_c (.int (0)) 2) (s_iconst dX5_isOdd_1 (by decide)) ?_
  refine sd_c (pc := 2) (f := i_cv 5 2 2 f_X5_limbOrZero 0 0 0 0 5) (s_cv (np := 1) (rk := 2) (ci := 5) (rmz := rm_X5_limbOrZero) dX5_isOdd_2 V_X5_limbOrZero w265 w266 w267 rfl (by decide)) ?_
  refine sd_c (pc := 5) (f := i_c (.long (1)) 6) (s_lconst dX5_isOdd_5 (by decide)) ?_
  refine sd_c (pc := 6) (f := i_bl (fun x z => x &&& z) 7) (s_land dX5_isOdd_6) ?_
  refine sd_c (pc := 7) (f := i_c (.long (1)) 8) (s_lconst dX5_isOdd_7 (by decide)) ?_
  refine sd_c (pc := 8) (f := i_lc 9) (s_lcmp dX5_isOdd_8) ?_
  refine sd_c (pc := 9) (f := i_z (fun x => x = 0) 12 16) (s_if_ne (tgt := 16) dX5_isOdd_9 (by decide)) ?_
  refine sd_c (pc := 12) (f := i_c (.int (1)) 13) (s_iconst dX5_isOdd_12 (by decide)) ?_
  refine sd_c (pc := 13) (f := i_g 17) (s_goto (tgt := 17) dX5_isOdd_13 (by decide)) ?_
  refine sd_c (pc := 16) (f := i_c (.int (0)) 17) (s_iconst dX5_isOdd_16 (by decide)) ?_
  refine sd_c (pc := 17) (f := i_rz 0 0) (s_rz dX5_isOdd_17 rfl) ?_
  exact sd_n
noncomputable def f_X5_isOdd : List Value → me_M → Option sm_R := sd_f 1 T_X5_isOdd
theorem V_X5_isOdd : sd_V yX5_isOdd cX5_isOdd 1 (some .boolean) rm_X5_isOdd 0 f_X5_isOdd := ⟨sd_met A_X5_isOdd (by decide +kernel), w414, w4, by decide +kernel⟩
set_option maxRecDepth 20000 in
theorem e_X5_isOdd (x0 : Nat) (M : me_M) : f_X5_isOdd [.ref x0] M = (me_obj M 5 x0).bind fun _ => (f_X5_limbOrZero [.ref x0, .int (0 : Int32)] M).bind fun r1 => r1.1.bind fun v2 => (v_long v2).bind fun y3 => if (lg_cmp (y3 &&& (1 : Int64)) (1 : Int64)) = 0 then (if (1 : Int32) = 0 ∨ (1 : Int32) = 1 then (if 0 ≤ 0 ∧ 0 ≤ 0 then some (some (.int (1 : Int32)), r1.2) else none) else none) else if (0 : Int32) = 0 ∨ (0 : Int32) = 1 then (if 0 ≤ 0 ∧ 0 ≤ 0 then some (some (.int (0 : Int32)), r1.2) else none) else none := (show f_X5_isOdd [.ref x0] M = sm T_X5_isOdd (0, [(0, .ref x0)], [], M, 0, 0) from rfl).trans (by have hF := sm_fx A_X5_isOdd; generalize sm T_X5_isOdd = F_ at hF ⊢; exact (sm_h hF (f := i_al 0 1) rfl).trans (q_al rfl ((sm_h hF (f := i_c (.int (0)) 2) rfl).trans (q_c ((sm_h hF (f := i_cv 5 2 2 f_X5_limbOrZero 0 0 0 0 5) rfl).trans (q_cv rfl rfl rfl (vr (ob fun _ => ob fun r1 => cT rfl (q_r2 (ob fun v2 => ob fun y3 => (sm_h hF (f := i_c (.long (1)) 6) rfl).trans (q_c ((sm_h hF (f := i_bl (fun x z => x &&& z) 7) rfl).trans (q_bl (vl (vl ((sm_h hF (f := i_c (.long (1)) 8) rfl).trans (q_c ((sm_h hF (f := i_lc 9) rfl).trans (q_lc (vl (vl ((sm_h hF (f := i_z (fun x => x = 0) 12 16) rfl).trans (q_z (vi (ic ((sm_h hF (f := i_c (.int (1)) 13) rfl).trans (q_c ((sm_h hF (f := i_g 17) rfl).trans (q_g ((sm_h hF (f := i_rz 0 0) rfl).trans (q_rz (vi (rfl)))))))) ((sm_h hF (f := i_c (.int (0)) 17) rfl).trans (q_c ((sm_h hF (f := i_rz 0 0) rfl).trans (q_rz (vi (rfl)))))))))))))))))))))))))))))))
/-! X5_addOne -/
abbrev rm_X5_addOne : Room := { frames := 0, cells := 0, slots := 0, locals := 0 }
noncomputable def T_X5_addOne : sm_T := [(0, i_c (.int (0)) 1), (1, i_w [(2, [0, 1])] (i_is 1 2)), (2, i_il 1 3), (3, i_al 0 4), (4, i_gf 5 1 7), (7, i_w [(34, [0, 1])] (i_zz (fun x z => z ≤ x) 34 10)), (10, i_al 0 11), (11, i_gf 5 0 14), (14, i_il 1 15), (15, i_ia 0 16), (16, i_c (.int (2147483647)) 18), (18, i_w [(34, [0, 1])] (i_zz (fun x z => x = z) 21 34)), (21, i_al 0 22), (22, i_gf 5 0 25), (25, i_il 1 26), (26, i_c (.int (0)) 27), (27, i_ist 28), (28, i_inc 1 (1) 31), (31, i_w [(2, [0, 1])] (i_g 2)), (34, i_il 1 35), (35, i_al 0 36), (36, i_gf 5 1 39), (39, i_w [(59, [0, 1])] (i_zz (fun x z => x = z) 42 59)), (42, i_al 0 43), (43, i_gf 5 0 46), (46, i_il 1 47), (47, i_c (.int (0)) 48), (48, i_ist 49), (49, i_al 0 50), (50, i_dup 51), (51, i_gf 5 1 54), (54, i_c (.int (1)) 55), (55, i_bi (fun x z => x + z) 56), (56, i_w [(59, [0, 1])] (i_pi 5 1 59)), (59, i_al 0 60), (60, i_gf 5 0 63), (63, i_il 1 64), (64, i_dup2 65), (65, i_ia 0 66), (66, i_c (.int (1)) 67), (67, i_bi (fun x z => x + z) 68), (68, i_ist 69), (69, i_rv 0 0)]
set_option maxRecDepth 20000 in
theorem A_X5_addOne : sd_A yX5_addOne cX5_addOne 2 none rm_X5_addOne T_X5_addOne := by
  refine sd_c (pc := 0) (f := i_c (.int (0)) 1) (s_iconst dX5_addOne_0 (by decide)) ?_
  refine sd_c (pc := 1) (f := i_w [(2, [0, 1])] (i_is 1 2)) (s_w (s_isn (i := 1) dX5_addOne_1 (by decide))) ?_
  refine sd_c (pc := 2) (f := i_il 1 3) (s_iln (i := 1) dX5_addOne_2) ?_
  refine sd_c (pc := 3) (f := i_al 0 4) (s_aln (i := 0) dX5_addOne_3) ?_
  refine sd_c (pc := 4) (f := i_gf 5 1 7) (s_gf (ci := 5) (k := 1) dX5_addOne_4 rfl in_X5 (by decide) w52) ?_
  refine sd_c (pc := 7) (f := i_w [(34, [0, 1])] (i_zz (fun x z => z ≤ x) 34 10)) (s_w (s_ic_ge (tgt := 34) dX5_addOne_7 (by decide))) ?_
  refine sd_c (pc := 10) (f := i_al 0 11) (s_aln (i := 0) dX5_addOne_10) ?_
  refine sd_c (pc := 11) (f := i_gf 5 0 14) (s_gf (ci := 5) (k := 0) dX5_addOne_11 rfl in_X5 (by decide) w49) ?_
  refine sd_c (pc := 14) (f := i_il 1 15) (s_iln (i := 1) dX5_addOne_14) ?_
  refine sd_c (pc := 15) (f := i_ia 0 16) (s_iald dX5_addOne_15) ?_
  refine sd_c (pc := 16) (f := i_c (.int (2147483647)) 18) (s_ldc dX5_addOne_16 w89) ?_
  refine sd_c (pc := 18) (f := i_w [(34, [0, 1])] (i_zz (fun x z => x = z) 21 34)) (s_w (s_ic_ne (tgt := 34) dX5_addOne_18 (by decide))) ?_
  refine sd_c (pc := 21) (f := i_al 0 22) (s_aln (i := 0) dX5_addOne_21) ?_
  refine sd_c (pc := 22) (f := i_gf 5 0 25) (s_gf (ci := 5) (k := 0) dX5_addOne_22 rfl in_X5 (by decide) w49) ?_
  refine sd_c (pc := 25) (f := i_il 1 26) (s_iln (i := 1) dX5_addOne_25) ?_
  refine sd_c (pc := 26) (f := i_c (.int (0)) 27) (s_iconst dX5_addOne_26 (by decide)) ?_
  refine sd_c (pc := 27) (f := i_ist 28) (s_ist dX5_addOne_27) ?_
  refine sd_c (pc := 28) (f := i_inc 1 (1) 31) (s_inc dX5_addOne_28 (by decide) (by decide)) ?_
  refine sd_c (pc := 31) (f := i_w [(2, [0, 1])] (i_g 2)) (s_w (s_goto (tgt := 2) dX5_addOne_31 (by decide))) ?_
  refine sd_c (pc := 34) (f := i_il 1 35) (s_iln (i := 1) dX5_addOne_34) ?_
  refine sd_c (pc := 35) (f := i_al 0 36) (s_aln (i := 0) dX5_addOne_35) ?_
  refine sd_c (pc := 36) (f := i_gf 5 1 39) (s_gf (ci := 5) (k := 1) dX5_addOne_36 rfl in_X5 (by decide) w52) ?_
  refine sd_c (pc := 39) (f := i_w [(59, [0, 1])] (i_zz (fun x z => x = z) 42 59)) (s_w (s_ic_ne (tgt := 59) dX5_addOne_39 (by decide))) ?_
  refine sd_c (pc := 42) (f := i_al 0 43) (s_aln (i := 0) dX5_addOne_42) ?_
  refine sd_c (pc := 43) (f := i_gf 5 0 46) (s_gf (ci := 5) (k := 0) dX5_addOne_43 rfl in_X5 (by decide) w49) ?_
  refine sd_c (pc := 46) (f := i_il 1 47) (s_iln (i := 1) dX5_addOne_46) ?_
  refine sd_c (pc := 47) (f := i_c (.int (0)) 48) (s_iconst dX5_addOne_47 (by decide)) ?_
  refine sd_c (pc := 48) (f := i_ist 49) (s_ist dX5_addOne_48) ?_
  refine sd_c (pc := 49) (f := i_al 0 50) (s_aln (i := 0) dX5_addOne_49) ?_
  refine sd_c (pc := 50) (f := i_dup 51) (s_dup dX5_addOne_50) ?_
  refine sd_c (pc := 51) (f := i_gf 5 1 54) (s_gf (ci := 5) (k := 1) dX5_addOne_51 rfl in_X5 (by decide) w52) ?_
  refine sd_c (pc := 54) (f := i_c (.int (1)) 55) (s_iconst dX5_addOne_54 (by decide)) ?_
  refine sd_c (pc := 55) (f := i_bi (fun x z => x + z) 56) (s_iadd dX5_addOne_55) ?_
  refine sd_c (pc := 56) (f := i_w [(59, [0, 1])] (i_pi 5 1 59)) (s_w (s_pi (ci := 5) (k := 1) dX5_addOne_56 rfl in_X5 tyX5_ok nmX5 (by decide) w52 (Or.inl rfl) rfl)) ?_
  refine sd_c (pc := 59) (f := i_al 0 60) (s_aln (i := 0) dX5_addOne_59) ?_
  refine sd_c (pc := 60) (f := i_gf 5 0 63) (s_gf (ci := 5) (k := 0) dX5_addOne_60 rfl in_X5 (by decide) w49) ?_
  refine sd_c (pc := 63) (f := i_il 1 64) (s_iln (i := 1) dX5_addOne_63) ?_
  refine sd_c (pc := 64) (f := i_dup2 65) (s_dup2 dX5_addOne_64) ?_
  refine sd_c (pc := 65) (f := i_ia 0 66) (s_iald dX5_addOne_65) ?_
  refine sd_c (pc := 66) (f := i_c (.int (1)) 67) (s_iconst dX5_addOne_66 (by decide)) ?_
  refine sd_c (pc := 67) (f := i_bi (fun x z => x + z) 68) (s_iadd dX5_addOne_67) ?_
  refine sd_c (pc := 68) (f := i_ist 69) (s_ist dX5_addOne_68) ?_
  refine sd_c (pc := 69) (f := i_rv 0 0) (s_rv dX5_addOne_69 rfl) ?_
  exact sd_n
noncomputable def f_X5_addOne : List Value → me_M → Option sm_R := sd_f 2 T_X5_addOne
theorem V_X5_addOne : sd_V yX5_addOne cX5_addOne 2 none rm_X5_addOne 0 f_X5_addOne := ⟨sd_met A_X5_addOne (by decide +kernel), w418, w4, by decide +kernel⟩
set_option maxRecDepth 20000 in
theorem e_X5_addOne (x0 : Nat) (M : me_M) : f_X5_addOne [.ref x0] M = sm T_X5_addOne (2, [(0, .ref x0), (1, .int (0 : Int32))], [], M, 0, 0) := (show f_X5_addOne [.ref x0] M = sm T_X5_addOne (0, [(0, .ref x0)], [], M, 0, 0) from rfl).trans (by have hF := sm_fx A_X5_addOne; generalize sm T_X5_addOne = F_ at hF ⊢; exact (sm_h hF (f := i_c (.int (0)) 1) rfl).trans (q_c ((sm_h hF (f := i_w [(2, [0, 1])] (i_is 1 2)) rfl).trans (q_w (q_is (vi (rfl)))))))
set_option maxRecDepth 20000 in
theorem e_X5_addOne_2 (x0 : Nat) (x1 : Int32) (M : me_M) : sm T_X5_addOne (2, [(0, .ref x0), (1, .int x1)], [], M, 0, 0) = (me_obj M 5 x0).bind fun f1 => (f1[1]?).bind fun w2 => (v_int w2).bind fun y3 => if y3 ≤ x1 then (sm T_X5_addOne (34, [(0, .ref x0), (1, .int x1)], [], M, 0, 0)) else (me_obj M 5 x0).bind fun f4 => (f4[0]?).bind fun w5 => (v_ref w5).bind fun a6 => (me_int M 0 a6).bind fun f7 => if x1 < 0 ∨ f7.1 ≤ x1.toNatClampNeg then (none) else if (f7.2 x1.toNatClampNeg) = (2147483647 : Int32) then ((me_obj M 5 x0).bind fun f8 => (f8[0]?).bind fun w9 => (v_ref w9).bind fun a10 => (me_int M 0 a10).bind fun f11 => if x1 < 0 ∨ f11.1 ≤ x1.toNatClampNeg then (none) else sm T_X5_addOne (2, [(0, .ref x0), (1, .int (x1 + (1)))], [], (me_set M a10 (.inl (0, f11.1, .inl (upd f11.2 x1.toNatClampNeg (0 : Int32))))), 0, 0)) else sm T_X5_addOne (34, [(0, .ref x0), (1, .int x1)], [], M, 0, 0) := (by have hF := sm_fx A_X5_addOne; generalize sm T_X5_addOne = F_ at hF ⊢; exact (sm_h hF (f := i_il 1 3) rfl).trans (q_il rfl ((sm_h hF (f := i_al 0 4) rfl).trans (q_al rfl ((sm_h hF (f := i_gf 5 1 7) rfl).trans (q_gf (vr (ob fun f1 => ob fun w2 => (sm_h hF (f := i_w [(34, [0, 1])] (i_zz (fun x z => z ≤ x) 34 10)) rfl).trans (q_w (q_zz (vi (ob fun y3 => ic (rfl) ((sm_h hF (f := i_al 0 11) rfl).trans (q_al rfl ((sm_h hF (f := i_gf 5 0 14) rfl).trans (q_gf (vr (ob fun f4 => ob fun w5 => (sm_h hF (f := i_il 1 15) rfl).trans (q_il rfl ((sm_h hF (f := i_ia 0 16) rfl).trans (q_ia (vi (ob fun a6 => ob fun f7 => ic (rfl) ((sm_h hF (f := i_c (.int (2147483647)) 18) rfl).trans (q_c ((sm_h hF (f := i_w [(34, [0, 1])] (i_zz (fun x z => x = z) 21 34)) rfl).trans (q_w (q_zz (vi (vi (ic ((sm_h hF (f := i_al 0 22) rfl).trans (q_al rfl ((sm_h hF (f := i_gf 5 0 25) rfl).trans (q_gf (vr (ob fun f8 => ob fun w9 => (sm_h hF (f := i_il 1 26) rfl).trans (q_il rfl ((sm_h hF (f := i_c (.int (0)) 27) rfl).trans (q_c ((sm_h hF (f := i_ist 28) rfl).trans (q_ist (vi (vi (ob fun a10 => ob fun f11 => ic (rfl) ((sm_h hF (f := i_inc 1 (1) 31) rfl).trans (q_inc rfl ((sm_h hF (f := i_w [(2, [0, 1])] (i_g 2)) rfl).trans (q_w (q_g (rfl)))))))))))))))))))) (rfl))))))))))))))))))))))))))))))))
set_option maxRecDepth 20000 in
theorem e_X5_addOne_34 (x0 : Nat) (x1 : Int32) (M : me_M) : sm T_X5_addOne (34, [(0, .ref x0), (1, .int x1)], [], M, 0, 0) = (me_obj M 5 x0).bind fun f1 => (f1[1]?).bind fun w2 => (v_int w2).bind fun y3 => if x1 = y3 then ((me_obj M 5 x0).bind fun f4 => (f4[0]?).bind fun w5 => (v_ref w5).bind fun a6 => (me_int M 0 a6).bind fun f7 => if x1 < 0 ∨ f7.1 ≤ x1.toNatClampNeg then (none) else (me_obj (me_set M a6 (.inl (0, f7.1, .inl (upd f7.2 x1.toNatClampNeg (0 : Int32))))) 5 x0).bind fun f8 => (f8[1]?).bind fun w9 => (v_int w9).bind fun y10 => (me_obj (me_set M a6 (.inl (0, f7.1, .inl (upd f7.2 x1.toNatClampNeg (0 : Int32))))) 5 x0).bind fun f11 => if 1 < f11.length then (sm T_X5_addOne (59, [(0, .ref x0), (1, .int x1)], [], (me_set (me_set M a6 (.inl (0, f7.1, .inl (upd f7.2 x1.toNatClampNeg (0 : Int32))))) x0 (.inr (5, f11.set 1 (.int (y10 + (1 : Int32)))))), 0, 0)) else none) else sm T_X5_addOne (59, [(0, .ref x0), (1, .int x1)], [], M, 0, 0) := (by have hF := sm_fx A_X5_addOne; generalize sm T_X5_addOne = F_ at hF ⊢; exact (sm_h hF (f := i_il 1 35) rfl).trans (q_il rfl ((sm_h hF (f := i_al 0 36) rfl).trans (q_al rfl ((sm_h hF (f := i_gf 5 1 39) rfl).trans (q_gf (vr (ob fun f1 => ob fun w2 => (sm_h hF (f := i_w [(59, [0, 1])] (i_zz (fun x z => x = z) 42 59)) rfl).trans (q_w (q_zz (vi (ob fun y3 => ic ((sm_h hF (f := i_al 0 43) rfl).trans (q_al rfl ((sm_h hF (f := i_gf 5 0 46) rfl).trans (q_gf (vr (ob fun f4 => ob fun w5 => (sm_h hF (f := i_il 1 47) rfl).trans (q_il rfl ((sm_h hF (f := i_c (.int (0)) 48) rfl).trans (q_c ((sm_h hF (f := i_ist 49) rfl).trans (q_ist (vi (vi (ob fun a6 => ob fun f7 => ic (rfl) ((sm_h hF (f := i_al 0 50) rfl).trans (q_al rfl ((sm_h hF (f := i_dup 51) rfl).trans (q_dup (vr ((sm_h hF (f := i_gf 5 1 54) rfl).trans (q_gf (vr (ob fun f8 => ob fun w9 => (sm_h hF (f := i_c (.int (1)) 55) rfl).trans (q_c ((sm_h hF (f := i_bi (fun x z => x + z) 56) rfl).trans (q_bi (ob fun y10 => vi ((sm_h hF (f := i_w [(59, [0, 1])] (i_pi 5 1 59)) rfl).trans (q_w (q_pi (vi (vr (ob fun f11 => ic (rfl) (rfl)))))))))))))))))))))))))))))))))) (rfl)))))))))))))
set_option maxRecDepth 20000 in
theorem e_X5_addOne_59 (x0 : Nat) (x1 : Int32) (M : me_M) : sm T_X5_addOne (59, [(0, .ref x0), (1, .int x1)], [], M, 0, 0) = (me_obj M 5 x0).bind fun f1 => (f1[0]?).bind fun w2 => (v_ref w2).bind fun a3 => (me_int M 0 a3).bind fun f4 => if x1 < 0 ∨ f4.1 ≤ x1.toNatClampNeg then (none) else (me_int M 0 a3).bind fun f5 => if x1 < 0 ∨ f5.1 ≤ x1.toNatClampNeg then (none) else if 0 ≤ 0 ∧ 0 ≤ 0 then some (none, (me_set M a3 (.inl (0, f5.1, .inl (upd f5.2 x1.toNatClampNeg ((f4.2 x1.toNatClampNeg) + (1 : Int32))))))) else none := (by have hF := sm_fx A_X5_addOne; generalize sm T_X5_addOne = F_ at hF ⊢; exact (sm_h hF (f := i_al 0 60) rfl).trans (q_al rfl ((sm_h hF (f := i_gf 5 0 63) rfl).trans (q_gf (vr (ob fun f1 => ob fun w2 => (sm_h hF (f := i_il 1 64) rfl).trans (q_il rfl ((sm_h hF (f := i_dup2 65) rfl).trans (q_dup2 (vi (ob fun a3 => (sm_h hF (f := i_ia 0 66) rfl).trans (q_ia (vi (vr (ob fun f4 => ic (rfl) ((sm_h hF (f := i_c (.int (1)) 67) rfl).trans (q_c ((sm_h hF (f := i_bi (fun x z => x + z) 68) rfl).trans (q_bi (vi (vi ((sm_h hF (f := i_ist 69) rfl).trans (q_ist (vi (vi (vr (ob fun f5 => ic (rfl) ((sm_h hF (f := i_rv 0 0) rfl).trans (q_rv (rfl))))))))))))))))))))))))))))))
/-! X5_grow -/
abbrev rm_X5_grow : Room := { frames := 1, cells := 0, slots := 0, locals := 20 }
noncomputable def T_X5_grow : sm_T := [(0, i_c (.long (0)) 1), (1, i_ls 2 2), (2, i_c (.int (0)) 3), (3, i_w [(5, [0, 1, 2, 4])] (i_is 4 5)), (5, i_il 4 7), (7, i_al 0 8), (8, i_gf 5 1 11), (11, i_zz (fun x z => z ≤ x) 51 14), (14, i_ll 2 15), (15, i_il 1 16), (16, i_u12 (fun x => x.toInt64) 17), (17, i_al 0 18), (18, i_gf 5 0 21), (21, i_il 4 23), (23, i_ia 0 24), (24, i_u12 (fun x => x.toInt64) 25), (25, i_bl (fun x z => x * z) 26), (26, i_bl (fun x z => x + z) 27), (27, i_ls 2 28), (28, i_al 0 29), (29, i_gf 5 0 32), (32, i_il 4 34), (34, i_ll 2 35), (35, i_u21 (fun x => x.toInt32) 36), (36, i_c (.int (2147483647)) 38), (38, i_bi (fun x z => x &&& z) 39), (39, i_ist 40), (40, i_ll 2 41), (41, i_c (.int (31)) 43), (43, i_sl (fun x z => (x.toUInt64 >>> (z.toInt64.toUInt64 &&& Int64.toUInt64 63)).toInt64) 44), (44, i_ls 2 45), (45, i_inc 4 (1) 48), (48, i_w [(5, [0, 1, 2, 4])] (i_g 5)), (51, i_al 0 52), (52, i_gf 5 0 55), (55, i_al 0 56), (56, i_gf 5 1 59), (59, i_ll 2 60), (60, i_u21 (fun x => x.toInt32) 61), (61, i_ist 62), (62, i_al 0 63), (63, i_dup 64), (64, i_gf 5 1 67), (67, i_c (.int (1)) 68), (68, i_bi (fun x z => x + z) 69), (69, i_pi 5 1 72), (72, i_al 0 73), (73, i_w [(76, [])] (i_cv 5 1 0 f_X5_trim 0 0 0 0 76)), (76, i_rv 0 0)]
set_option maxRecDepth 20000 in
theorem A_X5_grow : sd_A yX5_grow cX5_grow 5 none rm_X5_grow T_X5_grow := by
  refine sd_c (pc := 0) (f := i_c (.long (0)) 1) (s_lconst dX5_grow_0 (by decide)) ?_
  refine sd_c (pc := 1) (f := i_ls 2 2) (s_lsn (i := 2) dX5_grow_1 (by decide)) ?_
  refine sd_c (pc := 2) (f := i_c (.int (0)) 3) (s_iconst dX5_grow_2 (by decide)) ?_
  refine sd_c (pc := 3) (f := i_w [(5, [0, 1, 2, 4])] (i_is 4 5)) (s_w (s_is (i := 4) dX5_grow_3 (by decide))) ?_
  refine sd_c (pc := 5) (f := i_il 4 7) (s_il dX5_grow_5) ?_
  refine sd_c (pc := 7) (f := i_al 0 8) (s_aln (i := 0) dX5_grow_7) ?_
  refine sd_c (pc := 8) (f := i_gf 5 1 11) (s_gf (ci := 5) (k := 1) dX5_grow_8 rfl in_X5 (by decide) w52) ?_
  refine sd_c (pc := 11) (f := i_zz (fun x z => z ≤ x) 51 14) (s_ic_ge (tgt := 51) dX5_grow_11 (by decide)) ?_
  refine sd_c (pc := 14) (f := i_ll 2 15) (s_lln (i := 2) dX5_grow_14) ?_
  refine sd_c (pc := 15) (f := i_il 1 16) (s_iln (i := 1) dX5_grow_15) ?_
  refine sd_c (pc := 16) (f := i_u12 (fun x => x.toInt64) 17) (s_i2l dX5_grow_16) ?_
  refine sd_c (pc := 17) (f := i_al 0 18) (s_aln (i := 0) dX5_grow_17) ?_
  refine sd_c (pc := 18) (f := i_gf 5 0 21) (s_gf (ci := 5) (k := 0) dX5_grow_18 rfl in_X5 (by decide) w49) ?_
  refine sd_c (pc := 21) (f := i_il 4 23) (s_il dX5_grow_21) ?_
  refine sd_c (pc := 23) (f := i_ia 0 24) (s_iald dX5_grow_23) ?_
  refine sd_c (pc := 24) (f := i_u12 (fun x => x.toInt64) 25) (s_i2l dX5_grow_24) ?_
  refine sd_c (pc := 25) (f := i_bl (fun x z => x * z) 26) (s_lmul dX5_grow_25) ?_
  refine sd_c (pc := 26) (f := i_bl (fun x z => x + z) 27) (s_ladd dX5_grow_26) ?_
  refine sd_c (pc := 27) (f := i_ls 2 28) (s_lsn (i := 2) dX5_grow_27 (by decide)) ?_
  refine sd_c (pc := 28) (f := i_al 0 29) (s_aln (i := 0) dX5_grow_28) ?_
  refine sd_c (pc := 29) (f := i_gf 5 0 32) (s_gf (ci := 5) (k := 0) dX5_grow_29 rfl in_X5 (by decide) w49) ?_
  refine sd_c (pc := 32) (f := i_il 4 34) (s_il dX5_grow_32) ?_
  refine sd_c (pc := 34) (f := i_ll 2 35) (s_lln (i := 2) dX5_grow_34) ?_
  refine sd_c (pc := 35) (f := i_u21 (fun x => x.toInt32) 36) (s_l2i dX5_grow_35) ?_
  refine sd_c (pc := 36) (f := i_c (.int (2147483647)) 38) (s_ldc dX5_grow_36 w89) ?_
  refine sd_c (pc := 38) (f := i_bi (fun x z => x &&& z) 39) (s_iand dX5_grow_38) ?_
  refine sd_c (pc := 39) (f := i_ist 40) (s_ist dX5_grow_39) ?_
  refine sd_c (pc := 40) (f := i_ll 2 41) (s_lln (i := 2) dX5_grow_40) ?_
  refine sd_c (pc := 41) (f := i_c (.int (31)) 43) (s_bipush dX5_grow_41 (by decide)) ?_
  refine sd_c (pc := 43) (f := i_sl (fun x z => (x.toUInt64 >>> (z.toInt64.toUInt64 &&& Int64.toUInt64 63)).toInt64) 44) (s_lushr dX5_grow_43) ?_
  refine sd_c (pc := 44) (f := i_ls 2 45) (s_lsn (i := 2) dX5_grow_44 (by decide)) ?_
  refine sd_c (pc := 45) (f := i_inc 4 (1) 48) (s_inc dX5_grow_45 (by decide) (by decide)) ?_
  refine sd_c (pc := 48) (f := i_w [(5, [0, 1, 2, 4])] (i_g 5)) (s_w (s_goto (tgt := 5) dX5_grow_48 (by decide))) ?_
  refine sd_c (pc := 51) (f := i_al 0 52) (s_aln (i := 0) dX5_grow_51) ?_
  refine sd_c (pc := 52) (f := i_gf 5 0 55) (s_gf (ci := 5) (k := 0) dX5_grow_52 rfl in_X5 (by decide) w49) ?_
  refine sd_c (pc := 55) (f := i_al 0 56) (s_aln (i := 0) dX5_grow_55) ?_
  refine sd_c (pc := 56) (f := i_gf 5 1 59) (s_gf (ci := 5) (k := 1) dX5_grow_56 rfl in_X5 (by decide) w52) ?_
  refine sd_c (pc := 59) (f := i_ll 2 60) (s_lln (i := 2) dX5_grow_59) ?_
  refine sd_c (pc := 60) (f := i_u21 (fun x => x.toInt32) 61) (s_l2i dX5_grow_60) ?_
  refine sd_c (pc := 61) (f := i_ist 62) (s_ist dX5_grow_61) ?_
  refine sd_c (pc := 62) (f := i_al 0 63) (s_aln (i := 0) dX5_grow_62) ?_
  refine sd_c (pc := 63) (f := i_dup 64) (s_dup dX5_grow_63) ?_
  refine sd_c (pc := 64) (f := i_gf 5 1 67) (s_gf (ci := 5) (k := 1) dX5_grow_64 rfl in_X5 (by decide) w52) ?_
  refine sd_c (pc := 67) (f := i_c (.int (1)) 68) (s_iconst dX5_grow_67 (by decide)) ?_
  refine sd_c (pc := 68) (f := i_bi (fun x z => x + z) 69) (s_iadd dX5_grow_68) ?_
  refine sd_c (pc := 69) (f := i_pi 5 1 72) (s_pi (ci := 5) (k := 1) dX5_grow_69 rfl in_X5 tyX5_ok nmX5 (by decide) w52 (Or.inl rfl) rfl) ?_
  refine sd_c (pc := 72) (f := i_al 0 73) (s_aln (i := 0) dX5_grow_72) ?_
  refine sd_c (pc := 73) (f := i_w [(76, [])] (i_cv 5 1 0 f_X5_trim 0 0 0 0 76)) (s_w (s_cv (np := 0) (rk := 0) (ci := 5) (rmz := rm_X5_trim) dX5_grow_73 V_X5_trim w90 w91 w92 rfl (by decide))) ?_
  refine sd_c (pc := 76) (f := i_rv 0 0) (s_rv dX5_grow_76 rfl) ?_
  exact sd_n
noncomputable def f_X5_grow : List Value → me_M → Option sm_R := sd_f 5 T_X5_grow
theorem V_X5_grow : sd_V yX5_grow cX5_grow 5 none rm_X5_grow 1 f_X5_grow := ⟨sd_met A_X5_grow (by decide +kernel), w537, w4, by decide +kernel⟩
set_option maxRecDepth 20000 in
theorem e_X5_grow (x0 : Nat) (x1 : Int32) (M : me_M) : f_X5_grow [.ref x0, .int x1] M = sm T_X5_grow (5, [(0, .ref x0), (1, .int x1), (2, .long (0 : Int64)), (4, .int (0 : Int32))], [], M, 0, 0) := (show f_X5_grow [.ref x0, .int x1] M = sm T_X5_grow (0, [(0, .ref x0), (1, .int x1)], [], M, 0, 0) from rfl).trans (by have hF := sm_fx A_X5_grow; generalize sm T_X5_grow = F_ at hF ⊢; exact (sm_h hF (f := i_c (.long (0)) 1) rfl).trans (q_c ((sm_h hF (f := i_ls 2 2) rfl).trans (q_ls (vl ((sm_h hF (f := i_c (.int (0)) 3) rfl).trans (q_c ((sm_h hF (f := i_w [(5, [0, 1, 2, 4])] (i_is 4 5)) rfl).trans (q_w (q_is (vi (rfl))))))))))))
set_option maxRecDepth 20000 in
theorem e_X5_grow_5 (x0 : Nat) (x1 : Int32) (x2 : Int64) (x4 : Int32) (M : me_M) : sm T_X5_grow (5, [(0, .ref x0), (1, .int x1), (2, .long x2), (4, .int x4)], [], M, 0, 0) = (me_obj M 5 x0).bind fun f1 => (f1[1]?).bind fun w2 => (v_int w2).bind fun y3 => if y3 ≤ x4 then ((me_obj M 5 x0).bind fun f4 => (f4[0]?).bind fun w5 => (me_obj M 5 x0).bind fun f6 => (f6[1]?).bind fun w7 => (v_int w7).bind fun y8 => (v_ref w5).bind fun a9 => (me_int M 0 a9).bind fun f10 => if y8 < 0 ∨ f10.1 ≤ y8.toNatClampNeg then (none) else (me_obj (me_set M a9 (.inl (0, f10.1, .inl (upd f10.2 y8.toNatClampNeg x2.toInt32)))) 5 x0).bind fun f11 => (f11[1]?).bind fun w12 => (v_int w12).bind fun y13 => (me_obj (me_set M a9 (.inl (0, f10.1, .inl (upd f10.2 y8.toNatClampNeg x2.toInt32)))) 5 x0).bind fun f14 => if 1 < f14.length then ((me_obj (me_set (me_set M a9 (.inl (0, f10.1, .inl (upd f10.2 y8.toNatClampNeg x2.toInt32)))) x0 (.inr (5, f14.set 1 (.int (y13 + (1 : Int32)))))) 5 x0).bind fun _ => (f_X5_trim [.ref x0] (me_set (me_set M a9 (.inl (0, f10.1, .inl (upd f10.2 y8.toNatClampNeg x2.toInt32)))) x0 (.inr (5, f14.set 1 (.int (y13 + (1 : Int32))))))).bind fun r15 => cond r15.1.isNone (sm T_X5_grow (76, [], [], r15.2, 0, 0)) none) else none) else (me_obj M 5 x0).bind fun f16 => (f16[0]?).bind fun w17 => (v_ref w17).bind fun a18 => (me_int M 0 a18).bind fun f19 => if x4 < 0 ∨ f19.1 ≤ x4.toNatClampNeg then (none) else (me_obj M 5 x0).bind fun f20 => (f20[0]?).bind fun w21 => (v_ref w21).bind fun a22 => (me_int M 0 a22).bind fun f23 => if x4 < 0 ∨ f23.1 ≤ x4.toNatClampNeg then (none) else sm T_X5_grow (5, [(0, .ref x0), (1, .int x1), (2, .long (((x2 + (x1.toInt64 * ((f19.2 x4.toNatClampNeg).toInt64))).toUInt64 >>> ((31 : Int32).toInt64.toUInt64 &&& Int64.toUInt64 63)).toInt64)), (4, .int (x4 + (1)))], [], (me_set M a22 (.inl (0, f23.1, .inl (upd f23.2 x4.toNatClampNeg (((x2 + (x1.toInt64 * ((f19.2 x4.toNatClampNeg).toInt64))).toInt32) &&& (2147483647 : Int32)))))), 0, 0) := (by have hF := sm_fx A_X5_grow; generalize sm T_X5_grow = F_ at hF ⊢; exact (sm_h hF (f := i_il 4 7) rfl).trans (q_il rfl ((sm_h hF (f := i_al 0 8) rfl).trans (q_al rfl ((sm_h hF (f := i_gf 5 1 11) rfl).trans (q_gf (vr (ob fun f1 => ob fun w2 => (sm_h hF (f := i_zz (fun x z => z ≤ x) 51 14) rfl).trans (q_zz (vi (ob fun y3 => ic ((sm_h hF (f := i_al 0 52) rfl).trans (q_al rfl ((sm_h hF (f := i_gf 5 0 55) rfl).trans (q_gf (vr (ob fun f4 => ob fun w5 => (sm_h hF (f := i_al 0 56) rfl).trans (q_al rfl ((sm_h hF (f := i_gf 5 1 59) rfl).trans (q_gf (vr (ob fun f6 => ob fun w7 => (sm_h hF (f := i_ll 2 60) rfl).trans (q_ll rfl ((sm_h hF (f := i_u21 (fun x => x.toInt32) 61) rfl).trans (q_u21 (vl ((sm_h hF (f := i_ist 62) rfl).trans (q_ist (vi (ob fun y8 => ob fun a9 => ob fun f10 => ic (rfl) ((sm_h hF (f := i_al 0 63) rfl).trans (q_al rfl ((sm_h hF (f := i_dup 64) rfl).trans (q_dup (vr ((sm_h hF (f := i_gf 5 1 67) rfl).trans (q_gf (vr (ob fun f11 => ob fun w12 => (sm_h hF (f := i_c (.int (1)) 68) rfl).trans (q_c ((sm_h hF (f := i_bi (fun x z => x + z) 69) rfl).trans (q_bi (ob fun y13 => vi ((sm_h hF (f := i_pi 5 1 72) rfl).trans (q_pi (vi (vr (ob fun f14 => ic ((sm_h hF (f := i_al 0 73) rfl).trans (q_al rfl ((sm_h hF (f := i_w [(76, [])] (i_cv 5 1 0 f_X5_trim 0 0 0 0 76)) rfl).trans (q_w (q_cv rfl rfl rfl (vr (ob fun _ => ob fun r15 => cT rfl (q_r0 (cg (rfl) rfl))))))))) (rfl)))))))))))))))))))))))))))))))))))))) ((sm_h hF (f := i_ll 2 15) rfl).trans (q_ll rfl ((sm_h hF (f := i_il 1 16) rfl).trans (q_il rfl ((sm_h hF (f := i_u12 (fun x => x.toInt64) 17) rfl).trans (q_u12 (vi ((sm_h hF (f := i_al 0 18) rfl).trans (q_al rfl ((sm_h hF (f := i_gf 5 0 21) rfl).trans (q_gf (vr (ob fun f16 => ob fun w17 => (sm_h hF (f := i_il 4 23) rfl).trans (q_il rfl ((sm_h hF (f := i_ia 0 24) rfl).trans (q_ia (vi (ob fun a18 => ob fun f19 => ic (rfl) ((sm_h hF (f := i_u12 (fun x => x.toInt64) 25) rfl).trans (q_u12 (vi ((sm_h hF (f := i_bl (fun x z => x * z) 26) rfl).trans (q_bl (vl (vl ((sm_h hF (f := i_bl (fun x z => x + z) 27) rfl).trans (q_bl (vl (vl ((sm_h hF (f := i_ls 2 28) rfl).trans (q_ls (vl ((sm_h hF (f := i_al 0 29) rfl).trans (q_al rfl ((sm_h hF (f := i_gf 5 0 32) rfl).trans (q_gf (vr (ob fun f20 => ob fun w21 => (sm_h hF (f := i_il 4 34) rfl).trans (q_il rfl ((sm_h hF (f := i_ll 2 35) rfl).trans (q_ll rfl ((sm_h hF (f := i_u21 (fun x => x.toInt32) 36) rfl).trans (q_u21 (vl ((sm_h hF (f := i_c (.int (2147483647)) 38) rfl).trans (q_c ((sm_h hF (f := i_bi (fun x z => x &&& z) 39) rfl).trans (q_bi (vi (vi ((sm_h hF (f := i_ist 40) rfl).trans (q_ist (vi (vi (ob fun a22 => ob fun f23 => ic (rfl) ((sm_h hF (f := i_ll 2 41) rfl).trans (q_ll rfl ((sm_h hF (f := i_c (.int (31)) 43) rfl).trans (q_c ((sm_h hF (f := i_sl (fun x z => (x.toUInt64 >>> (z.toInt64.toUInt64 &&& Int64.toUInt64 63)).toInt64) 44) rfl).trans (q_sl (vl (vi ((sm_h hF (f := i_ls 2 45) rfl).trans (q_ls (vl ((sm_h hF (f := i_inc 4 (1) 48) rfl).trans (q_inc rfl ((sm_h hF (f := i_w [(5, [0, 1, 2, 4])] (i_g 5)) rfl).trans (q_w (q_g (rfl)))))))))))))))))))))))))))))))))))))))))))))))))))))))))))))))))))))))))))))))))))
set_option maxRecDepth 20000 in
theorem e_X5_grow_76  (M : me_M) : sm T_X5_grow (76, [], [], M, 0, 0) = if 0 ≤ 0 ∧ 0 ≤ 0 then some (none, M) else none := (by have hF := sm_fx A_X5_grow; generalize sm T_X5_grow = F_ at hF ⊢; exact (sm_h hF (f := i_rv 0 0) rfl).trans (q_rv (rfl)))
/-! X5_word -/
abbrev rm_X5_word : Room := { frames := 1, cells := 0, slots := 0, locals := 21 }
noncomputable def T_X5_word : sm_T := [(0, i_c (.int (32)) 2), (2, i_il 1 3), (3, i_bi (fun x z => x * z) 4), (4, i_c (.int (31)) 6), (6, i_qi (fun x z => x / z) 7), (7, i_is 2 8), (8, i_c (.int (32)) 10), (10, i_il 1 11), (11, i_bi (fun x z => x * z) 12), (12, i_c (.int (31)) 14), (14, i_qi (fun x z => x - x / z * z) 15), (15, i_is 3 16), (16, i_al 0 17), (17, i_il 2 18), (18, i_cv 5 2 2 f_X5_limbOrZero 0 0 0 0 21), (21, i_il 3 22), (22, i_sl (fun x z => (x.toUInt64 >>> (z.toInt64.toUInt64 &&& Int64.toUInt64 63)).toInt64) 23), (23, i_al 0 24), (24, i_il 2 25), (25, i_c (.int (1)) 26), (26, i_bi (fun x z => x + z) 27), (27, i_cv 5 2 2 f_X5_limbOrZero 0 0 0 0 30), (30, i_c (.int (31)) 32), (32, i_il 3 33), (33, i_bi (fun x z => x - z) 34), (34, i_sl (fun x z => x <<< (z.toInt64 &&& 63)) 35), (35, i_bl (fun x z => x ||| z) 36), (36, i_u21 (fun x => x.toInt32) 37), (37, i_ri 0 0)]
set_option maxRecDepth 20000 in
theorem A_X5_word : sd_A yX5_word cX5_word 4 (some .int) rm_X5_word T_X5_word := by
  refine sd_c (pc := 0) (f := i_c (.int (32)) 2) (s_bipush dX5_word_0 (by decide)) ?_
  refine sd_c (pc := 2) (f := i_il 1 3) (s_iln (i := 1) dX5_word_2) ?_
  refine sd_c (pc := 3) (f := i_bi (fun x z => x * z) 4) (s_imul dX5_word_3) ?_
  refine sd_c (pc := 4) (f := i_c (.int (31)) 6) (s_bipush dX5_word_4 (by decide)) ?_
  refine sd_c (pc := 6) (f := i_qi (fun x z => x / z) 7) (s_idiv dX5_word_6) ?_
  refine sd_c (pc := 7) (f := i_is 2 8) (s_isn (i := 2) dX5_word_7 (by decide)) ?_
  refine sd_c (pc := 8) (f := i_c (.int (32)) 10) (s_bipush dX5_word_8 (by decide)) ?_
  refine sd_c (pc := 10) (f := i_il 1 11) (s_iln (i := 1) dX5_word_10) ?_
  refine sd_c (pc := 11) (f := i_bi (fun x z => x * z) 12) (s_imul dX5_word_11) ?_
  refine sd_c (pc := 12) (f := i_c (.int (31)) 14) (s_bipush dX5_word_12 (by decide)) ?_
  refine sd_c (pc := 14) (f := i_qi (fun x z => x - x / z * z) 15) (s_irem dX5_word_14) ?_
  refine sd_c (pc := 15) (f := i_is 3 16) (s_isn (i := 3) dX5_word_15 (by decide)) ?_
  refine sd_c (pc := 16) (f := i_al 0 17) (s_aln (i := 0) dX5_word_16) ?_
  refine sd_c (pc := 17) (f := i_il 2 18) (s_iln (i := 2) dX5_word_17) ?_
  refine sd_c (pc := 18) (f := i_cv 5 2 2 f_X5_limbOrZero 0 0 0 0 21) (s_cv (np := 1) (rk := 2) (ci := 5) (rmz := rm_X5_limbOrZero) dX5_word_18 V_X5_limbOrZero w265 w266 w267 rfl (by decide)) ?_
  refine sd_c (pc := 21) (f := i_il 3 22) (s_iln (i := 3) dX5_word_21) ?_
  refine sd_c (pc := 22) (f := i_sl (fun x z => (x.toUInt64 >>> (z.toInt64.toUInt64 &&& Int64.toUInt64 63)).toInt64) 23) (s_lushr dX5_word_22) ?_
  refine sd_c (pc := 23) (f := i_al 0 24) (s_aln (i := 0) dX5_word_23) ?_
  refine sd_c (pc := 24) (f := i_il 2 25) (s_iln (i := 2) dX5_word_24) ?_
  refine sd_c (pc := 25) (f := i_c (.int (1)) 26) (s_iconst dX5_word_25 (by decide)) ?_
  refine sd_c (pc := 26) (f := i_bi (fun x z => x + z) 27) (s_iadd dX5_word_26) ?_
  refine sd_c (pc := 27) (f := i_cv 5 2 2 f_X5_limbOrZero 0 0 0 0 30) (s_cv (np := 1) (rk := 2) (ci := 5) (rmz := rm_X5_limbOrZero) dX5_word_27 V_X5_limbOrZero w265 w266 w267 rfl (by decide)) ?_
  refine sd_c (pc := 30) (f := i_c (.int (31)) 32) (s_bipush dX5_word_30 (by decide)) ?_
  refine sd_c (pc := 32) (f := i_il 3 33) (s_iln (i := 3) dX5_word_32) ?_
  refine sd_c (pc := 33) (f := i_bi (fun x z => x - z) 34) (s_isub dX5_word_33) ?_
  refine sd_c (pc := 34) (f := i_sl (fun x z => x <<< (z.toInt64 &&& 63)) 35) (s_lshl dX5_word_34) ?_
  refine sd_c (pc := 35) (f := i_bl (fun x z => x ||| z) 36) (s_lor dX5_word_35) ?_
  refine sd_c (pc := 36) (f := i_u21 (fun x => x.toInt32) 37) (s_l2i dX5_word_36) ?_
  refine sd_c (pc := 37) (f := i_ri 0 0) (s_ri dX5_word_37 rfl) ?_
  exact sd_n
noncomputable def f_X5_word : List Value → me_M → Option sm_R := sd_f 4 T_X5_word
theorem V_X5_word : sd_V yX5_word cX5_word 4 (some .int) rm_X5_word 1 f_X5_word := ⟨sd_met A_X5_word (by decide +kernel), w730, w4, by decide +kernel⟩
set_option maxRecDepth 20000 in
theorem e_X5_word (x0 : Nat) (x1 : Int32) (M : me_M) : f_X5_word [.ref x0, .int x1] M = if (31 : Int32) = 0 then (none) else if (31 : Int32) = 0 then (none) else (me_obj M 5 x0).bind fun _ => (f_X5_limbOrZero [.ref x0, .int (((32 : Int32) * x1) / (31 : Int32))] M).bind fun r1 => r1.1.bind fun v2 => (v_long v2).bind fun y3 => (me_obj r1.2 5 x0).bind fun _ => (f_X5_limbOrZero [.ref x0, .int ((((32 : Int32) * x1) / (31 : Int32)) + (1 : Int32))] r1.2).bind fun r4 => r4.1.bind fun v5 => (v_long v5).bind fun y6 => if 0 ≤ 0 ∧ 0 ≤ 0 then some (some (.int ((((y3.toUInt64 >>> ((((32 : Int32) * x1) - ((32 : Int32) * x1) / (31 : Int32) * (31 : Int32)).toInt64.toUInt64 &&& Int64.toUInt64 63)).toInt64) ||| (y6 <<< (((31 : Int32) - (((32 : Int32) * x1) - ((32 : Int32) * x1) / (31 : Int32) * (31 : Int32))).toInt64 &&& 63))).toInt32)), r4.2) else none := (show f_X5_word [.ref x0, .int x1] M = sm T_X5_word (0, [(0, .ref x0), (1, .int x1)], [], M, 0, 0) from rfl).trans (by have hF := sm_fx A_X5_word; generalize sm T_X5_word = F_ at hF ⊢; exact (sm_h hF (f := i_c (.int (32)) 2) rfl).trans (q_c ((sm_h hF (f := i_il 1 3) rfl).trans (q_il rfl ((sm_h hF (f := i_bi (fun x z => x * z) 4) rfl).trans (q_bi (vi (vi ((sm_h hF (f := i_c (.int (31)) 6) rfl).trans (q_c ((sm_h hF (f := i_qi (fun x z => x / z) 7) rfl).trans (q_qi (vi (vi (ic (rfl) ((sm_h hF (f := i_is 2 8) rfl).trans (q_is (vi ((sm_h hF (f := i_c (.int (32)) 10) rfl).trans (q_c ((sm_h hF (f := i_il 1 11) rfl).trans (q_il rfl ((sm_h hF (f := i_bi (fun x z => x * z) 12) rfl).trans (q_bi (vi (vi ((sm_h hF (f := i_c (.int (31)) 14) rfl).trans (q_c ((sm_h hF (f := i_qi (fun x z => x - x / z * z) 15) rfl).trans (q_qi (vi (vi (ic (rfl) ((sm_h hF (f := i_is 3 16) rfl).trans (q_is (vi ((sm_h hF (f := i_al 0 17) rfl).trans (q_al rfl ((sm_h hF (f := i_il 2 18) rfl).trans (q_il rfl ((sm_h hF (f := i_cv 5 2 2 f_X5_limbOrZero 0 0 0 0 21) rfl).trans (q_cv rfl rfl rfl (vr (ob fun _ => ob fun r1 => cT rfl (q_r2 (ob fun v2 => ob fun y3 => (sm_h hF (f := i_il 3 22) rfl).trans (q_il rfl ((sm_h hF (f := i_sl (fun x z => (x.toUInt64 >>> (z.toInt64.toUInt64 &&& Int64.toUInt64 63)).toInt64) 23) rfl).trans (q_sl (vl (vi ((sm_h hF (f := i_al 0 24) rfl).trans (q_al rfl ((sm_h hF (f := i_il 2 25) rfl).trans (q_il rfl ((sm_h hF (f := i_c (.int (1)) 26) rfl).trans (q_c ((sm_h hF (f := i_bi (fun x z => x + z) 27) rfl).trans (q_bi (vi (vi ((sm_h hF (f := i_cv 5 2 2 f_X5_limbOrZero 0 0 0 0 30) rfl).trans (q_cv rfl rfl rfl (vr (ob fun _ => ob fun r4 => cT rfl (q_r2 (ob fun v5 => ob fun y6 => (sm_h hF (f := i_c (.int (31)) 32) rfl).trans (q_c ((sm_h hF (f := i_il 3 33) rfl).trans (q_il rfl ((sm_h hF (f := i_bi (fun x z => x - z) 34) rfl).trans (q_bi (vi (vi ((sm_h hF (f := i_sl (fun x z => x <<< (z.toInt64 &&& 63)) 35) rfl).trans (q_sl (vl (vi ((sm_h hF (f := i_bl (fun x z => x ||| z) 36) rfl).trans (q_bl (vl (vl ((sm_h hF (f := i_u21 (fun x => x.toInt32) 37) rfl).trans (q_u21 (vl ((sm_h hF (f := i_ri 0 0) rfl).trans (q_ri (vi (rfl)))))))))))))))))))))))))))))))))))))))))))))))))))))))))))))))))))))))))))))))))))))))))
