/-! X7_across -/
abbrev rm_X7_across : Room := { frames := 2, cells := 0, slots := 0, locals := 51 }
noncomputable def T_X7_across : sm_T := [(0, i_al 0 1), (1, i_c (.int (10)) 3), (3, i_c (.int (2)) 4), (4, i_il 1 5), (5, i_bi (fun x z => x * z) 6), (6, i_c (.int (2)) 7), (7, i_il 2 8), (8, i_bi (fun x z => x * z) 9), (9, i_c (.int (1)) 10), (10, i_bi (fun x z => x + z) 11), (11, i_cv 7 4 0 f_X7_multiply 0 0 0 0 14), (14, i_al 0 15), (15, i_c (.int (11)) 17), (17, i_c (.int (2)) 18), (18, i_il 2 19), (19, i_bi (fun x z => x * z) 20), (20, i_c (.int (2)) 21), (21, i_il 1 22), (22, i_bi (fun x z => x * z) 23), (23, i_c (.int (1)) 24), (24, i_bi (fun x z => x + z) 25), (25, i_cv 7 4 0 f_X7_multiply 0 0 0 0 28), (28, i_rv 0 0)]
set_option maxRecDepth 20000 in
theorem A_X7_across : sd_A yX7_across cX7_across 3 none rm_X7_across T_X7_across := by
  refine sd_c (pc := 0) (f := i_al 0 1) (s_aln (i := 0) dX7_across_0) ?_
  refine sd_c (pc := 1) (f := i_c (.int (10)) 3) (s_bipush dX7_across_1 (by decide)) ?_
  refine sd_c (pc := 3) (f := i_c (.int (2)) 4) (s_iconst dX7_across_3 (by decide)) ?_
  refine sd_c (pc := 4) (f := i_il 1 5) (s_iln (i := 1) dX7_across_4) ?_
  refine sd_c (pc := 5) (f := i_bi (fun x z => x * z) 6) (s_imul dX7_across_5) ?_
  refine sd_c (pc := 6) (f := i_c (.int (2)) 7) (s_iconst dX7_across_6 (by decide)) ?_
  refine sd_c (pc := 7) (f := i_il 2 8) (s_iln (i := 2) dX7_across_7) ?_
  refine sd_c (pc := 8) (f := i_bi (fun x z => x * z) 9) (s_imul dX7_across_8) ?_
  refine sd_c (pc := 9) (f := i_c (.int (1)) 10) (s_iconst dX7_across_9 (by decide)) ?_
  refine sd_c (pc := 10) (f := i_bi (fun x z => x + z) 11) (s_iadd dX7_across_10) ?_
  refine sd_c (pc := 11) (f := i_cv 7 4 0 f_X7_multiply 0 0 0 0 14) (s_cv (np := 3) (rk := 0) (ci := 7) (rmz := rm_X7_multiply) dX7_across_11 V_X7_multiply w924 w926 wS_PlanFractionsModel_multiply__III_V rfl (by decide)) ?_
  refine sd_c (pc := 14) (f := i_al 0 15) (s_aln (i := 0) dX7_across_14) ?_
  refine sd_c (pc := 15) (f := i_c (.int (11)) 17) (s_bipush dX7_across_15 (by decide)) ?_
  refine sd_c (pc := 17) (f := i_c (.int (2)) 18) (s_iconst dX7_across_17 (by decide)) ?_
  refine sd_c (pc := 18) (f := i_il 2 19) (s_iln (i := 2) dX7_across_18) ?_
  refine sd_c (pc := 19) (f := i_bi (fun x z => x * z) 20) (s_imul dX7_across_19) ?_
  refine sd_c (pc := 20) (f := i_c (.int (2)) 21) (s_iconst dX7_across_20 (by decide)) ?_
  refine sd_c (pc := 21) (f := i_il 1 22) (s_iln (i := 1) dX7_across_21) ?_
  refine sd_c (pc := 22) (f := i_bi (fun x z => x * z) 23) (s_imul dX7_across_22) ?_
  refine sd_c (pc := 23) (f := i_c (.int (1)) 24) (s_iconst dX7_across_23 (by decide)) ?_
  refine sd_c (pc := 24) (f := i_bi (fun x z => x + z) 25) (s_iadd dX7_across_24) ?_
  refine sd_c (pc := 25) (f := i_cv 7 4 0 f_X7_multiply 0 0 0 0 28) (s_cv (np := 3) (rk := 0) (ci := 7) (rmz := rm_X7_multiply) dX7_across_25 V_X7_multiply w924 w926 wS_PlanFractionsModel_multiply__III_V rfl (by decide)) ?_
  refine sd_c (pc := 28) (f := i_rv 0 0) (s_rv dX7_across_28 rfl) ?_
  exact sd_n
noncomputable def f_X7_across : List Value → me_M → Option sm_R := sd_f 3 T_X7_across
theorem V_X7_across : sd_V yX7_across cX7_across 3 none rm_X7_across 2 f_X7_across := ⟨sd_met A_X7_across (by decide +kernel), w923, w8, by decide +kernel⟩
set_option maxRecDepth 20000 in
theorem e_X7_across (x0 : Nat) (x1 : Int32) (x2 : Int32) (M : me_M) : f_X7_across [.ref x0, .int x1, .int x2] M = (me_obj M 7 x0).bind fun _ => (f_X7_multiply [.ref x0, .int (10 : Int32), .int ((2 : Int32) * x1), .int (((2 : Int32) * x2) + (1 : Int32))] M).bind fun r1 => cond r1.1.isNone ((me_obj r1.2 7 x0).bind fun _ => (f_X7_multiply [.ref x0, .int (11 : Int32), .int ((2 : Int32) * x2), .int (((2 : Int32) * x1) + (1 : Int32))] r1.2).bind fun r2 => cond r2.1.isNone (if 0 ≤ 0 ∧ 0 ≤ 0 then some (none, r2.2) else none) none) none := (show f_X7_across [.ref x0, .int x1, .int x2] M = sm T_X7_across (0, [(0, .ref x0), (1, .int x1), (2, .int x2)], [], M, 0, 0) from rfl).trans (by have hF := sm_fx A_X7_across; generalize sm T_X7_across = F_ at hF ⊢; exact (sm_h hF (f := i_al 0 1) rfl).trans (q_al rfl ((sm_h hF (f := i_c (.int (10)) 3) rfl).trans (q_c ((sm_h hF (f := i_c (.int (2)) 4) rfl).trans (q_c ((sm_h hF (f := i_il 1 5) rfl).trans (q_il rfl ((sm_h hF (f := i_bi (fun x z => x * z) 6) rfl).trans (q_bi (vi (vi ((sm_h hF (f := i_c (.int (2)) 7) rfl).trans (q_c ((sm_h hF (f := i_il 2 8) rfl).trans (q_il rfl ((sm_h hF (f := i_bi (fun x z => x * z) 9) rfl).trans (q_bi (vi (vi ((sm_h hF (f := i_c (.int (1)) 10) rfl).trans (q_c ((sm_h hF (f := i_bi (fun x z => x + z) 11) rfl).trans (q_bi (vi (vi ((sm_h hF (f := i_cv 7 4 0 f_X7_multiply 0 0 0 0 14) rfl).trans (q_cv rfl rfl rfl (vr (ob fun _ => ob fun r1 => cT rfl (q_r0 (cg ((sm_h hF (f := i_al 0 15) rfl).trans (q_al rfl ((sm_h hF (f := i_c (.int (11)) 17) rfl).trans (q_c ((sm_h hF (f := i_c (.int (2)) 18) rfl).trans (q_c ((sm_h hF (f := i_il 2 19) rfl).trans (q_il rfl ((sm_h hF (f := i_bi (fun x z => x * z) 20) rfl).trans (q_bi (vi (vi ((sm_h hF (f := i_c (.int (2)) 21) rfl).trans (q_c ((sm_h hF (f := i_il 1 22) rfl).trans (q_il rfl ((sm_h hF (f := i_bi (fun x z => x * z) 23) rfl).trans (q_bi (vi (vi ((sm_h hF (f := i_c (.int (1)) 24) rfl).trans (q_c ((sm_h hF (f := i_bi (fun x z => x + z) 25) rfl).trans (q_bi (vi (vi ((sm_h hF (f := i_cv 7 4 0 f_X7_multiply 0 0 0 0 28) rfl).trans (q_cv rfl rfl rfl (vr (ob fun _ => ob fun r2 => cT rfl (q_r0 (cg ((sm_h hF (f := i_rv 0 0) rfl).trans (q_rv (rfl))) rfl)))))))))))))))))))))))))))))))) rfl))))))))))))))))))))))))))))))))
/-! X7_sum -/
abbrev rm_X7_sum : Room := { frames := 6, cells := 0, slots := 0, locals := 149 }
noncomputable def T_X7_sum : sm_T := [(0, i_al 0 1), (1, i_il 1 2), (2, i_il 2 3), (3, i_cv 7 3 0 f_X7_across 0 0 0 0 6), (6, i_al 0 7), (7, i_gf 7 3 10), (10, i_il 1 11), (11, i_ia 0 12), (12, i_is 4 14), (14, i_il 3 15), (15, i_z (fun x => x = 0) 28 18), (18, i_al 0 19), (19, i_gf 7 3 22), (22, i_il 2 23), (23, i_ia 0 24), (24, i_u11 (fun x => -x) 25), (25, i_w [(34, [0, 1, 2, 4])] (i_g 34)), (28, i_al 0 29), (29, i_gf 7 3 32), (32, i_il 2 33), (33, i_w [(34, [0, 1, 2, 4])] (i_ia 0 34)), (34, i_is 5 36), (36, i_il 4 38), (38, i_w [(53, [0, 1, 2, 4, 5])] (i_z (fun x => x = 0) 53 41)), (41, i_il 5 43), (43, i_w [(53, [0, 1, 2, 4, 5])] (i_z (fun x => x = 0) 53 46)), (46, i_il 4 48), (48, i_il 5 50), (50, i_w [(53, [0, 1, 2, 4, 5])] (i_zz (fun x z => x = z) 53 83)), (53, i_al 0 54), (54, i_c (.int (0)) 55), (55, i_c (.int (10)) 57), (57, i_c (.int (11)) 59), (59, i_cv 7 4 0 f_X7_plus 0 0 0 0 62), (62, i_al 0 63), (63, i_gf 7 3 66), (66, i_c (.int (0)) 67), (67, i_il 4 69), (69, i_z (fun x => x = 0) 72 77), (72, i_il 5 74), (74, i_w [(79, [0, 1, 2])] (i_g 79)), (77, i_w [(79, [0, 1, 2])] (i_il 4 79)), (79, i_ist 80), (80, i_w [(154, [0, 1, 2])] (i_g 154)), (83, i_al 0 84), (84, i_c (.int (10)) 86), (86, i_c (.int (11)) 88), (88, i_cv 7 3 1 f_X7_compare 0 0 0 0 91), (91, i_z (fun x => x < 0) 98 94), (94, i_c (.int (1)) 95), (95, i_w [(99, [0, 1, 2, 4, 5])] (i_g 99)), (98, i_w [(99, [0, 1, 2, 4, 5])] (i_c (.int (0)) 99)), (99, i_is 6 101), (101, i_al 0 102), (102, i_c (.int (0)) 103), (103, i_il 6 105), (105, i_z (fun x => x = 0) 113 108), (108, i_c (.int (10)) 110), (110, i_w [(115, [0, 1, 2, 4, 5, 6])] (i_g 115)), (113, i_w [(115, [0, 1, 2, 4, 5, 6])] (i_c (.int (11)) 115)), (115, i_cv 7 3 0 f_X7_copy 0 0 0 0 118), (118, i_al 0 119), (119, i_c (.int (0)) 120), (120, i_il 6 122), (122, i_z (fun x => x = 0) 130 125), (125, i_c (.int (11)) 127), (127, i_w [(132, [0, 1, 2, 4, 5, 6])] (i_g 132)), (130, i_w [(132, [0, 1, 2, 4, 5, 6])] (i_c (.int (10)) 132)), (132, i_c (.int (0)) 133), (133, i_cv 7 4 0 f_X7_lessen 0 0 0 0 136), (136, i_al 0 137), (137, i_gf 7 3 140), (140, i_c (.int (0)) 141), (141, i_il 6 143), (143, i_z (fun x => x = 0) 151 146), (146, i_il 4 148), (148, i_w [(153, [0, 1, 2])] (i_g 153)), (151, i_w [(153, [0, 1, 2])] (i_il 5 153)), (153, i_w [(154, [0, 1, 2])] (i_ist 154)), (154, i_al 0 155), (155, i_c (.int (1)) 156), (156, i_c (.int (2)) 157), (157, i_il 1 158), (158, i_bi (fun x z => x * z) 159), (159, i_c (.int (1)) 160), (160, i_bi (fun x z => x + z) 161), (161, i_c (.int (2)) 162), (162, i_il 2 163), (163, i_bi (fun x z => x * z) 164), (164, i_c (.int (1)) 165), (165, i_bi (fun x z => x + z) 166), (166, i_cv 7 4 0 f_X7_multiply 0 0 0 0 169), (169, i_al 0 170), (170, i_c (.int (0)) 171), (171, i_cv 7 2 1 f_X7_least 0 0 0 0 174), (174, i_rz 0 0)]
set_option maxRecDepth 20000 in
theorem A_X7_sum : sd_A yX7_sum cX7_sum 7 (some .boolean) rm_X7_sum T_X7_sum := by
  refine sd_c (pc := 0) (f := i_al 0 1) (s_aln (i := 0) dX7_sum_0) ?_
  refine sd_c (pc := 1) (f := i_il 1 2) (s_iln (i := 1) dX7_sum_1) ?_
  refine sd_c (pc := 2) (f := i_il 2 3) (s_iln (i := 2) dX7_sum_2) ?_
  refine sd_c (pc := 3) (f := i_cv 7 3 0 f_X7_across 0 0 0 0 6) (s_cv (np := 2) (rk := 0) (ci := 7) (rmz := rm_X7_across) dX7_sum_3 V_X7_across w920 w922 wS_PlanFractionsModel_across__II_V rfl (by decide)) ?_
  refine sd_c (pc := 6) (f := i_al 0 7) (s_aln (i := 0) dX7_sum_6) ?_
  refine sd_c (pc := 7) (f := i_gf 7 3 10) (s_gf (ci := 7) (k := 3) dX7_sum_7 rfl in_X7 (by decide) w781) ?_
  refine sd_c (pc := 10) (f := i_il 1 11) (s_iln (i := 1) dX7_sum_10) ?_
  refine sd_c (pc := 11) (f := i_ia 0 12) (s_iald dX7_sum_11) ?_
  refine sd_c (pc := 12) (f := i_is 4 14) (s_is (i := 4) dX7_sum_12 (by decide)) ?_
  refine sd_c (pc := 14) (f := i_il 3 15) (s_iln (i := 3) dX7_sum_14) ?_
  refine sd_c (pc := 15) (f := i_z (fun x => x = 0) 28 18) (s_if_eq (tgt := 28) dX7_sum_15 (by decide)) ?_
  refine sd_c (pc := 18) (f := i_al 0 19) (s_aln (i := 0) dX7_sum_18) ?_
  refine sd_c (pc := 19) (f := i_gf 7 3 22) (s_gf (ci := 7) (k := 3) dX7_sum_19 rfl in_X7 (by decide) w781) ?_
  refine sd_c (pc := 22) (f := i_il 2 23) (s_iln (i := 2) dX7_sum_22) ?_
  refine sd_c (pc := 23) (f := i_ia 0 24) (s_iald dX7_sum_23) ?_
  refine sd_c (pc := 24) (f := i_u11 (fun x => -x) 25) (s_ineg dX7_sum_24) ?_
  refine sd_c (pc := 25) (f := i_w [(34, [0, 1, 2, 4])] (i_g 34)) (s_w (s_goto (tgt := 34) dX7_sum_25 (by decide))) ?_
  refine sd_c (pc := 28) (f := i_al 0 29) (s_aln (i := 0) dX7_sum_28) ?_
  refine sd_c (pc := 29) (f := i_gf 7 3 32) (s_gf (ci := 7) (k := 3) dX7_sum_29 rfl in_X7 (by decide) w781) ?_
  refine sd_c (pc := 32) (f := i_il 2 33) (s_iln (i := 2) dX7_sum_32) ?_
  refine sd_c (pc := 33) (f := i_w [(34, [0, 1, 2, 4])] (i_ia 0 34)) (s_w (s_iald dX7_sum_33)) ?_
  refine sd_c (pc := 34) (f := i_is 5 36) (s_is (i := 5) dX7_sum_34 (by decide)) ?_
  refine sd_c (pc := 36) (f := i_il 4 38) (s_il dX7_sum_36) ?_
  refine sd_c (pc := 38) (f := i_w [(53, [0, 1, 2, 4, 5])] (i_z (fun x => x = 0) 53 41)) (s_w (s_if_eq (tgt := 53) dX7_sum_38 (by decide))) ?_
  refine sd_c (pc := 41) (f := i_il 5 43) (s_il dX7_sum_41) ?_
  refine sd_c (pc := 43) (f := i_w [(53, [0, 1, 2, 4, 5])] (i_z (fun x => x = 0) 53 46)) (s_w (s_if_eq (tgt := 53) dX7_sum_43 (by decide))) ?_
  refine sd_c (pc := 46) (f := i_il 4 48) (s_il dX7_sum_46) ?_
  refine sd_c (pc := 48) (f := i_il 5 50) (s_il dX7_sum_48) ?_
  refine sd_c (pc := 50) (f := i_w [(53, [0, 1, 2, 4, 5])] (i_zz (fun x z => x = z) 53 83)) (s_w (s_ic_ne (tgt := 83) dX7_sum_50 (by decide))) ?_
  refine sd_c (pc := 53) (f := i_al 0 54) (s_aln (i := 0) dX7_sum_53) ?_
  refine sd_c (pc := 54) (f := i_c (.int (0)) 55) (s_iconst dX7_sum_54 (by decide)) ?_
  refine sd_c (pc := 55) (f := i_c (.int (10)) 57) (s_bipush dX7_sum_55 (by decide)) ?_
  refine sd_c (pc := 57) (f := i_c (.int (11)) 59) (s_bipush dX7_sum_57 (by decide)) ?_
  refine sd_c (pc := 59) (f := i_cv 7 4 0 f_X7_plus 0 0 0 0 62) (s_cv (np := 3) (rk := 0) (ci := 7) (rmz := rm_X7_plus) dX7_sum_59 V_X7_plus w928 w930 wS_PlanFractionsModel_plus__III_V rfl (by decide)) ?_
  refine sd_c (pc := 62) (f := i_al 0 63) (s_aln (i := 0) dX7_sum_62) ?_
  refine sd_c (pc := 63) (f := i_gf 7 3 66) (s_gf (ci := 7) (k := 3) dX7_sum_63 rfl in_X7 (by decide) w781) ?_
  refine sd_c (pc := 66) (f := i_c (.int (0)) 67) (s_iconst dX7_sum_66 (by decide)) ?_
  refine sd_c (pc := 67) (f := i_il 4 69) (s_il dX7_sum_67) ?_
  refine sd_c (pc := 69) (f := i_z (fun x => x = 0) 72 77) (s_if_ne (tgt := 77) dX7_sum_69 (by decide)) ?_
  refine sd_c (pc := 72) (f := i_il 5 74) (s_il dX7_sum_72) ?_
  refine sd_c (pc := 74) (f := i_w [(79, [0, 1, 2])] (i_g 79)) (s_w (s_goto (tgt := 79) dX7_sum_74 (by decide))) ?_
  refine sd_c (pc := 77) (f := i_w [(79, [0, 1, 2])] (i_il 4 79)) (s_w (s_il dX7_sum_77)) ?_
  refine sd_c (pc := 79) (f := i_ist 80) (s_ist dX7_sum_79) ?_
  refine sd_c (pc := 80) (f := i_w [(154, [0, 1, 2])] (i_g 154)) (s_w (s_goto (tgt := 154) dX7_sum_80 (by decide))) ?_
  refine sd_c (pc := 83) (f := i_al 0 84) (s_aln (i := 0) dX7_sum_83) ?_
  refine sd_c (pc := 84) (f := i_c (.int (10)) 86) (s_bipush dX7_sum_84 (by decide)) ?_
  refine sd_c (pc := 86) (f := i_c (.int (11)) 88) (s_bipush dX7_sum_86 (by decide)) ?_
  refine sd_c (pc := 88) (f := i_cv 7 3 1 f_X7_compare 0 0 0 0 91) (s_cv (np := 2) (rk := 1) (ci := 7) (rmz := rm_X7_compare) dX7_sum_88 V_X7_compare w884 w886 wS_PlanFractionsModel_compare__II_I rfl (by decide)) ?_
  refine sd_c (pc := 91) (f := i_z (fun x => x < 0) 98 94) (s_if_lt (tgt := 98) dX7_sum_91 (by decide)) ?_
  refine sd_c (pc := 94) (f := i_c (.int (1)) 95) (s_iconst dX7_sum_94 (by decide)) ?_
  refine sd_c (pc := 95) (f := i_w [(99, [0, 1, 2, 4, 5])] (i_g 99)) (s_w (s_goto (tgt := 99) dX7_sum_95 (by decide))) ?_
  refine sd_c (pc := 98) (f := i_w [(99, [0, 1, 2, 4, 5])] (i_c (.int (0)) 99)) (s_w (s_iconst dX7_sum_98 (by decide))) ?_
  refine sd_c (pc := 99) (f := i_is 6 101) (s_is (i := 6) dX7_sum_99 (by decide)) ?_
  refine sd_c (pc := 101) (f := i_al 0 102) (s_aln (i := 0) dX7_sum_101) ?_
  refine sd_c (pc := 102) (f := i_c (.int (0)) 103) (s_iconst dX7_sum_102 (by decide)) ?_
  refine sd_c (pc := 103) (f := i_il 6 105) (s_il dX7_sum_103) ?_
  refine sd_c (pc := 105) (f := i_z (fun x => x = 0) 113 108) (s_if_eq (tgt := 113) dX7_sum_105 (by decide)) ?_
  refine sd_c (pc := 108) (f := i_c (.int (10)) 110) (s_bipush dX7_sum_108 (by decide)) ?_
  refine sd_c (pc := 110) (f := i_w [(115, [0, 1, 2, 4, 5, 6])] (i_g 115)) (s_w (s_goto (tgt := 115) dX7_sum_110 (by decide))) ?_
  refine sd_c (pc := 113) (f := i_w [(115, [0, 1, 2, 4, 5, 6])] (i_c (.int (11)) 115)) (s_w (s_bipush dX7_sum_113 (by decide))) ?_
  refine sd_c (pc := 115) (f := i_cv 7 3 0 f_X7_copy 0 0 0 0 118) (s_cv (np := 2) (rk := 0) (ci := 7) (rmz := rm_X7_copy) dX7_sum_115 V_X7_copy w847 w849 wS_PlanFractionsModel_copy__II_V rfl (by decide)) ?_
  refine sd_c (pc := 118) (f := i_al 0 119) (s_aln (i := 0) dX7_sum_118) ?_
  refine sd_c (pc := 119) (f := i_c (.int (0)) 120) (s_iconst dX7_sum_119 (by decide)) ?_
  refine sd_c (pc := 120) (f := i_il 6 122) (s_il dX7_sum_120) ?_
  refine sd_c (pc := 122) (f := i_z (fun x => x = 0) 130 125) (s_if_eq (tgt := 130) dX7_sum_122 (by decide)) ?_
  refine sd_c (pc := 125) (f := i_c (.int (11)) 127) (s_bipush dX7_sum_125 (by decide)) ?_
  refine sd_c (pc := 127) (f := i_w [(132, [0, 1, 2, 4, 5, 6])] (i_g 132)) (s_w (s_goto (tgt := 132) dX7_sum_127 (by decide))) ?_
  refine sd_c (pc := 130) (f := i_w [(132, [0, 1, 2, 4, 5, 6])] (i_c (.int (10)) 132)) (s_w (s_bipush dX7_sum_130 (by decide))) ?_
  refine sd_c (pc := 132) (f := i_c (.int (0)) 133) (s_iconst dX7_sum_132 (by decide)) ?_
  refine sd_c (pc := 133) (f := i_cv 7 4 0 f_X7_lessen 0 0 0 0 136) (s_cv (np := 3) (rk := 0) (ci := 7) (rmz := rm_X7_lessen) dX7_sum_133 V_X7_lessen w876 w878 wS_PlanFractionsModel_lessen__III_V rfl (by decide)) ?_
  refine sd_c (pc := 136) (f := i_al 0 137) (s_aln (i := 0) dX7_sum_136) ?_
  refine sd_c (pc := 137) (f := i_gf 7 3 140) (s_gf (ci := 7) (k := 3) dX7_sum_137 rfl in_X7 (by decide) w781) ?_
  refine sd_c (pc := 140) (f := i_c (.int (0)) 141) (s_iconst dX7_sum_140 (by decide)) ?_
  refine sd_c (pc := 141) (f := i_il 6 143) (s_il dX7_sum_141) ?_
  refine sd_c (pc := 143) (f := i_z (fun x => x = 0) 151 146) (s_if_eq (tgt := 151) dX7_sum_143 (by decide)) ?_
  refine sd_c (pc := 146) (f := i_il 4 148) (s_il dX7_sum_146) ?_
  refine sd_c (pc := 148) (f := i_w [(153, [0, 1, 2])] (i_g 153)) (s_w (s_goto (tgt := 153) dX7_sum_148 (by decide))) ?_
  refine sd_c (pc := 151) (f := i_w [(153, [0, 1, 2])] (i_il 5 153)) (s_w (s_il dX7_sum_151)) ?_
  refine sd_c (pc := 153) (f := i_w [(154, [0, 1, 2])] (i_ist 154)) (s_w (s_ist dX7_sum_153)) ?_
  refine sd_c (pc := 154) (f := i_al 0 155) (s_aln (i := 0) dX7_sum_154) ?_
  refine sd_c (pc := 155) (f := i_c (.int (1)) 156) (s_iconst dX7_sum_155 (by decide)) ?_
  refine sd_c (pc := 156) (f := i_c (.int (2)) 157) (s_iconst dX7_sum_156 (by decide)) ?_
  refine sd_c (pc := 157) (f := i_il 1 158) (s_iln (i := 1) dX7_sum_157) ?_
  refine sd_c (pc := 158) (f := i_bi (fun x z => x * z) 159) (s_imul dX7_sum_158) ?_
  refine sd_c (pc := 159) (f := i_c (.int (1)) 160) (s_iconst dX7_sum_159 (by decide)) ?_
  refine sd_c (pc := 160) (f := i_bi (fun x z => x + z) 161) (s_iadd dX7_sum_160) ?_
  refine sd_c (pc := 161) (f := i_c (.int (2)) 162) (s_iconst dX7_sum_161 (by decide)) ?_
  refine sd_c (pc := 162) (f := i_il 2 163) (s_iln (i := 2) dX7_sum_162) ?_
  refine sd_c (pc := 163) (f := i_bi (fun x z => x * z) 164) (s_imul dX7_sum_163) ?_
  refine sd_c (pc := 164) (f := i_c (.int (1)) 165) (s_iconst dX7_sum_164 (by decide)) ?_
  refine sd_c (pc := 165) (f := i_bi (fun x z => x + z) 166) (s_iadd dX7_sum_165) ?_
  refine sd_c (pc := 166) (f := i_cv 7 4 0 f_X7_multiply 0 0 0 0 169) (s_cv (np := 3) (rk := 0) (ci := 7) (rmz := rm_X7_multiply) dX7_sum_166 V_X7_multiply w924 w926 wS_PlanFractionsModel_multiply__III_V rfl (by decide)) ?_
  refine sd_c (pc := 169) (f := i_al 0 170) (s_aln (i := 0) dX7_sum_169) ?_
  refine sd_c (pc := 170) (f := i_c (.int (0)) 171) (s_iconst dX7_sum_170 (by decide)) ?_
  refine sd_c (pc := 171) (f := i_cv 7 2 1 f_X7_least 0 0 0 0 174) (s_cv (np := 1) (rk := 1) (ci := 7) (rmz := rm_X7_least) dX7_sum_171 V_X7_least w839 w841 wS_PlanFractionsModel_least__I_Z rfl (by decide)) ?_
  refine sd_c (pc := 174) (f := i_rz 0 0) (s_rz dX7_sum_174 rfl) ?_
  exact sd_n
noncomputable def f_X7_sum : List Value → me_M → Option sm_R := sd_f 7 T_X7_sum
theorem V_X7_sum : sd_V yX7_sum cX7_sum 7 (some .boolean) rm_X7_sum 3 f_X7_sum := ⟨sd_met A_X7_sum (by decide +kernel), w919, w8, by decide +kernel⟩
set_option maxRecDepth 20000 in
theorem e_X7_sum (x0 : Nat) (x1 : Int32) (x2 : Int32) (x3 : Int32) (M : me_M) : f_X7_sum [.ref x0, .int x1, .int x2, .int x3] M = (me_obj M 7 x0).bind fun _ => (f_X7_across [.ref x0, .int x1, .int x2] M).bind fun r1 => cond r1.1.isNone ((me_obj r1.2 7 x0).bind fun f2 => (f2[3]?).bind fun w3 => (v_ref w3).bind fun a4 => (me_int r1.2 0 a4).bind fun f5 => if x1 < 0 ∨ f5.1 ≤ x1.toNatClampNeg then (none) else if x3 = 0 then ((me_obj r1.2 7 x0).bind fun f6 => (f6[3]?).bind fun w7 => (v_ref w7).bind fun a8 => (me_int r1.2 0 a8).bind fun f9 => if x2 < 0 ∨ f9.1 ≤ x2.toNatClampNeg then (none) else sm T_X7_sum (34, [(0, .ref x0), (1, .int x1), (2, .int x2), (4, .int (f5.2 x1.toNatClampNeg))], [.int (f9.2 x2.toNatClampNeg)], r1.2, 0, 0)) else (me_obj r1.2 7 x0).bind fun f10 => (f10[3]?).bind fun w11 => (v_ref w11).bind fun a12 => (me_int r1.2 0 a12).bind fun f13 => if x2 < 0 ∨ f13.1 ≤ x2.toNatClampNeg then (none) else sm T_X7_sum (34, [(0, .ref x0), (1, .int x1), (2, .int x2), (4, .int (f5.2 x1.toNatClampNeg))], [.int (-(f13.2 x2.toNatClampNeg))], r1.2, 0, 0)) none := (show f_X7_sum [.ref x0, .int x1, .int x2, .int x3] M = sm T_X7_sum (0, [(0, .ref x0), (1, .int x1), (2, .int x2), (3, .int x3)], [], M, 0, 0) from rfl).trans (by have hF := sm_fx A_X7_sum; generalize sm T_X7_sum = F_ at hF ⊢; exact (sm_h hF (f := i_al 0 1) rfl).trans (q_al rfl ((sm_h hF (f := i_il 1 2) rfl).trans (q_il rfl ((sm_h hF (f := i_il 2 3) rfl).trans (q_il rfl ((sm_h hF (f := i_cv 7 3 0 f_X7_across 0 0 0 0 6) rfl).trans (q_cv rfl rfl rfl (vr (ob fun _ => ob fun r1 => cT rfl (q_r0 (cg ((sm_h hF (f := i_al 0 7) rfl).trans (q_al rfl ((sm_h hF (f := i_gf 7 3 10) rfl).trans (q_gf (vr (ob fun f2 => ob fun w3 => (sm_h hF (f := i_il 1 11) rfl).trans (q_il rfl ((sm_h hF (f := i_ia 0 12) rfl).trans (q_ia (vi (ob fun a4 => ob fun f5 => ic (rfl) ((sm_h hF (f := i_is 4 14) rfl).trans (q_is (fun x_ => [(0, .ref x0), (1, .int x1), (2, .int x2), (3, .int x3), (4, .int x_)]) (fun _ => rfl) (vi ((sm_h hF (f := i_il 3 15) rfl).trans (q_il rfl ((sm_h hF (f := i_z (fun x => x = 0) 28 18) rfl).trans (q_z (vi (ic ((sm_h hF (f := i_al 0 29) rfl).trans (q_al rfl ((sm_h hF (f := i_gf 7 3 32) rfl).trans (q_gf (vr (ob fun f6 => ob fun w7 => (sm_h hF (f := i_il 2 33) rfl).trans (q_il rfl ((sm_h hF (f := i_w [(34, [0, 1, 2, 4])] (i_ia 0 34)) rfl).trans (q_w (q_ia (vi (ob fun a8 => ob fun f9 => ic (rfl) (rfl))))))))))))) ((sm_h hF (f := i_al 0 19) rfl).trans (q_al rfl ((sm_h hF (f := i_gf 7 3 22) rfl).trans (q_gf (vr (ob fun f10 => ob fun w11 => (sm_h hF (f := i_il 2 23) rfl).trans (q_il rfl ((sm_h hF (f := i_ia 0 24) rfl).trans (q_ia (vi (ob fun a12 => ob fun f13 => ic (rfl) ((sm_h hF (f := i_u11 (fun x => -x) 25) rfl).trans (q_u11 (vi ((sm_h hF (f := i_w [(34, [0, 1, 2, 4])] (i_g 34)) rfl).trans (q_w (q_g (rfl)))))))))))))))))))))))))))))))))))))) rfl))))))))))))
set_option maxRecDepth 20000 in
theorem e_X7_sum_34 (x0 : Nat) (x1 : Int32) (x2 : Int32) (x4 : Int32) (s0 : Int32) (M : me_M) : sm T_X7_sum (34, [(0, .ref x0), (1, .int x1), (2, .int x2), (4, .int x4)], [.int s0], M, 0, 0) = if x4 = 0 then (sm T_X7_sum (53, [(0, .ref x0), (1, .int x1), (2, .int x2), (4, .int x4), (5, .int s0)], [], M, 0, 0)) else if s0 = 0 then (sm T_X7_sum (53, [(0, .ref x0), (1, .int x1), (2, .int x2), (4, .int x4), (5, .int s0)], [], M, 0, 0)) else if x4 = s0 then (sm T_X7_sum (53, [(0, .ref x0), (1, .int x1), (2, .int x2), (4, .int x4), (5, .int s0)], [], M, 0, 0)) else (me_obj M 7 x0).bind fun _ => (f_X7_compare [.ref x0, .int (10 : Int32), .int (11 : Int32)] M).bind fun r1 => r1.1.bind fun v2 => (v_int v2).bind fun y3 => if y3 < 0 then (sm T_X7_sum (99, [(0, .ref x0), (1, .int x1), (2, .int x2), (4, .int x4), (5, .int s0)], [.int (0 : Int32)], r1.2, 0, 0)) else sm T_X7_sum (99, [(0, .ref x0), (1, .int x1), (2, .int x2), (4, .int x4), (5, .int s0)], [.int (1 : Int32)], r1.2, 0, 0) := (by have hF := sm_fx A_X7_sum; generalize sm T_X7_sum = F_ at hF ⊢; exact (sm_h hF (f := i_is 5 36) rfl).trans (q_is (fun x_ => [(0, .ref x0), (1, .int x1), (2, .int x2), (4, .int x4), (5, .int x_)]) (fun _ => rfl) (vi ((sm_h hF (f := i_il 4 38) rfl).trans (q_il rfl ((sm_h hF (f := i_w [(53, [0, 1, 2, 4, 5])] (i_z (fun x => x = 0) 53 41)) rfl).trans (q_w (q_z (vi (ic (rfl) ((sm_h hF (f := i_il 5 43) rfl).trans (q_il rfl ((sm_h hF (f := i_w [(53, [0, 1, 2, 4, 5])] (i_z (fun x => x = 0) 53 46)) rfl).trans (q_w (q_z (vi (ic (rfl) ((sm_h hF (f := i_il 4 48) rfl).trans (q_il rfl ((sm_h hF (f := i_il 5 50) rfl).trans (q_il rfl ((sm_h hF (f := i_w [(53, [0, 1, 2, 4, 5])] (i_zz (fun x z => x = z) 53 83)) rfl).trans (q_w (q_zz (vi (vi (ic (rfl) ((sm_h hF (f := i_al 0 84) rfl).trans (q_al rfl ((sm_h hF (f := i_c (.int (10)) 86) rfl).trans (q_c ((sm_h hF (f := i_c (.int (11)) 88) rfl).trans (q_c ((sm_h hF (f := i_cv 7 3 1 f_X7_compare 0 0 0 0 91) rfl).trans (q_cv rfl rfl rfl (vr (ob fun _ => ob fun r1 => cT rfl (q_r1 (ob fun v2 => ob fun y3 => (sm_h hF (f := i_z (fun x => x < 0) 98 94) rfl).trans (q_z (vi (ic ((sm_h hF (f := i_w [(99, [0, 1, 2, 4, 5])] (i_c (.int (0)) 99)) rfl).trans (q_w (q_c (rfl)))) ((sm_h hF (f := i_c (.int (1)) 95) rfl).trans (q_c ((sm_h hF (f := i_w [(99, [0, 1, 2, 4, 5])] (i_g 99)) rfl).trans (q_w (q_g (rfl))))))))))))))))))))))))))))))))))))))))))))))))
set_option maxRecDepth 20000 in
theorem e_X7_sum_53 (x0 : Nat) (x1 : Int32) (x2 : Int32) (x4 : Int32) (x5 : Int32) (M : me_M) : sm T_X7_sum (53, [(0, .ref x0), (1, .int x1), (2, .int x2), (4, .int x4), (5, .int x5)], [], M, 0, 0) = (me_obj M 7 x0).bind fun _ => (f_X7_plus [.ref x0, .int (0 : Int32), .int (10 : Int32), .int (11 : Int32)] M).bind fun r1 => cond r1.1.isNone ((me_obj r1.2 7 x0).bind fun f2 => (f2[3]?).bind fun w3 => if x4 = 0 then (sm T_X7_sum (79, [(0, .ref x0), (1, .int x1), (2, .int x2)], [.int x5, .int (0 : Int32), w3], r1.2, 0, 0)) else sm T_X7_sum (79, [(0, .ref x0), (1, .int x1), (2, .int x2)], [.int x4, .int (0 : Int32), w3], r1.2, 0, 0)) none := (by have hF := sm_fx A_X7_sum; generalize sm T_X7_sum = F_ at hF ⊢; exact (sm_h hF (f := i_al 0 54) rfl).trans (q_al rfl ((sm_h hF (f := i_c (.int (0)) 55) rfl).trans (q_c ((sm_h hF (f := i_c (.int (10)) 57) rfl).trans (q_c ((sm_h hF (f := i_c (.int (11)) 59) rfl).trans (q_c ((sm_h hF (f := i_cv 7 4 0 f_X7_plus 0 0 0 0 62) rfl).trans (q_cv rfl rfl rfl (vr (ob fun _ => ob fun r1 => cT rfl (q_r0 (cg ((sm_h hF (f := i_al 0 63) rfl).trans (q_al rfl ((sm_h hF (f := i_gf 7 3 66) rfl).trans (q_gf (vr (ob fun f2 => ob fun w3 => (sm_h hF (f := i_c (.int (0)) 67) rfl).trans (q_c ((sm_h hF (f := i_il 4 69) rfl).trans (q_il rfl ((sm_h hF (f := i_z (fun x => x = 0) 72 77) rfl).trans (q_z (vi (ic ((sm_h hF (f := i_il 5 74) rfl).trans (q_il rfl ((sm_h hF (f := i_w [(79, [0, 1, 2])] (i_g 79)) rfl).trans (q_w (q_g (rfl)))))) ((sm_h hF (f := i_w [(79, [0, 1, 2])] (i_il 4 79)) rfl).trans (q_w (q_il rfl (rfl))))))))))))))))) rfl))))))))))))))
set_option maxRecDepth 20000 in
theorem e_X7_sum_99 (x0 : Nat) (x1 : Int32) (x2 : Int32) (x4 : Int32) (x5 : Int32) (s0 : Int32) (M : me_M) : sm T_X7_sum (99, [(0, .ref x0), (1, .int x1), (2, .int x2), (4, .int x4), (5, .int x5)], [.int s0], M, 0, 0) = if s0 = 0 then (sm T_X7_sum (115, [(0, .ref x0), (1, .int x1), (2, .int x2), (4, .int x4), (5, .int x5), (6, .int s0)], [.int (11 : Int32), .int (0 : Int32), .ref x0], M, 0, 0)) else sm T_X7_sum (115, [(0, .ref x0), (1, .int x1), (2, .int x2), (4, .int x4), (5, .int x5), (6, .int s0)], [.int (10 : Int32), .int (0 : Int32), .ref x0], M, 0, 0) := (by have hF := sm_fx A_X7_sum; generalize sm T_X7_sum = F_ at hF ⊢; exact (sm_h hF (f := i_is 6 101) rfl).trans (q_is (fun x_ => [(0, .ref x0), (1, .int x1), (2, .int x2), (4, .int x4), (5, .int x5), (6, .int x_)]) (fun _ => rfl) (vi ((sm_h hF (f := i_al 0 102) rfl).trans (q_al rfl ((sm_h hF (f := i_c (.int (0)) 103) rfl).trans (q_c ((sm_h hF (f := i_il 6 105) rfl).trans (q_il rfl ((sm_h hF (f := i_z (fun x => x = 0) 113 108) rfl).trans (q_z (vi (ic ((sm_h hF (f := i_w [(115, [0, 1, 2, 4, 5, 6])] (i_c (.int (11)) 115)) rfl).trans (q_w (q_c (rfl)))) ((sm_h hF (f := i_c (.int (10)) 110) rfl).trans (q_c ((sm_h hF (f := i_w [(115, [0, 1, 2, 4, 5, 6])] (i_g 115)) rfl).trans (q_w (q_g (rfl)))))))))))))))))))
set_option maxRecDepth 20000 in
theorem e_X7_sum_79 (x0 : Nat) (x1 : Int32) (x2 : Int32) (s0 : Int32) (s1 : Int32) (s2 : Value) (M : me_M) : sm T_X7_sum (79, [(0, .ref x0), (1, .int x1), (2, .int x2)], [.int s0, .int s1, s2], M, 0, 0) = (v_ref s2).bind fun a1 => (me_int M 0 a1).bind fun f2 => if s1 < 0 ∨ f2.1 ≤ s1.toNatClampNeg then (none) else sm T_X7_sum (154, [(0, .ref x0), (1, .int x1), (2, .int x2)], [], (me_set M a1 (.inl (0, f2.1, .inl (upd f2.2 s1.toNatClampNeg s0)))), 0, 0) := (by have hF := sm_fx A_X7_sum; generalize sm T_X7_sum = F_ at hF ⊢; exact (sm_h hF (f := i_ist 80) rfl).trans (q_ist (vi (vi (ob fun a1 => ob fun f2 => ic (rfl) ((sm_h hF (f := i_w [(154, [0, 1, 2])] (i_g 154)) rfl).trans (q_w (q_g (rfl)))))))))
set_option maxRecDepth 20000 in
theorem e_X7_sum_115 (x0 : Nat) (x1 : Int32) (x2 : Int32) (x4 : Int32) (x5 : Int32) (x6 : Int32) (s0 : Int32) (s1 : Int32) (s2 : Nat) (M : me_M) : sm T_X7_sum (115, [(0, .ref x0), (1, .int x1), (2, .int x2), (4, .int x4), (5, .int x5), (6, .int x6)], [.int s0, .int s1, .ref s2], M, 0, 0) = (me_obj M 7 s2).bind fun _ => (f_X7_copy [.ref s2, .int s1, .int s0] M).bind fun r1 => cond r1.1.isNone (if x6 = 0 then (sm T_X7_sum (132, [(0, .ref x0), (1, .int x1), (2, .int x2), (4, .int x4), (5, .int x5), (6, .int x6)], [.int (10 : Int32), .int (0 : Int32), .ref x0], r1.2, 0, 0)) else sm T_X7_sum (132, [(0, .ref x0), (1, .int x1), (2, .int x2), (4, .int x4), (5, .int x5), (6, .int x6)], [.int (11 : Int32), .int (0 : Int32), .ref x0], r1.2, 0, 0)) none := (by have hF := sm_fx A_X7_sum; generalize sm T_X7_sum = F_ at hF ⊢; exact (sm_h hF (f := i_cv 7 3 0 f_X7_copy 0 0 0 0 118) rfl).trans (q_cv rfl rfl rfl (vr (ob fun _ => ob fun r1 => cT rfl (q_r0 (cg ((sm_h hF (f := i_al 0 119) rfl).trans (q_al rfl ((sm_h hF (f := i_c (.int (0)) 120) rfl).trans (q_c ((sm_h hF (f := i_il 6 122) rfl).trans (q_il rfl ((sm_h hF (f := i_z (fun x => x = 0) 130 125) rfl).trans (q_z (vi (ic ((sm_h hF (f := i_w [(132, [0, 1, 2, 4, 5, 6])] (i_c (.int (10)) 132)) rfl).trans (q_w (q_c (rfl)))) ((sm_h hF (f := i_c (.int (11)) 127) rfl).trans (q_c ((sm_h hF (f := i_w [(132, [0, 1, 2, 4, 5, 6])] (i_g 132)) rfl).trans (q_w (q_g (rfl)))))))))))))))) rfl))))))
set_option maxRecDepth 20000 in
theorem e_X7_sum_154 (x0 : Nat) (x1 : Int32) (x2 : Int32) (M : me_M) : sm T_X7_sum (154, [(0, .ref x0), (1, .int x1), (2, .int x2)], [], M, 0, 0) = (me_obj M 7 x0).bind fun _ => (f_X7_multiply [.ref x0, .int (1 : Int32), .int (((2 : Int32) * x1) + (1 : Int32)), .int (((2 : Int32) * x2) + (1 : Int32))] M).bind fun r1 => cond r1.1.isNone ((me_obj r1.2 7 x0).bind fun _ => (f_X7_least [.ref x0, .int (0 : Int32)] r1.2).bind fun r2 => r2.1.bind fun v3 => (v_int v3).bind fun y4 => if y4 = 0 ∨ y4 = 1 then (if 0 ≤ 0 ∧ 0 ≤ 0 then some (some (.int y4), r2.2) else none) else none) none := (by have hF := sm_fx A_X7_sum; generalize sm T_X7_sum = F_ at hF ⊢; exact (sm_h hF (f := i_al 0 155) rfl).trans (q_al rfl ((sm_h hF (f := i_c (.int (1)) 156) rfl).trans (q_c ((sm_h hF (f := i_c (.int (2)) 157) rfl).trans (q_c ((sm_h hF (f := i_il 1 158) rfl).trans (q_il rfl ((sm_h hF (f := i_bi (fun x z => x * z) 159) rfl).trans (q_bi (vi (vi ((sm_h hF (f := i_c (.int (1)) 160) rfl).trans (q_c ((sm_h hF (f := i_bi (fun x z => x + z) 161) rfl).trans (q_bi (vi (vi ((sm_h hF (f := i_c (.int (2)) 162) rfl).trans (q_c ((sm_h hF (f := i_il 2 163) rfl).trans (q_il rfl ((sm_h hF (f := i_bi (fun x z => x * z) 164) rfl).trans (q_bi (vi (vi ((sm_h hF (f := i_c (.int (1)) 165) rfl).trans (q_c ((sm_h hF (f := i_bi (fun x z => x + z) 166) rfl).trans (q_bi (vi (vi ((sm_h hF (f := i_cv 7 4 0 f_X7_multiply 0 0 0 0 169) rfl).trans (q_cv rfl rfl rfl (vr (ob fun _ => ob fun r1 => cT rfl (q_r0 (cg ((sm_h hF (f := i_al 0 170) rfl).trans (q_al rfl ((sm_h hF (f := i_c (.int (0)) 171) rfl).trans (q_c ((sm_h hF (f := i_cv 7 2 1 f_X7_least 0 0 0 0 174) rfl).trans (q_cv rfl rfl rfl (vr (ob fun _ => ob fun r2 => cT rfl (q_r1 (ob fun v3 => ob fun y4 => (sm_h hF (f := i_rz 0 0) rfl).trans (q_rz (vi (rfl))))))))))))) rfl))))))))))))))))))))))))))))))))))))))
set_option maxRecDepth 20000 in
theorem e_X7_sum_132 (x0 : Nat) (x1 : Int32) (x2 : Int32) (x4 : Int32) (x5 : Int32) (x6 : Int32) (s0 : Int32) (s1 : Int32) (s2 : Nat) (M : me_M) : sm T_X7_sum (132, [(0, .ref x0), (1, .int x1), (2, .int x2), (4, .int x4), (5, .int x5), (6, .int x6)], [.int s0, .int s1, .ref s2], M, 0, 0) = (me_obj M 7 s2).bind fun _ => (f_X7_lessen [.ref s2, .int s1, .int s0, .int (0 : Int32)] M).bind fun r1 => cond r1.1.isNone ((me_obj r1.2 7 x0).bind fun f2 => (f2[3]?).bind fun w3 => if x6 = 0 then (sm T_X7_sum (153, [(0, .ref x0), (1, .int x1), (2, .int x2)], [.int x5, .int (0 : Int32), w3], r1.2, 0, 0)) else sm T_X7_sum (153, [(0, .ref x0), (1, .int x1), (2, .int x2)], [.int x4, .int (0 : Int32), w3], r1.2, 0, 0)) none := (by have hF := sm_fx A_X7_sum; generalize sm T_X7_sum = F_ at hF ⊢; exact (sm_h hF (f := i_c (.int (0)) 133) rfl).trans (q_c ((sm_h hF (f := i_cv 7 4 0 f_X7_lessen 0 0 0 0 136) rfl).trans (q_cv rfl rfl rfl (vr (ob fun _ => ob fun r1 => cT rfl (q_r0 (cg ((sm_h hF (f := i_al 0 137) rfl).trans (q_al rfl ((sm_h hF (f := i_gf 7 3 140) rfl).trans (q_gf (vr (ob fun f2 => ob fun w3 => (sm_h hF (f := i_c (.int (0)) 141) rfl).trans (q_c ((sm_h hF (f := i_il 6 143) rfl).trans (q_il rfl ((sm_h hF (f := i_z (fun x => x = 0) 151 146) rfl).trans (q_z (vi (ic ((sm_h hF (f := i_w [(153, [0, 1, 2])] (i_il 5 153)) rfl).trans (q_w (q_il rfl (rfl)))) ((sm_h hF (f := i_il 4 148) rfl).trans (q_il rfl ((sm_h hF (f := i_w [(153, [0, 1, 2])] (i_g 153)) rfl).trans (q_w (q_g (rfl))))))))))))))))))) rfl))))))))
set_option maxRecDepth 20000 in
theorem e_X7_sum_153 (x0 : Nat) (x1 : Int32) (x2 : Int32) (s0 : Int32) (s1 : Int32) (s2 : Value) (M : me_M) : sm T_X7_sum (153, [(0, .ref x0), (1, .int x1), (2, .int x2)], [.int s0, .int s1, s2], M, 0, 0) = (v_ref s2).bind fun a1 => (me_int M 0 a1).bind fun f2 => if s1 < 0 ∨ f2.1 ≤ s1.toNatClampNeg then (none) else sm T_X7_sum (154, [(0, .ref x0), (1, .int x1), (2, .int x2)], [], (me_set M a1 (.inl (0, f2.1, .inl (upd f2.2 s1.toNatClampNeg s0)))), 0, 0) := (by have hF := sm_fx A_X7_sum; generalize sm T_X7_sum = F_ at hF ⊢; exact (sm_h hF (f := i_w [(154, [0, 1, 2])] (i_ist 154)) rfl).trans (q_w (q_ist (vi (vi (ob fun a1 => ob fun f2 => ic (rfl) (rfl)))))))
/-! X7_product -/
abbrev rm_X7_product : Room := { frames := 6, cells := 0, slots := 0, locals := 149 }
noncomputable def T_X7_product : sm_T := [(0, i_al 0 1), (1, i_c (.int (0)) 2), (2, i_c (.int (2)) 3), (3, i_il 1 4), (4, i_bi (fun x z => x * z) 5), (5, i_c (.int (2)) 6), (6, i_il 2 7), (7, i_bi (fun x z => x * z) 8), (8, i_cv 7 4 0 f_X7_multiply 0 0 0 0 11), (11, i_al 0 12), (12, i_c (.int (1)) 13), (13, i_c (.int (2)) 14), (14, i_il 1 15), (15, i_bi (fun x z => x * z) 16), (16, i_c (.int (1)) 17), (17, i_bi (fun x z => x + z) 18), (18, i_c (.int (2)) 19), (19, i_il 2 20), (20, i_bi (fun x z => x * z) 21), (21, i_c (.int (1)) 22), (22, i_bi (fun x z => x + z) 23), (23, i_cv 7 4 0 f_X7_multiply 0 0 0 0 26), (26, i_al 0 27), (27, i_gf 7 3 30), (30, i_c (.int (0)) 31), (31, i_al 0 32), (32, i_gf 7 3 35), (35, i_il 1 36), (36, i_ia 0 37), (37, i_al 0 38), (38, i_gf 7 3 41), (41, i_il 2 42), (42, i_ia 0 43), (43, i_bi (fun x z => x * z) 44), (44, i_ist 45), (45, i_al 0 46), (46, i_c (.int (0)) 47), (47, i_w [(50, [])] (i_cv 7 2 1 f_X7_least 0 0 0 0 50)), (50, i_rz 0 0)]
set_option maxRecDepth 20000 in
theorem A_X7_product : sd_A yX7_product cX7_product 3 (some .boolean) rm_X7_product T_X7_product := by
  refine sd_c (pc := 0) (f := i_al 0 1) (s_aln (i := 0) dX7_product_0) ?_
  refine sd_c (pc := 1) (f := i_c (.int (0)) 2) (s_iconst dX7_product_1 (by decide)) ?_
  refine sd_c (pc := 2) (f := i_c (.int (2)) 3) (s_iconst dX7_product_2 (by decide)) ?_
  refine sd_c (pc := 3) (f := i_il 1 4) (s_iln (i := 1) dX7_product_3) ?_
  refine sd_c (pc := 4) (f := i_bi (fun x z => x * z) 5) (s_imul dX7_product_4) ?_
  refine sd_c (pc := 5) (f := i_c (.int (2)) 6) (s_iconst dX7_product_5 (by decide)) ?_
  refine sd_c (pc := 6) (f := i_il 2 7) (s_iln (i := 2) dX7_product_6) ?_
  refine sd_c (pc := 7) (f := i_bi (fun x z => x * z) 8) (s_imul dX7_product_7) ?_
  refine sd_c (pc := 8) (f := i_cv 7 4 0 f_X7_multiply 0 0 0 0 11) (s_cv (np := 3) (rk := 0) (ci := 7) (rmz := rm_X7_multiply) dX7_product_8 V_X7_multiply w924 w926 wS_PlanFractionsModel_multiply__III_V rfl (by decide)) ?_
  refine sd_c (pc := 11) (f := i_al 0 12) (s_aln (i := 0) dX7_product_11) ?_
  refine sd_c (pc := 12) (f := i_c (.int (1)) 13) (s_iconst dX7_product_12 (by decide)) ?_
  refine sd_c (pc := 13) (f := i_c (.int (2)) 14) (s_iconst dX7_product_13 (by decide)) ?_
  refine sd_c (pc := 14) (f := i_il 1 15) (s_iln (i := 1) dX7_product_14) ?_
  refine sd_c (pc := 15) (f := i_bi (fun x z => x * z) 16) (s_imul dX7_product_15) ?_
  refine sd_c (pc := 16) (f := i_c (.int (1)) 17) (s_iconst dX7_product_16 (by decide)) ?_
  refine sd_c (pc := 17) (f := i_bi (fun x z => x + z) 18) (s_iadd dX7_product_17) ?_
  refine sd_c (pc := 18) (f := i_c (.int (2)) 19) (s_iconst dX7_product_18 (by decide)) ?_
  refine sd_c (pc := 19) (f := i_il 2 20) (s_iln (i := 2) dX7_product_19) ?_
  refine sd_c (pc := 20) (f := i_bi (fun x z => x * z) 21) (s_imul dX7_product_20) ?_
  refine sd_c (pc := 21) (f := i_c (.int (1)) 22) (s_iconst dX7_product_21 (by decide)) ?_
  refine sd_c (pc := 22) (f := i_bi (fun x z => x + z) 23) (s_iadd dX7_product_22) ?_
  refine sd_c (pc := 23) (f := i_cv 7 4 0 f_X7_multiply 0 0 0 0 26) (s_cv (np := 3) (rk := 0) (ci := 7) (rmz := rm_X7_multiply) dX7_product_23 V_X7_multiply w924 w926 wS_PlanFractionsModel_multiply__III_V rfl (by decide)) ?_
  refine sd_c (pc := 26) (f := i_al 0 27) (s_aln (i := 0) dX7_product_26) ?_
  refine sd_c (pc := 27) (f := i_gf 7 3 30) (s_gf (ci := 7) (k := 3) dX7_product_27 rfl in_X7 (by decide) w781) ?_
  refine sd_c (pc := 30) (f := i_c (.int (0)) 31) (s_iconst dX7_product_30 (by decide)) ?_
  refine sd_c (pc := 31) (f := i_al 0 32) (s_aln (i := 0) dX7_product_31) ?_
  refine sd_c (pc := 32) (f := i_gf 7 3 35) (s_gf (ci := 7) (k := 3) dX7_product_32 rfl in_X7 (by decide) w781) ?_
  refine sd_c (pc := 35) (f := i_il 1 36) (s_iln (i := 1) dX7_product_35) ?_
  refine sd_c (pc := 36) (f := i_ia 0 37) (s_iald dX7_product_36) ?_
  refine sd_c (pc := 37) (f := i_al 0 38) (s_aln (i := 0) dX7_product_37) ?_
  refine sd_c (pc := 38) (f := i_gf 7 3 41) (s_gf (ci := 7) (k := 3) dX7_product_38 rfl in_X7 (by decide) w781) ?_
  refine sd_c (pc := 41) (f := i_il 2 42) (s_iln (i := 2) dX7_product_41) ?_
  refine sd_c (pc := 42) (f := i_ia 0 43) (s_iald dX7_product_42) ?_
  refine sd_c (pc := 43) (f := i_bi (fun x z => x * z) 44) (s_imul dX7_product_43) ?_
  refine sd_c (pc := 44) (f := i_ist 45) (s_ist dX7_product_44) ?_
  refine sd_c (pc := 45) (f := i_al 0 46) (s_aln (i := 0) dX7_product_45) ?_
  refine sd_c (pc := 46) (f := i_c (.int (0)) 47) (s_iconst dX7_product_46 (by decide)) ?_
  refine sd_c (pc := 47) (f := i_w [(50, [])] (i_cv 7 2 1 f_X7_least 0 0 0 0 50)) (s_w (s_cv (np := 1) (rk := 1) (ci := 7) (rmz := rm_X7_least) dX7_product_47 V_X7_least w839 w841 wS_PlanFractionsModel_least__I_Z rfl (by decide))) ?_
  refine sd_c (pc := 50) (f := i_rz 0 0) (s_rz dX7_product_50 rfl) ?_
  exact sd_n
noncomputable def f_X7_product : List Value → me_M → Option sm_R := sd_f 3 T_X7_product
theorem V_X7_product : sd_V yX7_product cX7_product 3 (some .boolean) rm_X7_product 2 f_X7_product := ⟨sd_met A_X7_product (by decide +kernel), w935, w8, by decide +kernel⟩
set_option maxRecDepth 20000 in
theorem e_X7_product (x0 : Nat) (x1 : Int32) (x2 : Int32) (M : me_M) : f_X7_product [.ref x0, .int x1, .int x2] M = (me_obj M 7 x0).bind fun _ => (f_X7_multiply [.ref x0, .int (0 : Int32), .int ((2 : Int32) * x1), .int ((2 : Int32) * x2)] M).bind fun r1 => cond r1.1.isNone ((me_obj r1.2 7 x0).bind fun _ => (f_X7_multiply [.ref x0, .int (1 : Int32), .int (((2 : Int32) * x1) + (1 : Int32)), .int (((2 : Int32) * x2) + (1 : Int32))] r1.2).bind fun r2 => cond r2.1.isNone ((me_obj r2.2 7 x0).bind fun f3 => (f3[3]?).bind fun w4 => (me_obj r2.2 7 x0).bind fun f5 => (f5[3]?).bind fun w6 => (v_ref w6).bind fun a7 => (me_int r2.2 0 a7).bind fun f8 => if x1 < 0 ∨ f8.1 ≤ x1.toNatClampNeg then (none) else (me_obj r2.2 7 x0).bind fun f9 => (f9[3]?).bind fun w10 => (v_ref w10).bind fun a11 => (me_int r2.2 0 a11).bind fun f12 => if x2 < 0 ∨ f12.1 ≤ x2.toNatClampNeg then (none) else (v_ref w4).bind fun a13 => (me_int r2.2 0 a13).bind fun f14 => if (0 : Int32) < 0 ∨ f14.1 ≤ (0 : Int32).toNatClampNeg then (none) else (me_obj (me_set r2.2 a13 (.inl (0, f14.1, .inl (upd f14.2 (0 : Int32).toNatClampNeg ((f8.2 x1.toNatClampNeg) * (f12.2 x2.toNatClampNeg)))))) 7 x0).bind fun _ => (f_X7_least [.ref x0, .int (0 : Int32)] (me_set r2.2 a13 (.inl (0, f14.1, .inl (upd f14.2 (0 : Int32).toNatClampNeg ((f8.2 x1.toNatClampNeg) * (f12.2 x2.toNatClampNeg))))))).bind fun r15 => r15.1.bind fun v16 => (v_int v16).bind fun y17 => sm T_X7_product (50, [], [.int y17], r15.2, 0, 0)) none) none := (show f_X7_product [.ref x0, .int x1, .int x2] M = sm T_X7_product (0, [(0, .ref x0), (1, .int x1), (2, .int x2)], [], M, 0, 0) from rfl).trans (by have hF := sm_fx A_X7_product; generalize sm T_X7_product = F_ at hF ⊢; exact (sm_h hF (f := i_al 0 1) rfl).trans (q_al rfl ((sm_h hF (f := i_c (.int (0)) 2) rfl).trans (q_c ((sm_h hF (f := i_c (.int (2)) 3) rfl).trans (q_c ((sm_h hF (f := i_il 1 4) rfl).trans (q_il rfl ((sm_h hF (f := i_bi (fun x z => x * z) 5) rfl).trans (q_bi (vi (vi ((sm_h hF (f := i_c (.int (2)) 6) rfl).trans (q_c ((sm_h hF (f := i_il 2 7) rfl).trans (q_il rfl ((sm_h hF (f := i_bi (fun x z => x * z) 8) rfl).trans (q_bi (vi (vi ((sm_h hF (f := i_cv 7 4 0 f_X7_multiply 0 0 0 0 11) rfl).trans (q_cv rfl rfl rfl (vr (ob fun _ => ob fun r1 => cT rfl (q_r0 (cg ((sm_h hF (f := i_al 0 12) rfl).trans (q_al rfl ((sm_h hF (f := i_c (.int (1)) 13) rfl).trans (q_c ((sm_h hF (f := i_c (.int (2)) 14) rfl).trans (q_c ((sm_h hF (f := i_il 1 15) rfl).trans (q_il rfl ((sm_h hF (f := i_bi (fun x z => x * z) 16) rfl).trans (q_bi (vi (vi ((sm_h hF (f := i_c (.int (1)) 17) rfl).trans (q_c ((sm_h hF (f := i_bi (fun x z => x + z) 18) rfl).trans (q_bi (vi (vi ((sm_h hF (f := i_c (.int (2)) 19) rfl).trans (q_c ((sm_h hF (f := i_il 2 20) rfl).trans (q_il rfl ((sm_h hF (f := i_bi (fun x z => x * z) 21) rfl).trans (q_bi (vi (vi ((sm_h hF (f := i_c (.int (1)) 22) rfl).trans (q_c ((sm_h hF (f := i_bi (fun x z => x + z) 23) rfl).trans (q_bi (vi (vi ((sm_h hF (f := i_cv 7 4 0 f_X7_multiply 0 0 0 0 26) rfl).trans (q_cv rfl rfl rfl (vr (ob fun _ => ob fun r2 => cT rfl (q_r0 (cg ((sm_h hF (f := i_al 0 27) rfl).trans (q_al rfl ((sm_h hF (f := i_gf 7 3 30) rfl).trans (q_gf (vr (ob fun f3 => ob fun w4 => (sm_h hF (f := i_c (.int (0)) 31) rfl).trans (q_c ((sm_h hF (f := i_al 0 32) rfl).trans (q_al rfl ((sm_h hF (f := i_gf 7 3 35) rfl).trans (q_gf (vr (ob fun f5 => ob fun w6 => (sm_h hF (f := i_il 1 36) rfl).trans (q_il rfl ((sm_h hF (f := i_ia 0 37) rfl).trans (q_ia (vi (ob fun a7 => ob fun f8 => ic (rfl) ((sm_h hF (f := i_al 0 38) rfl).trans (q_al rfl ((sm_h hF (f := i_gf 7 3 41) rfl).trans (q_gf (vr (ob fun f9 => ob fun w10 => (sm_h hF (f := i_il 2 42) rfl).trans (q_il rfl ((sm_h hF (f := i_ia 0 43) rfl).trans (q_ia (vi (ob fun a11 => ob fun f12 => ic (rfl) ((sm_h hF (f := i_bi (fun x z => x * z) 44) rfl).trans (q_bi (vi (vi ((sm_h hF (f := i_ist 45) rfl).trans (q_ist (vi (vi (ob fun a13 => ob fun f14 => ic (rfl) ((sm_h hF (f := i_al 0 46) rfl).trans (q_al rfl ((sm_h hF (f := i_c (.int (0)) 47) rfl).trans (q_c ((sm_h hF (f := i_w [(50, [])] (i_cv 7 2 1 f_X7_least 0 0 0 0 50)) rfl).trans (q_w (q_cv rfl rfl rfl (vr (ob fun _ => ob fun r15 => cT rfl (q_r1 (ob fun v16 => ob fun y17 => rfl))))))))))))))))))))))))))))))))))))))))))))))))) rfl)))))))))))))))))))))))))))))))))))))) rfl))))))))))))))))))))))))))
set_option maxRecDepth 20000 in
theorem e_X7_product_50 (s0 : Int32) (M : me_M) : sm T_X7_product (50, [], [.int s0], M, 0, 0) = if s0 = 0 ∨ s0 = 1 then (if 0 ≤ 0 ∧ 0 ≤ 0 then some (some (.int s0), M) else none) else none := (by have hF := sm_fx A_X7_product; generalize sm T_X7_product = F_ at hF ⊢; exact (sm_h hF (f := i_rz 0 0) rfl).trans (q_rz (vi (rfl))))
/-! X7_quotient -/
abbrev rm_X7_quotient : Room := { frames := 6, cells := 0, slots := 0, locals := 149 }
noncomputable def T_X7_quotient : sm_T := [(0, i_al 0 1), (1, i_c (.int (0)) 2), (2, i_c (.int (2)) 3), (3, i_il 1 4), (4, i_bi (fun x z => x * z) 5), (5, i_c (.int (2)) 6), (6, i_il 2 7), (7, i_bi (fun x z => x * z) 8), (8, i_c (.int (1)) 9), (9, i_bi (fun x z => x + z) 10), (10, i_cv 7 4 0 f_X7_multiply 0 0 0 0 13), (13, i_al 0 14), (14, i_c (.int (1)) 15), (15, i_c (.int (2)) 16), (16, i_il 1 17), (17, i_bi (fun x z => x * z) 18), (18, i_c (.int (1)) 19), (19, i_bi (fun x z => x + z) 20), (20, i_c (.int (2)) 21), (21, i_il 2 22), (22, i_bi (fun x z => x * z) 23), (23, i_cv 7 4 0 f_X7_multiply 0 0 0 0 26), (26, i_al 0 27), (27, i_gf 7 3 30), (30, i_c (.int (0)) 31), (31, i_al 0 32), (32, i_gf 7 3 35), (35, i_il 1 36), (36, i_ia 0 37), (37, i_al 0 38), (38, i_gf 7 3 41), (41, i_il 2 42), (42, i_ia 0 43), (43, i_bi (fun x z => x * z) 44), (44, i_ist 45), (45, i_al 0 46), (46, i_c (.int (0)) 47), (47, i_w [(50, [])] (i_cv 7 2 1 f_X7_least 0 0 0 0 50)), (50, i_rz 0 0)]
set_option maxRecDepth 20000 in
theorem A_X7_quotient : sd_A yX7_quotient cX7_quotient 3 (some .boolean) rm_X7_quotient T_X7_quotient := by
  refine sd_c (pc := 0) (f := i_al 0 1) (s_aln (i := 0) dX7_quotient_0) ?_
  refine sd_c (pc := 1) (f := i_c (.int (0)) 2) (s_iconst dX7_quotient_1 (by decide)) ?_
  refine sd_c (pc := 2) (f := i_c (.int (2)) 3) (s_iconst dX7_quotient_2 (by decide)) ?_
  refine sd_c (pc := 3) (f := i_il 1 4) (s_iln (i := 1) dX7_quotient_3) ?_
  refine sd_c (pc := 4) (f := i_bi (fun x z => x * z) 5) (s_imul dX7_quotient_4) ?_
  refine sd_c (pc := 5) (f := i_c (.int (2)) 6) (s_iconst dX7_quotient_5 (by decide)) ?_
  refine sd_c (pc := 6) (f := i_il 2 7) (s_iln (i := 2) dX7_quotient_6) ?_
  refine sd_c (pc := 7) (f := i_bi (fun x z => x * z) 8) (s_imul dX7_quotient_7) ?_
  refine sd_c (pc := 8) (f := i_c (.int (1)) 9) (s_iconst dX7_quotient_8 (by decide)) ?_
  refine sd_c (pc := 9) (f := i_bi (fun x z => x + z) 10) (s_iadd dX7_quotient_9) ?_
  refine sd_c (pc := 10) (f := i_cv 7 4 0 f_X7_multiply 0 0 0 0 13) (s_cv (np := 3) (rk := 0) (ci := 7) (rmz := rm_X7_multiply) dX7_quotient_10 V_X7_multiply w924 w926 wS_PlanFractionsModel_multiply__III_V rfl (by decide)) ?_
  refine sd_c (pc := 13) (f := i_al 0 14) (s_aln (i := 0) dX7_quotient_13) ?_
  refine sd_c (pc := 14) (f := i_c (.int (1)) 15) (s_iconst dX7_quotient_14 (by decide)) ?_
  refine sd_c (pc := 15) (f := i_c (.int (2)) 16) (s_iconst dX7_quotient_15 (by decide)) ?_
  refine sd_c (pc := 16) (f := i_il 1 17) (s_iln (i := 1) dX7_quotient_16) ?_
  refine sd_c (pc := 17) (f := i_bi (fun x z => x * z) 18) (s_imul dX7_quotient_17) ?_
  refine sd_c (pc := 18) (f := i_c (.int (1)) 19) (s_iconst dX7_quotient_18 (by decide)) ?_
  refine sd_c (pc := 19) (f := i_bi (fun x z => x + z) 20) (s_iadd dX7_quotient_19) ?_
  refine sd_c (pc := 20) (f := i_c (.int (2)) 21) (s_iconst dX7_quotient_20 (by decide)) ?_
  refine sd_c (pc := 21) (f := i_il 2 22) (s_iln (i := 2) dX7_quotient_21) ?_
  refine sd_c (pc := 22) (f := i_bi (fun x z => x * z) 23) (s_imul dX7_quotient_22) ?_
  refine sd_c (pc := 23) (f := i_cv 7 4 0 f_X7_multiply 0 0 0 0 26) (s_cv (np := 3) (rk := 0) (ci := 7) (rmz := rm_X7_multiply) dX7_quotient_23 V_X7_multiply w924 w926 wS_PlanFractionsModel_multiply__III_V rfl (by decide)) ?_
  refine sd_c (pc := 26) (f := i_al 0 27) (s_aln (i := 0) dX7_quotient_26) ?_
  refine sd_c (pc := 27) (f := i_gf 7 3 30) (s_gf (ci := 7) (k := 3) dX7_quotient_27 rfl in_X7 (by decide) w781) ?_
  refine sd_c (pc := 30) (f := i_c (.int (0)) 31) (s_iconst dX7_quotient_30 (by decide)) ?_
  refine sd_c (pc := 31) (f := i_al 0 32) (s_aln (i := 0) dX7_quotient_31) ?_
  refine sd_c (pc := 32) (f := i_gf 7 3 35) (s_gf (ci := 7) (k := 3) dX7_quotient_32 rfl in_X7 (by decide) w781) ?_
  refine sd_c (pc := 35) (f := i_il 1 36) (s_iln (i := 1) dX7_quotient_35) ?_
  refine sd_c (pc := 36) (f := i_ia 0 37) (s_iald dX7_quotient_36) ?_
  refine sd_c (pc := 37) (f := i_al 0 38) (s_aln (i := 0) dX7_quotient_37) ?_
  refine sd_c (pc := 38) (f := i_gf 7 3 41) (s_gf (ci := 7) (k := 3) dX7_quotient_38 rfl in_X7 (by decide) w781) ?_
  refine sd_c (pc := 41) (f := i_il 2 42) (s_iln (i := 2) dX7_quotient_41) ?_
  refine sd_c (pc := 42) (f := i_ia 0 43) (s_iald dX7_quotient_42) ?_
  refine sd_c (pc := 43) (f := i_bi (fun x z => x * z) 44) (s_imul dX7_quotient_43) ?_
  refine sd_c (pc := 44) (f := i_ist 45) (s_ist dX7_quotient_44) ?_
  refine sd_c (pc := 45) (f := i_al 0 46) (s_aln (i := 0) dX7_quotient_45) ?_
  refine sd_c (pc := 46) (f := i_c (.int (0)) 47) (s_iconst dX7_quotient_46 (by decide)) ?_
  refine sd_c (pc := 47) (f := i_w [(50, [])] (i_cv 7 2 1 f_X7_least 0 0 0 0 50)) (s_w (s_cv (np := 1) (rk := 1) (ci := 7) (rmz := rm_X7_least) dX7_quotient_47 V_X7_least w839 w841 wS_PlanFractionsModel_least__I_Z rfl (by decide))) ?_
  refine sd_c (pc := 50) (f := i_rz 0 0) (s_rz dX7_quotient_50 rfl) ?_
  exact sd_n
noncomputable def f_X7_quotient : List Value → me_M → Option sm_R := sd_f 3 T_X7_quotient
theorem V_X7_quotient : sd_V yX7_quotient cX7_quotient 3 (some .boolean) rm_X7_quotient 2 f_X7_quotient := ⟨sd_met A_X7_quotient (by decide +kernel), w939, w8, by decide +kernel⟩
set_option maxRecDepth 20000 in
theorem e_X7_quotient (x0 : Nat) (x1 : Int32) (x2 : Int32) (M : me_M) : f_X7_quotient [.ref x0, .int x1, .int x2] M = (me_obj M 7 x0).bind fun _ => (f_X7_multiply [.ref x0, .int (0 : Int32), .int ((2 : Int32) * x1), .int (((2 : Int32) * x2) + (1 : Int32))] M).bind fun r1 => cond r1.1.isNone ((me_obj r1.2 7 x0).bind fun _ => (f_X7_multiply [.ref x0, .int (1 : Int32), .int (((2 : Int32) * x1) + (1 : Int32)), .int ((2 : Int32) * x2)] r1.2).bind fun r2 => cond r2.1.isNone ((me_obj r2.2 7 x0).bind fun f3 => (f3[3]?).bind fun w4 => (me_obj r2.2 7 x0).bind fun f5 => (f5[3]?).bind fun w6 => (v_ref w6).bind fun a7 => (me_int r2.2 0 a7).bind fun f8 => if x1 < 0 ∨ f8.1 ≤ x1.toNatClampNeg then (none) else (me_obj r2.2 7 x0).bind fun f9 => (f9[3]?).bind fun w10 => (v_ref w10).bind fun a11 => (me_int r2.2 0 a11).bind fun f12 => if x2 < 0 ∨ f12.1 ≤ x2.toNatClampNeg then (none) else (v_ref w4).bind fun a13 => (me_int r2.2 0 a13).bind fun f14 => if (0 : Int32) < 0 ∨ f14.1 ≤ (0 : Int32).toNatClampNeg then (none) else (me_obj (me_set r2.2 a13 (.inl (0, f14.1, .inl (upd f14.2 (0 : Int32).toNatClampNeg ((f8.2 x1.toNatClampNeg) * (f12.2 x2.toNatClampNeg)))))) 7 x0).bind fun _ => (f_X7_least [.ref x0, .int (0 : Int32)] (me_set r2.2 a13 (.inl (0, f14.1, .inl (upd f14.2 (0 : Int32).toNatClampNeg ((f8.2 x1.toNatClampNeg) * (f12.2 x2.toNatClampNeg))))))).bind fun r15 => r15.1.bind fun v16 => (v_int v16).bind fun y17 => sm T_X7_quotient (50, [], [.int y17], r15.2, 0, 0)) none) none := (show f_X7_quotient [.ref x0, .int x1, .int x2] M = sm T_X7_quotient (0, [(0, .ref x0), (1, .int x1), (2, .int x2)], [], M, 0, 0) from rfl).trans (by have hF := sm_fx A_X7_quotient; generalize sm T_X7_quotient = F_ at hF ⊢; exact (sm_h hF (f := i_al 0 1) rfl).trans (q_al rfl ((sm_h hF (f := i_c (.int (0)) 2) rfl).trans (q_c ((sm_h hF (f := i_c (.int (2)) 3) rfl).trans (q_c ((sm_h hF (f := i_il 1 4) rfl).trans (q_il rfl ((sm_h hF (f := i_bi (fun x z => x * z) 5) rfl).trans (q_bi (vi (vi ((sm_h hF (f := i_c (.int (2)) 6) rfl).trans (q_c ((sm_h hF (f := i_il 2 7) rfl).trans (q_il rfl ((sm_h hF (f := i_bi (fun x z => x * z) 8) rfl).trans (q_bi (vi (vi ((sm_h hF (f := i_c (.int (1)) 9) rfl).trans (q_c ((sm_h hF (f := i_bi (fun x z => x + z) 10) rfl).trans (q_bi (vi (vi ((sm_h hF (f := i_cv 7 4 0 f_X7_multiply 0 0 0 0 13) rfl).trans (q_cv rfl rfl rfl (vr (ob fun _ => ob fun r1 => cT rfl (q_r0 (cg ((sm_h hF (f := i_al 0 14) rfl).trans (q_al rfl ((sm_h hF (f := i_c (.int (1)) 15) rfl).trans (q_c ((sm_h hF (f := i_c (.int (2)) 16) rfl).trans (q_c ((sm_h hF (f := i_il 1 17) rfl).trans (q_il rfl ((sm_h hF (f := i_bi (fun x z => x * z) 18) rfl).trans (q_bi (vi (vi ((sm_h hF (f := i_c (.int (1)) 19) rfl).trans (q_c ((sm_h hF (f := i_bi (fun x z => x + z) 20) rfl).trans (q_bi (vi (vi ((sm_h hF (f := i_c (.int (2)) 21) rfl).trans (q_c ((sm_h hF (f := i_il 2 22) rfl).trans (q_il rfl ((sm_h hF (f := i_bi (fun x z => x * z) 23) rfl).trans (q_bi (vi (vi ((sm_h hF (f := i_cv 7 4 0 f_X7_multiply 0 0 0 0 26) rfl).trans (q_cv rfl rfl rfl (vr (ob fun _ => ob fun r2 => cT rfl (q_r0 (cg ((sm_h hF (f := i_al 0 27) rfl).trans (q_al rfl ((sm_h hF (f := i_gf 7 3 30) rfl).trans (q_gf (vr (ob fun f3 => ob fun w4 => (sm_h hF (f := i_c (.int (0)) 31) rfl).trans (q_c ((sm_h hF (f := i_al 0 32) rfl).trans (q_al rfl ((sm_h hF (f := i_gf 7 3 35) rfl).trans (q_gf (vr (ob fun f5 => ob fun w6 => (sm_h hF (f := i_il 1 36) rfl).trans (q_il rfl ((sm_h hF (f := i_ia 0 37) rfl).trans (q_ia (vi (ob fun a7 => ob fun f8 => ic (rfl) ((sm_h hF (f := i_al 0 38) rfl).trans (q_al rfl ((sm_h hF (f := i_gf 7 3 41) rfl).trans (q_gf (vr (ob fun f9 => ob fun w10 => (sm_h hF (f := i_il 2 42) rfl).trans (q_il rfl ((sm_h hF (f := i_ia 0 43) rfl).trans (q_ia (vi (ob fun a11 => ob fun f12 => ic (rfl) ((sm_h hF (f := i_bi (fun x z => x * z) 44) rfl).trans (q_bi (vi (vi ((sm_h hF (f := i_ist 45) rfl).trans (q_ist (vi (vi (ob fun a13 => ob fun f14 => ic (rfl) ((sm_h hF (f := i_al 0 46) rfl).trans (q_al rfl ((sm_h hF (f := i_c (.int (0)) 47) rfl).trans (q_c ((sm_h hF (f := i_w [(50, [])] (i_cv 7 2 1 f_X7_least 0 0 0 0 50)) rfl).trans (q_w (q_cv rfl rfl rfl (vr (ob fun _ => ob fun r15 => cT rfl (q_r1 (ob fun v16 => ob fun y17 => rfl))))))))))))))))))))))))))))))))))))))))))))))))) rfl)))))))))))))))))))))))))))))))) rfl))))))))))))))))))))))))))))))))
set_option maxRecDepth 20000 in
theorem e_X7_quotient_50 (s0 : Int32) (M : me_M) : sm T_X7_quotient (50, [], [.int s0], M, 0, 0) = if s0 = 0 ∨ s0 = 1 then (if 0 ≤ 0 ∧ 0 ≤ 0 then some (some (.int s0), M) else none) else none := (by have hF := sm_fx A_X7_quotient; generalize sm T_X7_quotient = F_ at hF ⊢; exact (sm_h hF (f := i_rz 0 0) rfl).trans (q_rz (vi (rfl))))
/-! X7_left -/
abbrev rm_X7_left : Room := { frames := 6, cells := 0, slots := 0, locals := 149 }
noncomputable def T_X7_left : sm_T := [(0, i_al 0 1), (1, i_il 1 2), (2, i_il 2 3), (3, i_cv 7 3 0 f_X7_across 0 0 0 0 6), (6, i_al 0 7), (7, i_c (.int (10)) 9), (9, i_c (.int (11)) 11), (11, i_c (.int (-1)) 12), (12, i_cv 7 4 0 f_X7_divide 0 0 0 0 15), (15, i_al 0 16), (16, i_gf 7 2 19), (19, i_c (.int (10)) 21), (21, i_ia 0 22), (22, i_w [(40, [0, 1, 2])] (i_z (fun x => x = 0) 40 25)), (25, i_al 0 26), (26, i_gf 7 3 29), (29, i_il 1 30), (30, i_ia 0 31), (31, i_al 0 32), (32, i_gf 7 3 35), (35, i_il 2 36), (36, i_ia 0 37), (37, i_w [(40, [0, 1, 2])] (i_zz (fun x z => x = z) 40 50)), (40, i_al 0 41), (41, i_c (.int (0)) 42), (42, i_c (.int (10)) 44), (44, i_cv 7 3 0 f_X7_copy 0 0 0 0 47), (47, i_w [(65, [0, 1, 2])] (i_g 65)), (50, i_al 0 51), (51, i_c (.int (0)) 52), (52, i_c (.int (11)) 54), (54, i_cv 7 3 0 f_X7_copy 0 0 0 0 57), (57, i_al 0 58), (58, i_c (.int (0)) 59), (59, i_c (.int (10)) 61), (61, i_c (.int (0)) 62), (62, i_w [(65, [0, 1, 2])] (i_cv 7 4 0 f_X7_lessen 0 0 0 0 65)), (65, i_al 0 66), (66, i_gf 7 3 69), (69, i_c (.int (0)) 70), (70, i_al 0 71), (71, i_gf 7 3 74), (74, i_il 2 75), (75, i_ia 0 76), (76, i_ist 77), (77, i_al 0 78), (78, i_c (.int (1)) 79), (79, i_c (.int (2)) 80), (80, i_il 1 81), (81, i_bi (fun x z => x * z) 82), (82, i_c (.int (1)) 83), (83, i_bi (fun x z => x + z) 84), (84, i_c (.int (2)) 85), (85, i_il 2 86), (86, i_bi (fun x z => x * z) 87), (87, i_c (.int (1)) 88), (88, i_bi (fun x z => x + z) 89), (89, i_cv 7 4 0 f_X7_multiply 0 0 0 0 92), (92, i_al 0 93), (93, i_c (.int (0)) 94), (94, i_cv 7 2 1 f_X7_least 0 0 0 0 97), (97, i_rz 0 0)]
set_option maxRecDepth 20000 in
theorem A_X7_left : sd_A yX7_left cX7_left 3 (some .boolean) rm_X7_left T_X7_left := by
  refine sd_c (pc := 0) (f := i_al 0 1) (s_aln (i := 0) dX7_left_0) ?_
  refine sd_c (pc := 1) (f := i_il 1 2) (s_iln (i := 1) dX7_left_1) ?_
  refine sd_c (pc := 2) (f := i_il 2 3) (s_iln (i := 2) dX7_left_2) ?_
  refine sd_c (pc := 3) (f := i_cv 7 3 0 f_X7_across 0 0 0 0 6) (s_cv (np := 2) (rk := 0) (ci := 7) (rmz := rm_X7_across) dX7_left_3 V_X7_across w920 w922 wS_PlanFractionsModel_across__II_V rfl (by decide)) ?_
  refine sd_c (pc := 6) (f := i_al 0 7) (s_aln (i := 0) dX7_left_6) ?_
  refine sd_c (pc := 7) (f := i_c (.int (10)) 9) (s_bipush dX7_left_7 (by decide)) ?_
  refine sd_c (pc := 9) (f := i_c (.int (11)) 11) (s_bipush dX7_left_9 (by decide)) ?_
  refine sd_c (pc := 11) (f := i_c (.int (-1)) 12) (s_iconst dX7_left_11 (by decide)) ?_
  refine sd_c (pc := 12) (f := i_cv 7 4 0 f_X7_divide 0 0 0 0 15) (s_cv (np := 3) (rk := 0) (ci := 7) (rmz := rm_X7_divide) dX7_left_12 V_X7_divide w851 w853 wS_PlanFractionsModel_divide__III_V rfl (by decide)) ?_
  refine sd_c (pc := 15) (f := i_al 0 16) (s_aln (i := 0) dX7_left_15) ?_
  refine sd_c (pc := 16) (f := i_gf 7 2 19) (s_gf (ci := 7) (k := 2) dX7_left_16 rfl in_X7 (by decide) w780) ?_
  refine sd_c (pc := 19) (f := i_c (.int (10)) 21) (s_bipush dX7_left_19 (by decide)) ?_
  refine sd_c (pc := 21) (f := i_ia 0 22) (s_iald dX7_left_21) ?_
  refine sd_c (pc := 22) (f := i_w [(40, [0, 1, 2])] (i_z (fun x => x = 0) 40 25)) (s_w (s_if_eq (tgt := 40) dX7_left_22 (by decide))) ?_
  refine sd_c (pc := 25) (f := i_al 0 26) (s_aln (i := 0) dX7_left_25) ?_
  refine sd_c (pc := 26) (f := i_gf 7 3 29) (s_gf (ci := 7) (k := 3) dX7_left_26 rfl in_X7 (by decide) w781) ?_
  refine sd_c (pc := 29) (f := i_il 1 30) (s_iln (i := 1) dX7_left_29) ?_
  refine sd_c (pc := 30) (f := i_ia 0 31) (s_iald dX7_left_30) ?_
  refine sd_c (pc := 31) (f := i_al 0 32) (s_aln (i := 0) dX7_left_31) ?_
  refine sd_c (pc := 32) (f := i_gf 7 3 35) (s_gf (ci := 7) (k := 3) dX7_left_32 rfl in_X7 (by decide) w781) ?_
  refine sd_c (pc := 35) (f := i_il 2 36) (s_iln (i := 2) dX7_left_35) ?_
  refine sd_c (pc := 36) (f := i_ia 0 37) (s_iald dX7_left_36) ?_
  refine sd_c (pc := 37) (f := i_w [(40, [0, 1, 2])] (i_zz (fun x z => x = z) 40 50)) (s_w (s_ic_ne (tgt := 50) dX7_left_37 (by decide))) ?_
  refine sd_c (pc := 40) (f := i_al 0 41) (s_aln (i := 0) dX7_left_40) ?_
  refine sd_c (pc := 41) (f := i_c (.int (0)) 42) (s_iconst dX7_left_41 (by decide)) ?_
  refine sd_c (pc := 42) (f := i_c (.int (10)) 44) (s_bipush dX7_left_42 (by decide)) ?_
  refine sd_c (pc := 44) (f := i_cv 7 3 0 f_X7_copy 0 0 0 0 47) (s_cv (np := 2) (rk := 0) (ci := 7) (rmz := rm_X7_copy) dX7_left_44 V_X7_copy w847 w849 wS_PlanFractionsModel_copy__II_V rfl (by decide)) ?_
  refine sd_c (pc := 47) (f := i_w [(65, [0, 1, 2])] (i_g 65)) (s_w (s_goto (tgt := 65) dX7_left_47 (by decide))) ?_
  refine sd_c (pc := 50) (f := i_al 0 51) (s_aln (i := 0) dX7_left_50) ?_
  refine sd_c (pc := 51) (f := i_c (.int (0)) 52) (s_iconst dX7_left_51 (by decide)) ?_
  refine sd_c (pc := 52) (f := i_c (.int (11)) 54) (s_bipush dX7_left_52 (by decide)) ?_
  refine sd_c (pc := 54) (f := i_cv 7 3 0 f_X7_copy 0 0 0 0 57) (s_cv (np := 2) (rk := 0) (ci := 7) (rmz := rm_X7_copy) dX7_left_54 V_X7_copy w847 w849 wS_PlanFractionsModel_copy__II_V rfl (by decide)) ?_
  refine sd_c (pc := 57) (f := i_al 0 58) (s_aln (i := 0) dX7_left_57) ?_
  refine sd_c (pc := 58) (f := i_c (.int (0)) 59) (s_iconst dX7_left_58 (by decide)) ?_
  refine sd_c (pc := 59) (f := i_c (.int (10)) 61) (s_bipush dX7_left_59 (by decide)) ?_
  refine sd_c (pc := 61) (f := i_c (.int (0)) 62) (s_iconst dX7_left_61 (by decide)) ?_
  refine sd_c (pc := 62) (f := i_w [(65, [0, 1, 2])] (i_cv 7 4 0 f_X7_lessen 0 0 0 0 65)) (s_w (s_cv (np := 3) (rk := 0) (ci := 7) (rmz := rm_X7_lessen) dX7_left_62 V_X7_lessen w876 w878 wS_PlanFractionsModel_lessen__III_V rfl (by decide))) ?_
  refine sd_c (pc := 65) (f := i_al 0 66) (s_aln (i := 0) dX7_left_65) ?_
  refine sd_c (pc := 66) (f := i_gf 7 3 69) (s_gf (ci := 7) (k := 3) dX7_left_66 rfl in_X7 (by decide) w781) ?_
  refine sd_c (pc := 69) (f := i_c (.int (0)) 70) (s_iconst dX7_left_69 (by decide)) ?_
  refine sd_c (pc := 70) (f := i_al 0 71) (s_aln (i := 0) dX7_left_70) ?_
  refine sd_c (pc := 71) (f := i_gf 7 3 74) (s_gf (ci := 7) (k := 3) dX7_left_71 rfl in_X7 (by decide) w781) ?_
  refine sd_c (pc := 74) (f := i_il 2 75) (s_iln (i := 2) dX7_left_74) ?_
  refine sd_c (pc := 75) (f := i_ia 0 76) (s_iald dX7_left_75) ?_
  refine sd_c (pc := 76) (f := i_ist 77) (s_ist dX7_left_76) ?_
  refine sd_c (pc := 77) (f := i_al 0 78) (s_aln (i := 0) dX7_left_77) ?_
  refine sd_c (pc := 78) (f := i_c (.int (1)) 79) (s_iconst dX7_left_78 (by decide)) ?_
  refine sd_c (pc := 79) (f := i_c (.int (2)) 80) (s_iconst dX7_left_79 (by decide)) ?_
  refine sd_c (pc := 80) (f := i_il 1 81) (s_iln (i := 1) dX7_left_80) ?_
  refine sd_c (pc := 81) (f := i_bi (fun x z => x * z) 82) (s_imul dX7_left_81) ?_
  refine sd_c (pc := 82) (f := i_c (.int (1)) 83) (s_iconst dX7_left_82 (by decide)) ?_
  refine sd_c (pc := 83) (f := i_bi (fun x z => x + z) 84) (s_iadd dX7_left_83) ?_
  refine sd_c (pc := 84) (f := i_c (.int (2)) 85) (s_iconst dX7_left_84 (by decide)) ?_
  refine sd_c (pc := 85) (f := i_il 2 86) (s_iln (i := 2) dX7_left_85) ?_
  refine sd_c (pc := 86) (f := i_bi (fun x z => x * z) 87) (s_imul dX7_left_86) ?_
  refine sd_c (pc := 87) (f := i_c (.int (1)) 88) (s_iconst dX7_left_87 (by decide)) ?_
  refine sd_c (pc := 88) (f := i_bi (fun x z => x + z) 89) (s_iadd dX7_left_88) ?_
  refine sd_c (pc := 89) (f := i_cv 7 4 0 f_X7_multiply 0 0 0 0 92) (s_cv (np := 3) (rk := 0) (ci := 7) (rmz := rm_X7_multiply) dX7_left_89 V_X7_multiply w924 w926 wS_PlanFractionsModel_multiply__III_V rfl (by decide)) ?_
  refine sd_c (pc := 92) (f := i_al 0 93) (s_aln (i := 0) dX7_left_92) ?_
  refine sd_c (pc := 93) (f := i_c (.int (0)) 94) (s_iconst dX7_left_93 (by decide)) ?_
  refine sd_c (pc := 94) (f := i_cv 7 2 1 f_X7_least 0 0 0 0 97) (s_cv (np := 1) (rk := 1) (ci := 7) (rmz := rm_X7_least) dX7_left_94 V_X7_least w839 w841 wS_PlanFractionsModel_least__I_Z rfl (by decide)) ?_
  refine sd_c (pc := 97) (f := i_rz 0 0) (s_rz dX7_left_97 rfl) ?_
  exact sd_n
noncomputable def f_X7_left : List Value → me_M → Option sm_R := sd_f 3 T_X7_left
theorem V_X7_left : sd_V yX7_left cX7_left 3 (some .boolean) rm_X7_left 2 f_X7_left := ⟨sd_met A_X7_left (by decide +kernel), w943, w8, by decide +kernel⟩
set_option maxRecDepth 20000 in
theorem e_X7_left (x0 : Nat) (x1 : Int32) (x2 : Int32) (M : me_M) : f_X7_left [.ref x0, .int x1, .int x2] M = (me_obj M 7 x0).bind fun _ => (f_X7_across [.ref x0, .int x1, .int x2] M).bind fun r1 => cond r1.1.isNone ((me_obj r1.2 7 x0).bind fun _ => (f_X7_divide [.ref x0, .int (10 : Int32), .int (11 : Int32), .int (-1 : Int32)] r1.2).bind fun r2 => cond r2.1.isNone ((me_obj r2.2 7 x0).bind fun f3 => (f3[2]?).bind fun w4 => (v_ref w4).bind fun a5 => (me_int r2.2 0 a5).bind fun f6 => if (10 : Int32) < 0 ∨ f6.1 ≤ (10 : Int32).toNatClampNeg then (none) else if (f6.2 (10 : Int32).toNatClampNeg) = 0 then (sm T_X7_left (40, [(0, .ref x0), (1, .int x1), (2, .int x2)], [], r2.2, 0, 0)) else (me_obj r2.2 7 x0).bind fun f7 => (f7[3]?).bind fun w8 => (v_ref w8).bind fun a9 => (me_int r2.2 0 a9).bind fun f10 => if x1 < 0 ∨ f10.1 ≤ x1.toNatClampNeg then (none) else (me_obj r2.2 7 x0).bind fun f11 => (f11[3]?).bind fun w12 => (v_ref w12).bind fun a13 => (me_int r2.2 0 a13).bind fun f14 => if x2 < 0 ∨ f14.1 ≤ x2.toNatClampNeg then (none) else if (f10.2 x1.toNatClampNeg) = (f14.2 x2.toNatClampNeg) then (sm T_X7_left (40, [(0, .ref x0), (1, .int x1), (2, .int x2)], [], r2.2, 0, 0)) else (me_obj r2.2 7 x0).bind fun _ => (f_X7_copy [.ref x0, .int (0 : Int32), .int (11 : Int32)] r2.2).bind fun r15 => cond r15.1.isNone ((me_obj r15.2 7 x0).bind fun _ => (f_X7_lessen [.ref x0, .int (0 : Int32), .int (10 : Int32), .int (0 : Int32)] r15.2).bind fun r16 => cond r16.1.isNone (sm T_X7_left (65, [(0, .ref x0), (1, .int x1), (2, .int x2)], [], r16.2, 0, 0)) none) none) none) none := (show f_X7_left [.ref x0, .int x1, .int x2] M = sm T_X7_left (0, [(0, .ref x0), (1, .int x1), (2, .int x2)], [], M, 0, 0) from rfl).trans (by have hF := sm_fx A_X7_left; generalize sm T_X7_left = F_ at hF ⊢; exact (sm_h hF (f := i_al 0 1) rfl).trans (q_al rfl ((sm_h hF (f := i_il 1 2) rfl).trans (q_il rfl ((sm_h hF (f := i_il 2 3) rfl).trans (q_il rfl ((sm_h hF (f := i_cv 7 3 0 f_X7_across 0 0 0 0 6) rfl).trans (q_cv rfl rfl rfl (vr (ob fun _ => ob fun r1 => cT rfl (q_r0 (cg ((sm_h hF (f := i_al 0 7) rfl).trans (q_al rfl ((sm_h hF (f := i_c (.int (10)) 9) rfl).trans (q_c ((sm_h hF (f := i_c (.int (11)) 11) rfl).trans (q_c ((sm_h hF (f := i_c (.int (-1)) 12) rfl).trans (q_c ((sm_h hF (f := i_cv 7 4 0 f_X7_divide 0 0 0 0 15) rfl).trans (q_cv rfl rfl rfl (vr (ob fun _ => ob fun r2 => cT rfl (q_r0 (cg ((sm_h hF (f := i_al 0 16) rfl).trans (q_al rfl ((sm_h hF (f := i_gf 7 2 19) rfl).trans (q_gf (vr (ob fun f3 => ob fun w4 => (sm_h hF (f := i_c (.int (10)) 21) rfl).trans (q_c ((sm_h hF (f := i_ia 0 22) rfl).trans (q_ia (vi (ob fun a5 => ob fun f6 => ic (rfl) ((sm_h hF (f := i_w [(40, [0, 1, 2])] (i_z (fun x => x = 0) 40 25)) rfl).trans (q_w (q_z (vi (ic (rfl) ((sm_h hF (f := i_al 0 26) rfl).trans (q_al rfl ((sm_h hF (f := i_gf 7 3 29) rfl).trans (q_gf (vr (ob fun f7 => ob fun w8 => (sm_h hF (f := i_il 1 30) rfl).trans (q_il rfl ((sm_h hF (f := i_ia 0 31) rfl).trans (q_ia (vi (ob fun a9 => ob fun f10 => ic (rfl) ((sm_h hF (f := i_al 0 32) rfl).trans (q_al rfl ((sm_h hF (f := i_gf 7 3 35) rfl).trans (q_gf (vr (ob fun f11 => ob fun w12 => (sm_h hF (f := i_il 2 36) rfl).trans (q_il rfl ((sm_h hF (f := i_ia 0 37) rfl).trans (q_ia (vi (ob fun a13 => ob fun f14 => ic (rfl) ((sm_h hF (f := i_w [(40, [0, 1, 2])] (i_zz (fun x z => x = z) 40 50)) rfl).trans (q_w (q_zz (vi (vi (ic (rfl) ((sm_h hF (f := i_al 0 51) rfl).trans (q_al rfl ((sm_h hF (f := i_c (.int (0)) 52) rfl).trans (q_c ((sm_h hF (f := i_c (.int (11)) 54) rfl).trans (q_c ((sm_h hF (f := i_cv 7 3 0 f_X7_copy 0 0 0 0 57) rfl).trans (q_cv rfl rfl rfl (vr (ob fun _ => ob fun r15 => cT rfl (q_r0 (cg ((sm_h hF (f := i_al 0 58) rfl).trans (q_al rfl ((sm_h hF (f := i_c (.int (0)) 59) rfl).trans (q_c ((sm_h hF (f := i_c (.int (10)) 61) rfl).trans (q_c ((sm_h hF (f := i_c (.int (0)) 62) rfl).trans (q_c ((sm_h hF (f := i_w [(65, [0, 1, 2])] (i_cv 7 4 0 f_X7_lessen 0 0 0 0 65)) rfl).trans (q_w (q_cv rfl rfl rfl (vr (ob fun _ => ob fun r16 => cT rfl (q_r0 (cg (rfl) rfl))))))))))))))) rfl)))))))))))))))))))))))))))))))))))))))))))))))))))))))) rfl)))))))))))))) rfl))))))))))))
set_option maxRecDepth 20000 in
theorem e_X7_left_40 (x0 : Nat) (x1 : Int32) (x2 : Int32) (M : me_M) : sm T_X7_left (40, [(0, .ref x0), (1, .int x1), (2, .int x2)], [], M, 0, 0) = (me_obj M 7 x0).bind fun _ => (f_X7_copy [.ref x0, .int (0 : Int32), .int (10 : Int32)] M).bind fun r1 => cond r1.1.isNone (sm T_X7_left (65, [(0, .ref x0), (1, .int x1), (2, .int x2)], [], r1.2, 0, 0)) none := (by have hF := sm_fx A_X7_left; generalize sm T_X7_left = F_ at hF ⊢; exact (sm_h hF (f := i_al 0 41) rfl).trans (q_al rfl ((sm_h hF (f := i_c (.int (0)) 42) rfl).trans (q_c ((sm_h hF (f := i_c (.int (10)) 44) rfl).trans (q_c ((sm_h hF (f := i_cv 7 3 0 f_X7_copy 0 0 0 0 47) rfl).trans (q_cv rfl rfl rfl (vr (ob fun _ => ob fun r1 => cT rfl (q_r0 (cg ((sm_h hF (f := i_w [(65, [0, 1, 2])] (i_g 65)) rfl).trans (q_w (q_g (rfl)))) rfl))))))))))))
set_option maxRecDepth 20000 in
theorem e_X7_left_65 (x0 : Nat) (x1 : Int32) (x2 : Int32) (M : me_M) : sm T_X7_left (65, [(0, .ref x0), (1, .int x1), (2, .int x2)], [], M, 0, 0) = (me_obj M 7 x0).bind fun f1 => (f1[3]?).bind fun w2 => (me_obj M 7 x0).bind fun f3 => (f3[3]?).bind fun w4 => (v_ref w4).bind fun a5 => (me_int M 0 a5).bind fun f6 => if x2 < 0 ∨ f6.1 ≤ x2.toNatClampNeg then (none) else (v_ref w2).bind fun a7 => (me_int M 0 a7).bind fun f8 => if (0 : Int32) < 0 ∨ f8.1 ≤ (0 : Int32).toNatClampNeg then (none) else (me_obj (me_set M a7 (.inl (0, f8.1, .inl (upd f8.2 (0 : Int32).toNatClampNeg (f6.2 x2.toNatClampNeg))))) 7 x0).bind fun _ => (f_X7_multiply [.ref x0, .int (1 : Int32), .int (((2 : Int32) * x1) + (1 : Int32)), .int (((2 : Int32) * x2) + (1 : Int32))] (me_set M a7 (.inl (0, f8.1, .inl (upd f8.2 (0 : Int32).toNatClampNeg (f6.2 x2.toNatClampNeg)))))).bind fun r9 => cond r9.1.isNone ((me_obj r9.2 7 x0).bind fun _ => (f_X7_least [.ref x0, .int (0 : Int32)] r9.2).bind fun r10 => r10.1.bind fun v11 => (v_int v11).bind fun y12 => if y12 = 0 ∨ y12 = 1 then (if 0 ≤ 0 ∧ 0 ≤ 0 then some (some (.int y12), r10.2) else none) else none) none := (by have hF := sm_fx A_X7_left; generalize sm T_X7_left = F_ at hF ⊢; exact (sm_h hF (f := i_al 0 66) rfl).trans (q_al rfl ((sm_h hF (f := i_gf 7 3 69) rfl).trans (q_gf (vr (ob fun f1 => ob fun w2 => (sm_h hF (f := i_c (.int (0)) 70) rfl).trans (q_c ((sm_h hF (f := i_al 0 71) rfl).trans (q_al rfl ((sm_h hF (f := i_gf 7 3 74) rfl).trans (q_gf (vr (ob fun f3 => ob fun w4 => (sm_h hF (f := i_il 2 75) rfl).trans (q_il rfl ((sm_h hF (f := i_ia 0 76) rfl).trans (q_ia (vi (ob fun a5 => ob fun f6 => ic (rfl) ((sm_h hF (f := i_ist 77) rfl).trans (q_ist (vi (vi (ob fun a7 => ob fun f8 => ic (rfl) ((sm_h hF (f := i_al 0 78) rfl).trans (q_al rfl ((sm_h hF (f := i_c (.int (1)) 79) rfl).trans (q_c ((sm_h hF (f := i_c (.int (2)) 80) rfl).trans (q_c ((sm_h hF (f := i_il 1 81) rfl).trans (q_il rfl ((sm_h hF (f := i_bi (fun x z => x * z) 82) rfl).trans (q_bi (vi (vi ((sm_h hF (f := i_c (.int (1)) 83) rfl).trans (q_c ((sm_h hF (f := i_bi (fun x z => x + z) 84) rfl).trans (q_bi (vi (vi ((sm_h hF (f := i_c (.int (2)) 85) rfl).trans (q_c ((sm_h hF (f := i_il 2 86) rfl).trans (q_il rfl ((sm_h hF (f := i_bi (fun x z => x * z) 87) rfl).trans (q_bi (vi (vi ((sm_h hF (f := i_c (.int (1)) 88) rfl).trans (q_c ((sm_h hF (f := i_bi (fun x z => x + z) 89) rfl).trans (q_bi (vi (vi ((sm_h hF (f := i_cv 7 4 0 f_X7_multiply 0 0 0 0 92) rfl).trans (q_cv rfl rfl rfl (vr (ob fun _ => ob fun r9 => cT rfl (q_r0 (cg ((sm_h hF (f := i_al 0 93) rfl).trans (q_al rfl ((sm_h hF (f := i_c (.int (0)) 94) rfl).trans (q_c ((sm_h hF (f := i_cv 7 2 1 f_X7_least 0 0 0 0 97) rfl).trans (q_cv rfl rfl rfl (vr (ob fun _ => ob fun r10 => cT rfl (q_r1 (ob fun v11 => ob fun y12 => (sm_h hF (f := i_rz 0 0) rfl).trans (q_rz (vi (rfl))))))))))))) rfl)))))))))))))))))))))))))))))))))))))))))))))))))))))))))))))
/-! X7_common -/
abbrev rm_X7_common : Room := { frames := 6, cells := 0, slots := 0, locals := 149 }
noncomputable def T_X7_common : sm_T := [(0, i_al 0 1), (1, i_il 1 2), (2, i_il 2 3), (3, i_cv 7 3 0 f_X7_across 0 0 0 0 6), (6, i_al 0 7), (7, i_c (.int (0)) 8), (8, i_c (.int (10)) 10), (10, i_c (.int (11)) 12), (12, i_cv 7 4 0 f_X7_divisor 0 0 0 0 15), (15, i_al 0 16), (16, i_gf 7 3 19), (19, i_c (.int (0)) 20), (20, i_c (.int (1)) 21), (21, i_ist 22), (22, i_al 0 23), (23, i_c (.int (1)) 24), (24, i_c (.int (2)) 25), (25, i_il 1 26), (26, i_bi (fun x z => x * z) 27), (27, i_c (.int (1)) 28), (28, i_bi (fun x z => x + z) 29), (29, i_c (.int (2)) 30), (30, i_il 2 31), (31, i_bi (fun x z => x * z) 32), (32, i_c (.int (1)) 33), (33, i_bi (fun x z => x + z) 34), (34, i_w [(37, [0])] (i_cv 7 4 0 f_X7_multiply 0 0 0 0 37)), (37, i_al 0 38), (38, i_c (.int (0)) 39), (39, i_cv 7 2 1 f_X7_least 0 0 0 0 42), (42, i_rz 0 0)]
set_option maxRecDepth 20000 in
theorem A_X7_common : sd_A yX7_common cX7_common 3 (some .boolean) rm_X7_common T_X7_common := by
  refine sd_c (pc := 0) (f := i_al 0 1) (s_aln (i := 0) dX7_common_0) ?_
  refine sd_c (pc := 1) (f := i_il 1 2) (s_iln (i := 1) dX7_common_1) ?_
  refine sd_c (pc := 2) (f := i_il 2 3) (s_iln (i := 2) dX7_common_2) ?_
  refine sd_c (pc := 3) (f := i_cv 7 3 0 f_X7_across 0 0 0 0 6) (s_cv (np := 2) (rk := 0) (ci := 7) (rmz := rm_X7_across) dX7_common_3 V_X7_across w920 w922 wS_PlanFractionsModel_across__II_V rfl (by decide)) ?_
  refine sd_c (pc := 6) (f := i_al 0 7) (s_aln (i := 0) dX7_common_6) ?_
  refine sd_c (pc := 7) (f := i_c (.int (0)) 8) (s_iconst dX7_common_7 (by decide)) ?_
  refine sd_c (pc := 8) (f := i_c (.int (10)) 10) (s_bipush dX7_common_8 (by decide)) ?_
  refine sd_c (pc := 10) (f := i_c (.int (11)) 12) (s_bipush dX7_common_10 (by decide)) ?_
  refine sd_c (pc := 12) (f := i_cv 7 4 0 f_X7_divisor 0 0 0 0 15) (s_cv (np := 3) (rk := 0) (ci := 7) (rmz := rm_X7_divisor) dX7_common_12 V_X7_divisor w843 w845 wS_PlanFractionsModel_divisor__III_V rfl (by decide)) ?_
  refine sd_c (pc := 15) (f := i_al 0 16) (s_aln (i := 0) dX7_common_15) ?_
  refine sd_c (pc := 16) (f := i_gf 7 3 19) (s_gf (ci := 7) (k := 3) dX7_common_16 rfl in_X7 (by decide) w781) ?_
  refine sd_c (pc := 19) (f := i_c (.int (0)) 20) (s_iconst dX7_common_19 (by decide)) ?_
  refine sd_c (pc := 20) (f := i_c (.int (1)) 21) (s_iconst dX7_common_20 (by decide)) ?_
  refine sd_c (pc := 21) (f := i_ist 22) (s_ist dX7_common_21) ?_
  refine sd_c (pc := 22) (f := i_al 0 23) (s_aln (i := 0) dX7_common_22) ?_
  refine sd_c (pc := 23) (f := i_c (.int (1)) 24) (s_iconst dX7_common_23 (by decide)) ?_
  refine sd_c (pc := 24) (f := i_c (.int (2)) 25) (s_iconst dX7_common_24 (by decide)) ?_
  refine sd_c (pc := 25) (f := i_il 1 26) (s_iln (i := 1) dX7_common_25) ?_
  refine sd_c (pc := 26) (f := i_bi (fun x z => x * z) 27) (s_imul dX7_common_26) ?_
  refine sd_c (pc := 27) (f := i_c (.int (1)) 28) (s_iconst dX7_common_27 (by decide)) ?_
  refine sd_c (pc := 28) (f := i_bi (fun x z => x + z) 29) (s_iadd dX7_common_28) ?_
  refine sd_c (pc := 29) (f := i_c (.int (2)) 30) (s_iconst dX7_common_29 (by decide)) ?_
  refine sd_c (pc := 30) (f := i_il 2 31) (s_iln (i := 2) dX7_common_30) ?_
  refine sd_c (pc := 31) (f := i_bi (fun x z => x * z) 32) (s_imul dX7_common_31) ?_
  refine sd_c (pc := 32) (f := i_c (.int (1)) 33) (s_iconst dX7_common_32 (by decide)) ?_
  refine sd_c (pc := 33) (f := i_bi (fun x z => x + z) 34) (s_iadd dX7_common_33) ?_
  refine sd_c (pc := 34) (f := i_w [(37, [0])] (i_cv 7 4 0 f_X7_multiply 0 0 0 0 37)) (s_w (s_cv (np := 3) (rk := 0) (ci := 7) (rmz := rm_X7_multiply) dX7_common_34 V_X7_multiply w924 w926 wS_PlanFractionsModel_multiply__III_V rfl (by decide))) ?_
  refine sd_c (pc := 37) (f := i_al 0 38) (s_aln (i := 0) dX7_common_37) ?_
  refine sd_c (pc := 38) (f := i_c (.int (0)) 39) (s_iconst dX7_common_38 (by decide)) ?_
  refine sd_c (pc := 39) (f := i_cv 7 2 1 f_X7_least 0 0 0 0 42) (s_cv (np := 1) (rk := 1) (ci := 7) (rmz := rm_X7_least) dX7_common_39 V_X7_least w839 w841 wS_PlanFractionsModel_least__I_Z rfl (by decide)) ?_
  refine sd_c (pc := 42) (f := i_rz 0 0) (s_rz dX7_common_42 rfl) ?_
  exact sd_n
noncomputable def f_X7_common : List Value → me_M → Option sm_R := sd_f 3 T_X7_common
theorem V_X7_common : sd_V yX7_common cX7_common 3 (some .boolean) rm_X7_common 2 f_X7_common := ⟨sd_met A_X7_common (by decide +kernel), w947, w8, by decide +kernel⟩
set_option maxRecDepth 20000 in
theorem e_X7_common (x0 : Nat) (x1 : Int32) (x2 : Int32) (M : me_M) : f_X7_common [.ref x0, .int x1, .int x2] M = (me_obj M 7 x0).bind fun _ => (f_X7_across [.ref x0, .int x1, .int x2] M).bind fun r1 => cond r1.1.isNone ((me_obj r1.2 7 x0).bind fun _ => (f_X7_divisor [.ref x0, .int (0 : Int32), .int (10 : Int32), .int (11 : Int32)] r1.2).bind fun r2 => cond r2.1.isNone ((me_obj r2.2 7 x0).bind fun f3 => (f3[3]?).bind fun w4 => (v_ref w4).bind fun a5 => (me_int r2.2 0 a5).bind fun f6 => if (0 : Int32) < 0 ∨ f6.1 ≤ (0 : Int32).toNatClampNeg then (none) else (me_obj (me_set r2.2 a5 (.inl (0, f6.1, .inl (upd f6.2 (0 : Int32).toNatClampNeg (1 : Int32))))) 7 x0).bind fun _ => (f_X7_multiply [.ref x0, .int (1 : Int32), .int (((2 : Int32) * x1) + (1 : Int32)), .int (((2 : Int32) * x2) + (1 : Int32))] (me_set r2.2 a5 (.inl (0, f6.1, .inl (upd f6.2 (0 : Int32).toNatClampNeg (1 : Int32)))))).bind fun r7 => cond r7.1.isNone (sm T_X7_common (37, [(0, .ref x0)], [], r7.2, 0, 0)) none) none) none := (show f_X7_common [.ref x0, .int x1, .int x2] M = sm T_X7_common (0, [(0, .ref x0), (1, .int x1), (2, .int x2)], [], M, 0, 0) from rfl).trans (by have hF := sm_fx A_X7_common; generalize sm T_X7_common = F_ at hF ⊢; exact (sm_h hF (f := i_al 0 1) rfl).trans (q_al rfl ((sm_h hF (f := i_il 1 2) rfl).trans (q_il rfl ((sm_h hF (f := i_il 2 3) rfl).trans (q_il rfl ((sm_h hF (f := i_cv 7 3 0 f_X7_across 0 0 0 0 6) rfl).trans (q_cv rfl rfl rfl (vr (ob fun _ => ob fun r1 => cT rfl (q_r0 (cg ((sm_h hF (f := i_al 0 7) rfl).trans (q_al rfl ((sm_h hF (f := i_c (.int (0)) 8) rfl).trans (q_c ((sm_h hF (f := i_c (.int (10)) 10) rfl).trans (q_c ((sm_h hF (f := i_c (.int (11)) 12) rfl).trans (q_c ((sm_h hF (f := i_cv 7 4 0 f_X7_divisor 0 0 0 0 15) rfl).trans (q_cv rfl rfl rfl (vr (ob fun _ => ob fun r2 => cT rfl (q_r0 (cg ((sm_h hF (f := i_al 0 16) rfl).trans (q_al rfl ((sm_h hF (f := i_gf 7 3 19) rfl).trans (q_gf (vr (ob fun f3 => ob fun w4 => (sm_h hF (f := i_c (.int (0)) 20) rfl).trans (q_c ((sm_h hF (f := i_c (.int (1)) 21) rfl).trans (q_c ((sm_h hF (f := i_ist 22) rfl).trans (q_ist (vi (vi (ob fun a5 => ob fun f6 => ic (rfl) ((sm_h hF (f := i_al 0 23) rfl).trans (q_al rfl ((sm_h hF (f := i_c (.int (1)) 24) rfl).trans (q_c ((sm_h hF (f := i_c (.int (2)) 25) rfl).trans (q_c ((sm_h hF (f := i_il 1 26) rfl).trans (q_il rfl ((sm_h hF (f := i_bi (fun x z => x * z) 27) rfl).trans (q_bi (vi (vi ((sm_h hF (f := i_c (.int (1)) 28) rfl).trans (q_c ((sm_h hF (f := i_bi (fun x z => x + z) 29) rfl).trans (q_bi (vi (vi ((sm_h hF (f := i_c (.int (2)) 30) rfl).trans (q_c ((sm_h hF (f := i_il 2 31) rfl).trans (q_il rfl ((sm_h hF (f := i_bi (fun x z => x * z) 32) rfl).trans (q_bi (vi (vi ((sm_h hF (f := i_c (.int (1)) 33) rfl).trans (q_c ((sm_h hF (f := i_bi (fun x z => x + z) 34) rfl).trans (q_bi (vi (vi ((sm_h hF (f := i_w [(37, [0])] (i_cv 7 4 0 f_X7_multiply 0 0 0 0 37)) rfl).trans (q_w (q_cv rfl rfl rfl (vr (ob fun _ => ob fun r7 => cT rfl (q_r0 (cg (rfl) rfl))))))))))))))))))))))))))))))))))))))))))))))))))))) rfl)))))))))))))) rfl))))))))))))
set_option maxRecDepth 20000 in
theorem e_X7_common_37 (x0 : Nat) (M : me_M) : sm T_X7_common (37, [(0, .ref x0)], [], M, 0, 0) = (me_obj M 7 x0).bind fun _ => (f_X7_least [.ref x0, .int (0 : Int32)] M).bind fun r1 => r1.1.bind fun v2 => (v_int v2).bind fun y3 => if y3 = 0 ∨ y3 = 1 then (if 0 ≤ 0 ∧ 0 ≤ 0 then some (some (.int y3), r1.2) else none) else none := (by have hF := sm_fx A_X7_common; generalize sm T_X7_common = F_ at hF ⊢; exact (sm_h hF (f := i_al 0 38) rfl).trans (q_al rfl ((sm_h hF (f := i_c (.int (0)) 39) rfl).trans (q_c ((sm_h hF (f := i_cv 7 2 1 f_X7_least 0 0 0 0 42) rfl).trans (q_cv rfl rfl rfl (vr (ob fun _ => ob fun r1 => cT rfl (q_r1 (ob fun v2 => ob fun y3 => (sm_h hF (f := i_rz 0 0) rfl).trans (q_rz (vi (rfl)))))))))))))
/-! X7_move -/
abbrev rm_X7_move : Room := { frames := 1, cells := 0, slots := 0, locals := 23 }
noncomputable def T_X7_move : sm_T := [(0, i_al 0 1), (1, i_c (.int (2)) 2), (2, i_il 1 3), (3, i_bi (fun x z => x * z) 4), (4, i_c (.int (2)) 5), (5, i_il 2 6), (6, i_bi (fun x z => x * z) 7), (7, i_cv 7 3 0 f_X7_copy 0 0 0 0 10), (10, i_al 0 11), (11, i_c (.int (2)) 12), (12, i_il 1 13), (13, i_bi (fun x z => x * z) 14), (14, i_c (.int (1)) 15), (15, i_bi (fun x z => x + z) 16), (16, i_c (.int (2)) 17), (17, i_il 2 18), (18, i_bi (fun x z => x * z) 19), (19, i_c (.int (1)) 20), (20, i_bi (fun x z => x + z) 21), (21, i_cv 7 3 0 f_X7_copy 0 0 0 0 24), (24, i_al 0 25), (25, i_gf 7 3 28), (28, i_il 1 29), (29, i_al 0 30), (30, i_gf 7 3 33), (33, i_il 2 34), (34, i_ia 0 35), (35, i_ist 36), (36, i_rv 0 0)]
set_option maxRecDepth 20000 in
theorem A_X7_move : sd_A yX7_move cX7_move 3 none rm_X7_move T_X7_move := by
  refine sd_c (pc := 0) (f := i_al 0 1) (s_aln (i := 0) dX7_move_0) ?_
  refine sd_c (pc := 1) (f := i_c (.int (2)) 2) (s_iconst dX7_move_1 (by decide)) ?_
  refine sd_c (pc := 2) (f := i_il 1 3) (s_iln (i := 1) dX7_move_2) ?_
  refine sd_c (pc := 3) (f := i_bi (fun x z => x * z) 4) (s_imul dX7_move_3) ?_
  refine sd_c (pc := 4) (f := i_c (.int (2)) 5) (s_iconst dX7_move_4 (by decide)) ?_
  refine sd_c (pc := 5) (f := i_il 2 6) (s_iln (i := 2) dX7_move_5) ?_
  refine sd_c (pc := 6) (f := i_bi (fun x z => x * z) 7) (s_imul dX7_move_6) ?_
  refine sd_c (pc := 7) (f := i_cv 7 3 0 f_X7_copy 0 0 0 0 10) (s_cv (np := 2) (rk := 0) (ci := 7) (rmz := rm_X7_copy) dX7_move_7 V_X7_copy w847 w849 wS_PlanFractionsModel_copy__II_V rfl (by decide)) ?_
  refine sd_c (pc := 10) (f := i_al 0 11) (s_aln (i := 0) dX7_move_10) ?_
  refine sd_c (pc := 11) (f := i_c (.int (2)) 12) (s_iconst dX7_move_11 (by decide)) ?_
  refine sd_c (pc := 12) (f := i_il 1 13) (s_iln (i := 1) dX7_move_12) ?_
  refine sd_c (pc := 13) (f := i_bi (fun x z => x * z) 14) (s_imul dX7_move_13) ?_
  refine sd_c (pc := 14) (f := i_c (.int (1)) 15) (s_iconst dX7_move_14 (by decide)) ?_
  refine sd_c (pc := 15) (f := i_bi (fun x z => x + z) 16) (s_iadd dX7_move_15) ?_
  refine sd_c (pc := 16) (f := i_c (.int (2)) 17) (s_iconst dX7_move_16 (by decide)) ?_
  refine sd_c (pc := 17) (f := i_il 2 18) (s_iln (i := 2) dX7_move_17) ?_
  refine sd_c (pc := 18) (f := i_bi (fun x z => x * z) 19) (s_imul dX7_move_18) ?_
  refine sd_c (pc := 19) (f := i_c (.int (1)) 20) (s_iconst dX7_move_19 (by decide)) ?_
  refine sd_c (pc := 20) (f := i_bi (fun x z => x + z) 21) (s_iadd dX7_move_20) ?_
  refine sd_c (pc := 21) (f := i_cv 7 3 0 f_X7_copy 0 0 0 0 24) (s_cv (np := 2) (rk := 0) (ci := 7) (rmz := rm_X7_copy) dX7_move_21 V_X7_copy w847 w849 wS_PlanFractionsModel_copy__II_V rfl (by decide)) ?_
  refine sd_c (pc := 24) (f := i_al 0 25) (s_aln (i := 0) dX7_move_24) ?_
  refine sd_c (pc := 25) (f := i_gf 7 3 28) (s_gf (ci := 7) (k := 3) dX7_move_25 rfl in_X7 (by decide) w781) ?_
  refine sd_c (pc := 28) (f := i_il 1 29) (s_iln (i := 1) dX7_move_28) ?_
  refine sd_c (pc := 29) (f := i_al 0 30) (s_aln (i := 0) dX7_move_29) ?_
  refine sd_c (pc := 30) (f := i_gf 7 3 33) (s_gf (ci := 7) (k := 3) dX7_move_30 rfl in_X7 (by decide) w781) ?_
  refine sd_c (pc := 33) (f := i_il 2 34) (s_iln (i := 2) dX7_move_33) ?_
  refine sd_c (pc := 34) (f := i_ia 0 35) (s_iald dX7_move_34) ?_
  refine sd_c (pc := 35) (f := i_ist 36) (s_ist dX7_move_35) ?_
  refine sd_c (pc := 36) (f := i_rv 0 0) (s_rv dX7_move_36 rfl) ?_
  exact sd_n
noncomputable def f_X7_move : List Value → me_M → Option sm_R := sd_f 3 T_X7_move
theorem V_X7_move : sd_V yX7_move cX7_move 3 none rm_X7_move 2 f_X7_move := ⟨sd_met A_X7_move (by decide +kernel), w1052, w8, by decide +kernel⟩
set_option maxRecDepth 20000 in
theorem e_X7_move (x0 : Nat) (x1 : Int32) (x2 : Int32) (M : me_M) : f_X7_move [.ref x0, .int x1, .int x2] M = (me_obj M 7 x0).bind fun _ => (f_X7_copy [.ref x0, .int ((2 : Int32) * x1), .int ((2 : Int32) * x2)] M).bind fun r1 => cond r1.1.isNone ((me_obj r1.2 7 x0).bind fun _ => (f_X7_copy [.ref x0, .int (((2 : Int32) * x1) + (1 : Int32)), .int (((2 : Int32) * x2) + (1 : Int32))] r1.2).bind fun r2 => cond r2.1.isNone ((me_obj r2.2 7 x0).bind fun f3 => (f3[3]?).bind fun w4 => (me_obj r2.2 7 x0).bind fun f5 => (f5[3]?).bind fun w6 => (v_ref w6).bind fun a7 => (me_int r2.2 0 a7).bind fun f8 => if x2 < 0 ∨ f8.1 ≤ x2.toNatClampNeg then (none) else (v_ref w4).bind fun a9 => (me_int r2.2 0 a9).bind fun f10 => if x1 < 0 ∨ f10.1 ≤ x1.toNatClampNeg then (none) else if 0 ≤ 0 ∧ 0 ≤ 0 then some (none, (me_set r2.2 a9 (.inl (0, f10.1, .inl (upd f10.2 x1.toNatClampNeg (f8.2 x2.toNatClampNeg)))))) else none) none) none := (show f_X7_move [.ref x0, .int x1, .int x2] M = sm T_X7_move (0, [(0, .ref x0), (1, .int x1), (2, .int x2)], [], M, 0, 0) from rfl).trans (by have hF := sm_fx A_X7_move; generalize sm T_X7_move = F_ at hF ⊢; exact (sm_h hF (f := i_al 0 1) rfl).trans (q_al rfl ((sm_h hF (f := i_c (.int (2)) 2) rfl).trans (q_c ((sm_h hF (f := i_il 1 3) rfl).trans (q_il rfl ((sm_h hF (f := i_bi (fun x z => x * z) 4) rfl).trans (q_bi (vi (vi ((sm_h hF (f := i_c (.int (2)) 5) rfl).trans (q_c ((sm_h hF (f := i_il 2 6) rfl).trans (q_il rfl ((sm_h hF (f := i_bi (fun x z => x * z) 7) rfl).trans (q_bi (vi (vi ((sm_h hF (f := i_cv 7 3 0 f_X7_copy 0 0 0 0 10) rfl).trans (q_cv rfl rfl rfl (vr (ob fun _ => ob fun r1 => cT rfl (q_r0 (cg ((sm_h hF (f := i_al 0 11) rfl).trans (q_al rfl ((sm_h hF (f := i_c (.int (2)) 12) rfl).trans (q_c ((sm_h hF (f := i_il 1 13) rfl).trans (q_il rfl ((sm_h hF (f := i_bi (fun x z => x * z) 14) rfl).trans (q_bi (vi (vi ((sm_h hF (f := i_c (.int (1)) 15) rfl).trans (q_c ((sm_h hF (f := i_bi (fun x z => x + z) 16) rfl).trans (q_bi (vi (vi ((sm_h hF (f := i_c (.int (2)) 17) rfl).trans (q_c ((sm_h hF (f := i_il 2 18) rfl).trans (q_il rfl ((sm_h hF (f := i_bi (fun x z => x * z) 19) rfl).trans (q_bi (vi (vi ((sm_h hF (f := i_c (.int (1)) 20) rfl).trans (q_c ((sm_h hF (f := i_bi (fun x z => x + z) 21) rfl).trans (q_bi (vi (vi ((sm_h hF (f := i_cv 7 3 0 f_X7_copy 0 0 0 0 24) rfl).trans (q_cv rfl rfl rfl (vr (ob fun _ => ob fun r2 => cT rfl (q_r0 (cg ((sm_h hF (f := i_al 0 25) rfl).trans (q_al rfl ((sm_h hF (f := i_gf 7 3 28) rfl).trans (q_gf (vr (ob fun f3 => ob fun w4 => (sm_h hF (f := i_il 1 29) rfl).trans (q_il rfl ((sm_h hF (f := i_al 0 30) rfl).trans (q_al rfl ((sm_h hF (f := i_gf 7 3 33) rfl).trans (q_gf (vr (ob fun f5 => ob fun w6 => (sm_h hF (f := i_il 2 34) rfl).trans (q_il rfl ((sm_h hF (f := i_ia 0 35) rfl).trans (q_ia (vi (ob fun a7 => ob fun f8 => ic (rfl) ((sm_h hF (f := i_ist 36) rfl).trans (q_ist (vi (vi (ob fun a9 => ob fun f10 => ic (rfl) ((sm_h hF (f := i_rv 0 0) rfl).trans (q_rv (rfl)))))))))))))))))))))))))) rfl)))))))))))))))))))))))))))))))))))) rfl))))))))))))))))))))))))
/-! X7_load -/
abbrev rm_X7_load : Room := { frames := 0, cells := 0, slots := 0, locals := 0 }
noncomputable def T_X7_load : sm_T := [(0, i_al 0 1), (1, i_gf 7 2 4), (4, i_c (.int (2)) 5), (5, i_il 1 6), (6, i_bi (fun x z => x * z) 7), (7, i_al 0 8), (8, i_gf 7 6 11), (11, i_il 2 12), (12, i_ia 0 13), (13, i_ist 14), (14, i_c (.int (0)) 15), (15, i_w [(16, [0, 1, 2, 3])] (i_is 3 16)), (16, i_il 3 17), (17, i_al 0 18), (18, i_gf 7 6 21), (21, i_il 2 22), (22, i_ia 0 23), (23, i_zz (fun x z => z ≤ x) 57 26), (26, i_al 0 27), (27, i_gf 7 1 30), (30, i_c (.int (160)) 33), (33, i_c (.int (2)) 34), (34, i_il 1 35), (35, i_bi (fun x z => x * z) 36), (36, i_bi (fun x z => x * z) 37), (37, i_il 3 38), (38, i_bi (fun x z => x + z) 39), (39, i_al 0 40), (40, i_gf 7 5 43), (43, i_c (.int (32)) 45), (45, i_il 2 46), (46, i_bi (fun x z => x * z) 47), (47, i_il 3 48), (48, i_bi (fun x z => x + z) 49), (49, i_ia 0 50), (50, i_ist 51), (51, i_inc 3 (1) 54), (54, i_w [(16, [0, 1, 2, 3])] (i_g 16)), (57, i_al 0 58), (58, i_gf 7 2 61), (61, i_c (.int (2)) 62), (62, i_il 1 63), (63, i_bi (fun x z => x * z) 64), (64, i_c (.int (1)) 65), (65, i_bi (fun x z => x + z) 66), (66, i_al 0 67), (67, i_gf 7 8 70), (70, i_il 2 71), (71, i_ia 0 72), (72, i_ist 73), (73, i_c (.int (0)) 74), (74, i_w [(75, [0, 1, 2, 3])] (i_is 3 75)), (75, i_il 3 76), (76, i_al 0 77), (77, i_gf 7 8 80), (80, i_il 2 81), (81, i_ia 0 82), (82, i_zz (fun x z => z ≤ x) 118 85), (85, i_al 0 86), (86, i_gf 7 1 89), (89, i_c (.int (160)) 92), (92, i_c (.int (2)) 93), (93, i_il 1 94), (94, i_bi (fun x z => x * z) 95), (95, i_c (.int (1)) 96), (96, i_bi (fun x z => x + z) 97), (97, i_bi (fun x z => x * z) 98), (98, i_il 3 99), (99, i_bi (fun x z => x + z) 100), (100, i_al 0 101), (101, i_gf 7 7 104), (104, i_c (.int (32)) 106), (106, i_il 2 107), (107, i_bi (fun x z => x * z) 108), (108, i_il 3 109), (109, i_bi (fun x z => x + z) 110), (110, i_ia 0 111), (111, i_ist 112), (112, i_inc 3 (1) 115), (115, i_w [(75, [0, 1, 2, 3])] (i_g 75)), (118, i_al 0 119), (119, i_gf 7 3 122), (122, i_il 1 123), (123, i_al 0 124), (124, i_gf 7 4 127), (127, i_il 2 128), (128, i_ia 0 129), (129, i_ist 130), (130, i_rv 0 0)]
set_option maxRecDepth 20000 in
theorem A_X7_load : sd_A yX7_load cX7_load 4 none rm_X7_load T_X7_load := by
  refine sd_c (pc := 0) (f := i_al 0 1) (s_aln (i := 0) dX7_load_0) ?_
  refine sd_c (pc := 1) (f := i_gf 7 2 4) (s_gf (ci := 7) (k := 2) dX7_load_1 rfl in_X7 (by decide) w780) ?_
  refine sd_c (pc := 4) (f := i_c (.int (2)) 5) (s_iconst dX7_load_4 (by decide)) ?_
  refine sd_c (pc := 5) (f := i_il 1 6) (s_iln (i := 1) dX7_load_5) ?_
  refine sd_c (pc := 6) (f := i_bi (fun x z => x * z) 7) (s_imul dX7_load_6) ?_
  refine sd_c (pc := 7) (f := i_al 0 8) (s_aln (i := 0) dX7_load_7) ?_
  refine sd_c (pc := 8) (f := i_gf 7 6 11) (s_gf (ci := 7) (k := 6) dX7_load_8 rfl in_X7 (by decide) w784) ?_
  refine sd_c (pc := 11) (f := i_il 2 12) (s_iln (i := 2) dX7_load_11) ?_
  refine sd_c (pc := 12) (f := i_ia 0 13) (s_iald dX7_load_12) ?_
  refine sd_c (pc := 13) (f := i_ist 14) (s_ist dX7_load_13) ?_
  refine sd_c (pc := 14) (f := i_c (.int (0)) 15) (s_iconst dX7_load_14 (by decide)) ?_
  refine sd_c (pc := 15) (f := i_w [(16, [0, 1, 2, 3])] (i_is 3 16)) (s_w (s_isn (i := 3) dX7_load_15 (by decide))) ?_
  refine sd_c (pc := 16) (f := i_il 3 17) (s_iln (i := 3) dX7_load_16) ?_
  refine sd_c (pc := 17) (f := i_al 0 18) (s_aln (i := 0) dX7_load_17) ?_
  refine sd_c (pc := 18) (f := i_gf 7 6 21) (s_gf (ci := 7) (k := 6) dX7_load_18 rfl in_X7 (by decide) w784) ?_
  refine sd_c (pc := 21) (f := i_il 2 22) (s_iln (i := 2) dX7_load_21) ?_
  refine sd_c (pc := 22) (f := i_ia 0 23) (s_iald dX7_load_22) ?_
  refine sd_c (pc := 23) (f := i_zz (fun x z => z ≤ x) 57 26) (s_ic_ge (tgt := 57) dX7_load_23 (by decide)) ?_
  refine sd_c (pc := 26) (f := i_al 0 27) (s_aln (i := 0) dX7_load_26) ?_
  refine sd_c (pc := 27) (f := i_gf 7 1 30) (s_gf (ci := 7) (k := 1) dX7_load_27 rfl in_X7 (by decide) w779) ?_
  refine sd_c (pc := 30) (f := i_c (.int (160)) 33) (s_sipush dX7_load_30 (by decide)) ?_
  refine sd_c (pc := 33) (f := i_c (.int (2)) 34) (s_iconst dX7_load_33 (by decide)) ?_
  refine sd_c (pc := 34) (f := i_il 1 35) (s_iln (i := 1) dX7_load_34) ?_
  refine sd_c (pc := 35) (f := i_bi (fun x z => x * z) 36) (s_imul dX7_load_35) ?_
  refine sd_c (pc := 36) (f := i_bi (fun x z => x * z) 37) (s_imul dX7_load_36) ?_
  refine sd_c (pc := 37) (f := i_il 3 38) (s_iln (i := 3) dX7_load_37) ?_
  refine sd_c (pc := 38) (f := i_bi (fun x z => x + z) 39) (s_iadd dX7_load_38) ?_
  refine sd_c (pc := 39) (f := i_al 0 40) (s_aln (i := 0) dX7_load_39) ?_
  refine sd_c (pc := 40) (f := i_gf 7 5 43) (s_gf (ci := 7) (k := 5) dX7_load_40 rfl in_X7 (by decide) w783) ?_
  refine sd_c (pc := 43) (f := i_c (.int (32)) 45) (s_bipush dX7_load_43 (by decide)) ?_
  refine sd_c (pc := 45) (f := i_il 2 46) (s_iln (i := 2) dX7_load_45) ?_
  refine sd_c (pc := 46) (f := i_bi (fun x z => x * z) 47) (s_imul dX7_load_46) ?_
  refine sd_c (pc := 47) (f := i_il 3 48) (s_iln (i := 3) dX7_load_47) ?_
  refine sd_c (pc := 48) (f := i_bi (fun x z => x + z) 49) (s_iadd dX7_load_48) ?_
  refine sd_c (pc := 49) (f := i_ia 0 50) (s_iald dX7_load_49) ?_
  refine sd_c (pc := 50) (f := i_ist 51) (s_ist dX7_load_50) ?_
  refine sd_c (pc := 51) (f := i_inc 3 (1) 54) (s_inc dX7_load_51 (by decide) (by decide)) ?_
  refine sd_c (pc := 54) (f := i_w [(16, [0, 1, 2, 3])] (i_g 16)) (s_w (s_goto (tgt := 16) dX7_load_54 (by decide))) ?_
  refine sd_c (pc := 57) (f := i_al 0 58) (s_aln (i := 0) dX7_load_57) ?_
  refine sd_c (pc := 58) (f := i_gf 7 2 61) (s_gf (ci := 7) (k := 2) dX7_load_58 rfl in_X7 (by decide) w780) ?_
  refine sd_c (pc := 61) (f := i_c (.int (2)) 62) (s_iconst dX7_load_61 (by decide)) ?_
  refine sd_c (pc := 62) (f := i_il 1 63) (s_iln (i := 1) dX7_load_62) ?_
  refine sd_c (pc := 63) (f := i_bi (fun x z => x * z) 64) (s_imul dX7_load_63) ?_
  refine sd_c (pc := 64) (f := i_c (.int (1)) 65) (s_iconst dX7_load_64 (by decide)) ?_
  refine sd_c (pc := 65) (f := i_bi (fun x z => x + z) 66) (s_iadd dX7_load_65) ?_
  refine sd_c (pc := 66) (f := i_al 0 67) (s_aln (i := 0) dX7_load_66) ?_
  refine sd_c (pc := 67) (f := i_gf 7 8 70) (s_gf (ci := 7) (k := 8) dX7_load_67 rfl in_X7 (by decide) w786) ?_
  refine sd_c (pc := 70) (f := i_il 2 71) (s_iln (i := 2) dX7_load_70) ?_
  refine sd_c (pc := 71) (f := i_ia 0 72) (s_iald dX7_load_71) ?_
  refine sd_c (pc := 72) (f := i_ist 73) (s_ist dX7_load_72) ?_
  refine sd_c (pc := 73) (f := i_c (.int (0)) 74) (s_iconst dX7_load_73 (by decide)) ?_
  refine sd_c (pc := 74) (f := i_w [(75, [0, 1, 2, 3])] (i_is 3 75)) (s_w (s_isn (i := 3) dX7_load_74 (by decide))) ?_
  refine sd_c (pc := 75) (f := i_il 3 76) (s_iln (i := 3) dX7_load_75) ?_
  refine sd_c (pc := 76) (f := i_al 0 77) (s_aln (i := 0) dX7_load_76) ?_
  refine sd_c (pc := 77) (f := i_gf 7 8 80) (s_gf (ci := 7) (k := 8) dX7_load_77 rfl in_X7 (by decide) w786) ?_
  refine sd_c (pc := 80) (f := i_il 2 81) (s_iln (i := 2) dX7_load_80) ?_
  refine sd_c (pc := 81) (f := i_ia 0 82) (s_iald dX7_load_81) ?_
  refine sd_c (pc := 82) (f := i_zz (fun x z => z ≤ x) 118 85) (s_ic_ge (tgt := 118) dX7_load_82 (by decide)) ?_
  refine sd_c (pc := 85) (f := i_al 0 86) (s_aln (i := 0) dX7_load_85) ?_
  refine sd_c (pc := 86) (f := i_gf 7 1 89) (s_gf (ci := 7) (k := 1) dX7_load_86 rfl in_X7 (by decide) w779) ?_
  refine sd_c (pc := 89) (f := i_c (.int (160)) 92) (s_sipush dX7_load_89 (by decide)) ?_
  refine sd_c (pc := 92) (f := i_c (.int (2)) 93) (s_iconst dX7_load_92 (by decide)) ?_
  refine sd_c (pc := 93) (f := i_il 1 94) (s_iln (i := 1) dX7_load_93) ?_
  refine sd_c (pc := 94) (f := i_bi (fun x z => x * z) 95) (s_imul dX7_load_94) ?_
  refine sd_c (pc := 95) (f := i_c (.int (1)) 96) (s_iconst dX7_load_95 (by decide)) ?_
  refine sd_c (pc := 96) (f := i_bi (fun x z => x + z) 97) (s_iadd dX7_load_96) ?_
  refine sd_c (pc := 97) (f := i_bi (fun x z => x * z) 98) (s_imul dX7_load_97) ?_
  refine sd_c (pc := 98) (f := i_il 3 99) (s_iln (i := 3) dX7_load_98) ?_
  refine sd_c (pc := 99) (f := i_bi (fun x z => x + z) 100) (s_iadd dX7_load_99) ?_
  refine sd_c (pc := 100) (f := i_al 0 101) (s_aln (i := 0) dX7_load_100) ?_
  refine sd_c (pc := 101) (f := i_gf 7 7 104) (s_gf (ci := 7) (k := 7) dX7_load_101 rfl in_X7 (by decide) w785) ?_
  refine sd_c (pc := 104) (f := i_c (.int (32)) 106) (s_bipush dX7_load_104 (by decide)) ?_
  refine sd_c (pc := 106) (f := i_il 2 107) (s_iln (i := 2) dX7_load_106) ?_
  refine sd_c (pc := 107) (f := i_bi (fun x z => x * z) 108) (s_imul dX7_load_107) ?_
  refine sd_c (pc := 108) (f := i_il 3 109) (s_iln (i := 3) dX7_load_108) ?_
  refine sd_c (pc := 109) (f := i_bi (fun x z => x + z) 110) (s_iadd dX7_load_109) ?_
  refine sd_c (pc := 110) (f := i_ia 0 111) (s_iald dX7_load_110) ?_
  refine sd_c (pc := 111) (f := i_ist 112) (s_ist dX7_load_111) ?_
  refine sd_c (pc := 112) (f := i_inc 3 (1) 115) (s_inc dX7_load_112 (by decide) (by decide)) ?_
  refine sd_c (pc := 115) (f := i_w [(75, [0, 1, 2, 3])] (i_g 75)) (s_w (s_goto (tgt := 75) dX7_load_115 (by decide))) ?_
  refine sd_c (pc := 118) (f := i_al 0 119) (s_aln (i := 0) dX7_load_118) ?_
  refine sd_c (pc := 119) (f := i_gf 7 3 122) (s_gf (ci := 7) (k := 3) dX7_load_119 rfl in_X7 (by decide) w781) ?_
  refine sd_c (pc := 122) (f := i_il 1 123) (s_iln (i := 1) dX7_load_122) ?_
  refine sd_c (pc := 123) (f := i_al 0 124) (s_aln (i := 0) dX7_load_123) ?_
  refine sd_c (pc := 124) (f := i_gf 7 4 127) (s_gf (ci := 7) (k := 4) dX7_load_124 rfl in_X7 (by decide) w782) ?_
  refine sd_c (pc := 127) (f := i_il 2 128) (s_iln (i := 2) dX7_load_127) ?_
  refine sd_c (pc := 128) (f := i_ia 0 129) (s_iald dX7_load_128) ?_
  refine sd_c (pc := 129) (f := i_ist 130) (s_ist dX7_load_129) ?_
  refine sd_c (pc := 130) (f := i_rv 0 0) (s_rv dX7_load_130 rfl) ?_
  exact sd_n
noncomputable def f_X7_load : List Value → me_M → Option sm_R := sd_f 4 T_X7_load
theorem V_X7_load : sd_V yX7_load cX7_load 4 none rm_X7_load 2 f_X7_load := ⟨sd_met A_X7_load (by decide +kernel), w915, w8, by decide +kernel⟩
set_option maxRecDepth 20000 in
theorem e_X7_load (x0 : Nat) (x1 : Int32) (x2 : Int32) (M : me_M) : f_X7_load [.ref x0, .int x1, .int x2] M = (me_obj M 7 x0).bind fun f1 => (f1[2]?).bind fun w2 => (me_obj M 7 x0).bind fun f3 => (f3[6]?).bind fun w4 => (v_ref w4).bind fun a5 => (me_int M 0 a5).bind fun f6 => if x2 < 0 ∨ f6.1 ≤ x2.toNatClampNeg then (none) else (v_ref w2).bind fun a7 => (me_int M 0 a7).bind fun f8 => if ((2 : Int32) * x1) < 0 ∨ f8.1 ≤ ((2 : Int32) * x1).toNatClampNeg then (none) else sm T_X7_load (16, [(0, .ref x0), (1, .int x1), (2, .int x2), (3, .int (0 : Int32))], [], (me_set M a7 (.inl (0, f8.1, .inl (upd f8.2 ((2 : Int32) * x1).toNatClampNeg (f6.2 x2.toNatClampNeg))))), 0, 0) := (show f_X7_load [.ref x0, .int x1, .int x2] M = sm T_X7_load (0, [(0, .ref x0), (1, .int x1), (2, .int x2)], [], M, 0, 0) from rfl).trans (by have hF := sm_fx A_X7_load; generalize sm T_X7_load = F_ at hF ⊢; exact (sm_h hF (f := i_al 0 1) rfl).trans (q_al rfl ((sm_h hF (f := i_gf 7 2 4) rfl).trans (q_gf (vr (ob fun f1 => ob fun w2 => (sm_h hF (f := i_c (.int (2)) 5) rfl).trans (q_c ((sm_h hF (f := i_il 1 6) rfl).trans (q_il rfl ((sm_h hF (f := i_bi (fun x z => x * z) 7) rfl).trans (q_bi (vi (vi ((sm_h hF (f := i_al 0 8) rfl).trans (q_al rfl ((sm_h hF (f := i_gf 7 6 11) rfl).trans (q_gf (vr (ob fun f3 => ob fun w4 => (sm_h hF (f := i_il 2 12) rfl).trans (q_il rfl ((sm_h hF (f := i_ia 0 13) rfl).trans (q_ia (vi (ob fun a5 => ob fun f6 => ic (rfl) ((sm_h hF (f := i_ist 14) rfl).trans (q_ist (vi (vi (ob fun a7 => ob fun f8 => ic (rfl) ((sm_h hF (f := i_c (.int (0)) 15) rfl).trans (q_c ((sm_h hF (f := i_w [(16, [0, 1, 2, 3])] (i_is 3 16)) rfl).trans (q_w (q_is (fun x_ => [(0, .ref x0), (1, .int x1), (2, .int x2), (3, .int x_)]) (fun _ => rfl) (vi (rfl))))))))))))))))))))))))))))))))))))
set_option maxRecDepth 20000 in
theorem e_X7_load_16 (x0 : Nat) (x1 : Int32) (x2 : Int32) (x3 : Int32) (M : me_M) : sm T_X7_load (16, [(0, .ref x0), (1, .int x1), (2, .int x2), (3, .int x3)], [], M, 0, 0) = (me_obj M 7 x0).bind fun f1 => (f1[6]?).bind fun w2 => (v_ref w2).bind fun a3 => (me_int M 0 a3).bind fun f4 => if x2 < 0 ∨ f4.1 ≤ x2.toNatClampNeg then (none) else if (f4.2 x2.toNatClampNeg) ≤ x3 then ((me_obj M 7 x0).bind fun f5 => (f5[2]?).bind fun w6 => (me_obj M 7 x0).bind fun f7 => (f7[8]?).bind fun w8 => (v_ref w8).bind fun a9 => (me_int M 0 a9).bind fun f10 => if x2 < 0 ∨ f10.1 ≤ x2.toNatClampNeg then (none) else (v_ref w6).bind fun a11 => (me_int M 0 a11).bind fun f12 => if (((2 : Int32) * x1) + (1 : Int32)) < 0 ∨ f12.1 ≤ (((2 : Int32) * x1) + (1 : Int32)).toNatClampNeg then (none) else sm T_X7_load (75, [(0, .ref x0), (1, .int x1), (2, .int x2), (3, .int (0 : Int32))], [], (me_set M a11 (.inl (0, f12.1, .inl (upd f12.2 (((2 : Int32) * x1) + (1 : Int32)).toNatClampNeg (f10.2 x2.toNatClampNeg))))), 0, 0)) else (me_obj M 7 x0).bind fun f13 => (f13[1]?).bind fun w14 => (me_obj M 7 x0).bind fun f15 => (f15[5]?).bind fun w16 => (v_ref w16).bind fun a17 => (me_int M 0 a17).bind fun f18 => if (((32 : Int32) * x2) + x3) < 0 ∨ f18.1 ≤ (((32 : Int32) * x2) + x3).toNatClampNeg then (none) else (v_ref w14).bind fun a19 => (me_int M 0 a19).bind fun f20 => if (((160 : Int32) * ((2 : Int32) * x1)) + x3) < 0 ∨ f20.1 ≤ (((160 : Int32) * ((2 : Int32) * x1)) + x3).toNatClampNeg then (none) else sm T_X7_load (16, [(0, .ref x0), (1, .int x1), (2, .int x2), (3, .int (x3 + (1)))], [], (me_set M a19 (.inl (0, f20.1, .inl (upd f20.2 (((160 : Int32) * ((2 : Int32) * x1)) + x3).toNatClampNeg (f18.2 (((32 : Int32) * x2) + x3).toNatClampNeg))))), 0, 0) := (by have hF := sm_fx A_X7_load; generalize sm T_X7_load = F_ at hF ⊢; exact (sm_h hF (f := i_il 3 17) rfl).trans (q_il rfl ((sm_h hF (f := i_al 0 18) rfl).trans (q_al rfl ((sm_h hF (f := i_gf 7 6 21) rfl).trans (q_gf (vr (ob fun f1 => ob fun w2 => (sm_h hF (f := i_il 2 22) rfl).trans (q_il rfl ((sm_h hF (f := i_ia 0 23) rfl).trans (q_ia (vi (ob fun a3 => ob fun f4 => ic (rfl) ((sm_h hF (f := i_zz (fun x z => z ≤ x) 57 26) rfl).trans (q_zz (vi (vi (ic ((sm_h hF (f := i_al 0 58) rfl).trans (q_al rfl ((sm_h hF (f := i_gf 7 2 61) rfl).trans (q_gf (vr (ob fun f5 => ob fun w6 => (sm_h hF (f := i_c (.int (2)) 62) rfl).trans (q_c ((sm_h hF (f := i_il 1 63) rfl).trans (q_il rfl ((sm_h hF (f := i_bi (fun x z => x * z) 64) rfl).trans (q_bi (vi (vi ((sm_h hF (f := i_c (.int (1)) 65) rfl).trans (q_c ((sm_h hF (f := i_bi (fun x z => x + z) 66) rfl).trans (q_bi (vi (vi ((sm_h hF (f := i_al 0 67) rfl).trans (q_al rfl ((sm_h hF (f := i_gf 7 8 70) rfl).trans (q_gf (vr (ob fun f7 => ob fun w8 => (sm_h hF (f := i_il 2 71) rfl).trans (q_il rfl ((sm_h hF (f := i_ia 0 72) rfl).trans (q_ia (vi (ob fun a9 => ob fun f10 => ic (rfl) ((sm_h hF (f := i_ist 73) rfl).trans (q_ist (vi (vi (ob fun a11 => ob fun f12 => ic (rfl) ((sm_h hF (f := i_c (.int (0)) 74) rfl).trans (q_c ((sm_h hF (f := i_w [(75, [0, 1, 2, 3])] (i_is 3 75)) rfl).trans (q_w (q_is (fun x_ => [(0, .ref x0), (1, .int x1), (2, .int x2), (3, .int x_)]) (fun _ => rfl) (vi (rfl)))))))))))))))))))))))))))))))))))))))))) ((sm_h hF (f := i_al 0 27) rfl).trans (q_al rfl ((sm_h hF (f := i_gf 7 1 30) rfl).trans (q_gf (vr (ob fun f13 => ob fun w14 => (sm_h hF (f := i_c (.int (160)) 33) rfl).trans (q_c ((sm_h hF (f := i_c (.int (2)) 34) rfl).trans (q_c ((sm_h hF (f := i_il 1 35) rfl).trans (q_il rfl ((sm_h hF (f := i_bi (fun x z => x * z) 36) rfl).trans (q_bi (vi (vi ((sm_h hF (f := i_bi (fun x z => x * z) 37) rfl).trans (q_bi (vi (vi ((sm_h hF (f := i_il 3 38) rfl).trans (q_il rfl ((sm_h hF (f := i_bi (fun x z => x + z) 39) rfl).trans (q_bi (vi (vi ((sm_h hF (f := i_al 0 40) rfl).trans (q_al rfl ((sm_h hF (f := i_gf 7 5 43) rfl).trans (q_gf (vr (ob fun f15 => ob fun w16 => (sm_h hF (f := i_c (.int (32)) 45) rfl).trans (q_c ((sm_h hF (f := i_il 2 46) rfl).trans (q_il rfl ((sm_h hF (f := i_bi (fun x z => x * z) 47) rfl).trans (q_bi (vi (vi ((sm_h hF (f := i_il 3 48) rfl).trans (q_il rfl ((sm_h hF (f := i_bi (fun x z => x + z) 49) rfl).trans (q_bi (vi (vi ((sm_h hF (f := i_ia 0 50) rfl).trans (q_ia (vi (ob fun a17 => ob fun f18 => ic (rfl) ((sm_h hF (f := i_ist 51) rfl).trans (q_ist (vi (vi (ob fun a19 => ob fun f20 => ic (rfl) ((sm_h hF (f := i_inc 3 (1) 54) rfl).trans (q_inc ([(0, .ref x0), (1, .int x1), (2, .int x2), (3, .int (x3 + (1)))]) rfl rfl ((sm_h hF (f := i_w [(16, [0, 1, 2, 3])] (i_g 16)) rfl).trans (q_w (q_g (rfl)))))))))))))))))))))))))))))))))))))))))))))))))))))))))))))))))))))))))))))
set_option maxRecDepth 20000 in
theorem e_X7_load_75 (x0 : Nat) (x1 : Int32) (x2 : Int32) (x3 : Int32) (M : me_M) : sm T_X7_load (75, [(0, .ref x0), (1, .int x1), (2, .int x2), (3, .int x3)], [], M, 0, 0) = (me_obj M 7 x0).bind fun f1 => (f1[8]?).bind fun w2 => (v_ref w2).bind fun a3 => (me_int M 0 a3).bind fun f4 => if x2 < 0 ∨ f4.1 ≤ x2.toNatClampNeg then (none) else if (f4.2 x2.toNatClampNeg) ≤ x3 then ((me_obj M 7 x0).bind fun f5 => (f5[3]?).bind fun w6 => (me_obj M 7 x0).bind fun f7 => (f7[4]?).bind fun w8 => (v_ref w8).bind fun a9 => (me_int M 0 a9).bind fun f10 => if x2 < 0 ∨ f10.1 ≤ x2.toNatClampNeg then (none) else (v_ref w6).bind fun a11 => (me_int M 0 a11).bind fun f12 => if x1 < 0 ∨ f12.1 ≤ x1.toNatClampNeg then (none) else if 0 ≤ 0 ∧ 0 ≤ 0 then some (none, (me_set M a11 (.inl (0, f12.1, .inl (upd f12.2 x1.toNatClampNeg (f10.2 x2.toNatClampNeg)))))) else none) else (me_obj M 7 x0).bind fun f13 => (f13[1]?).bind fun w14 => (me_obj M 7 x0).bind fun f15 => (f15[7]?).bind fun w16 => (v_ref w16).bind fun a17 => (me_int M 0 a17).bind fun f18 => if (((32 : Int32) * x2) + x3) < 0 ∨ f18.1 ≤ (((32 : Int32) * x2) + x3).toNatClampNeg then (none) else (v_ref w14).bind fun a19 => (me_int M 0 a19).bind fun f20 => if (((160 : Int32) * (((2 : Int32) * x1) + (1 : Int32))) + x3) < 0 ∨ f20.1 ≤ (((160 : Int32) * (((2 : Int32) * x1) + (1 : Int32))) + x3).toNatClampNeg then (none) else sm T_X7_load (75, [(0, .ref x0), (1, .int x1), (2, .int x2), (3, .int (x3 + (1)))], [], (me_set M a19 (.inl (0, f20.1, .inl (upd f20.2 (((160 : Int32) * (((2 : Int32) * x1) + (1 : Int32))) + x3).toNatClampNeg (f18.2 (((32 : Int32) * x2) + x3).toNatClampNeg))))), 0, 0) := (by have hF := sm_fx A_X7_load; generalize sm T_X7_load = F_ at hF ⊢; exact (sm_h hF (f := i_il 3 76) rfl).trans (q_il rfl ((sm_h hF (f := i_al 0 77) rfl).trans (q_al rfl ((sm_h hF (f := i_gf 7 8 80) rfl).trans (q_gf (vr (ob fun f1 => ob fun w2 => (sm_h hF (f := i_il 2 81) rfl).trans (q_il rfl ((sm_h hF (f := i_ia 0 82) rfl).trans (q_ia (vi (ob fun a3 => ob fun f4 => ic (rfl) ((sm_h hF (f := i_zz (fun x z => z ≤ x) 118 85) rfl).trans (q_zz (vi (vi (ic ((sm_h hF (f := i_al 0 119) rfl).trans (q_al rfl ((sm_h hF (f := i_gf 7 3 122) rfl).trans (q_gf (vr (ob fun f5 => ob fun w6 => (sm_h hF (f := i_il 1 123) rfl).trans (q_il rfl ((sm_h hF (f := i_al 0 124) rfl).trans (q_al rfl ((sm_h hF (f := i_gf 7 4 127) rfl).trans (q_gf (vr (ob fun f7 => ob fun w8 => (sm_h hF (f := i_il 2 128) rfl).trans (q_il rfl ((sm_h hF (f := i_ia 0 129) rfl).trans (q_ia (vi (ob fun a9 => ob fun f10 => ic (rfl) ((sm_h hF (f := i_ist 130) rfl).trans (q_ist (vi (vi (ob fun a11 => ob fun f12 => ic (rfl) ((sm_h hF (f := i_rv 0 0) rfl).trans (q_rv (rfl)))))))))))))))))))))))))) ((sm_h hF (f := i_al 0 86) rfl).trans (q_al rfl ((sm_h hF (f := i_gf 7 1 89) rfl).trans (q_gf (vr (ob fun f13 => ob fun w14 => (sm_h hF (f := i_c (.int (160)) 92) rfl).trans (q_c ((sm_h hF (f := i_c (.int (2)) 93) rfl).trans (q_c ((sm_h hF (f := i_il 1 94) rfl).trans (q_il rfl ((sm_h hF (f := i_bi (fun x z => x * z) 95) rfl).trans (q_bi (vi (vi ((sm_h hF (f := i_c (.int (1)) 96) rfl).trans (q_c ((sm_h hF (f := i_bi (fun x z => x + z) 97) rfl).trans (q_bi (vi (vi ((sm_h hF (f := i_bi (fun x z => x * z) 98) rfl).trans (q_bi (vi (vi ((sm_h hF (f := i_il 3 99) rfl).trans (q_il rfl ((sm_h hF (f := i_bi (fun x z => x + z) 100) rfl).trans (q_bi (vi (vi ((sm_h hF (f := i_al 0 101) rfl).trans (q_al rfl ((sm_h hF (f := i_gf 7 7 104) rfl).trans (q_gf (vr (ob fun f15 => ob fun w16 => (sm_h hF (f := i_c (.int (32)) 106) rfl).trans (q_c ((sm_h hF (f := i_il 2 107) rfl).trans (q_il rfl ((sm_h hF (f := i_bi (fun x z => x * z) 108) rfl).trans (q_bi (vi (vi ((sm_h hF (f := i_il 3 109) rfl).trans (q_il rfl ((sm_h hF (f := i_bi (fun x z => x + z) 110) rfl).trans (q_bi (vi (vi ((sm_h hF (f := i_ia 0 111) rfl).trans (q_ia (vi (ob fun a17 => ob fun f18 => ic (rfl) ((sm_h hF (f := i_ist 112) rfl).trans (q_ist (vi (vi (ob fun a19 => ob fun f20 => ic (rfl) ((sm_h hF (f := i_inc 3 (1) 115) rfl).trans (q_inc ([(0, .ref x0), (1, .int x1), (2, .int x2), (3, .int (x3 + (1)))]) rfl rfl ((sm_h hF (f := i_w [(75, [0, 1, 2, 3])] (i_g 75)) rfl).trans (q_w (q_g (rfl)))))))))))))))))))))))))))))))))))))))))))))))))))))))))))))))))))))))))))))))))))
/-! X7_save -/
abbrev rm_X7_save : Room := { frames := 0, cells := 0, slots := 0, locals := 0 }
noncomputable def T_X7_save : sm_T := [(0, i_al 0 1), (1, i_gf 7 6 4), (4, i_il 1 5), (5, i_al 0 6), (6, i_gf 7 2 9), (9, i_c (.int (2)) 10), (10, i_il 2 11), (11, i_bi (fun x z => x * z) 12), (12, i_ia 0 13), (13, i_ist 14), (14, i_c (.int (0)) 15), (15, i_w [(16, [0, 1, 2, 3])] (i_is 3 16)), (16, i_il 3 17), (17, i_al 0 18), (18, i_gf 7 2 21), (21, i_c (.int (2)) 22), (22, i_il 2 23), (23, i_bi (fun x z => x * z) 24), (24, i_ia 0 25), (25, i_zz (fun x z => z ≤ x) 59 28), (28, i_al 0 29), (29, i_gf 7 5 32), (32, i_c (.int (32)) 34), (34, i_il 1 35), (35, i_bi (fun x z => x * z) 36), (36, i_il 3 37), (37, i_bi (fun x z => x + z) 38), (38, i_al 0 39), (39, i_gf 7 1 42), (42, i_c (.int (160)) 45), (45, i_c (.int (2)) 46), (46, i_il 2 47), (47, i_bi (fun x z => x * z) 48), (48, i_bi (fun x z => x * z) 49), (49, i_il 3 50), (50, i_bi (fun x z => x + z) 51), (51, i_ia 0 52), (52, i_ist 53), (53, i_inc 3 (1) 56), (56, i_w [(16, [0, 1, 2, 3])] (i_g 16)), (59, i_al 0 60), (60, i_gf 7 8 63), (63, i_il 1 64), (64, i_al 0 65), (65, i_gf 7 2 68), (68, i_c (.int (2)) 69), (69, i_il 2 70), (70, i_bi (fun x z => x * z) 71), (71, i_c (.int (1)) 72), (72, i_bi (fun x z => x + z) 73), (73, i_ia 0 74), (74, i_ist 75), (75, i_c (.int (0)) 76), (76, i_w [(77, [0, 1, 2, 3])] (i_is 3 77)), (77, i_il 3 78), (78, i_al 0 79), (79, i_gf 7 2 82), (82, i_c (.int (2)) 83), (83, i_il 2 84), (84, i_bi (fun x z => x * z) 85), (85, i_c (.int (1)) 86), (86, i_bi (fun x z => x + z) 87), (87, i_ia 0 88), (88, i_zz (fun x z => z ≤ x) 124 91), (91, i_al 0 92), (92, i_gf 7 7 95), (95, i_c (.int (32)) 97), (97, i_il 1 98), (98, i_bi (fun x z => x * z) 99), (99, i_il 3 100), (100, i_bi (fun x z => x + z) 101), (101, i_al 0 102), (102, i_gf 7 1 105), (105, i_c (.int (160)) 108), (108, i_c (.int (2)) 109), (109, i_il 2 110), (110, i_bi (fun x z => x * z) 111), (111, i_c (.int (1)) 112), (112, i_bi (fun x z => x + z) 113), (113, i_bi (fun x z => x * z) 114), (114, i_il 3 115), (115, i_bi (fun x z => x + z) 116), (116, i_ia 0 117), (117, i_ist 118), (118, i_inc 3 (1) 121), (121, i_w [(77, [0, 1, 2, 3])] (i_g 77)), (124, i_al 0 125), (125, i_gf 7 4 128), (128, i_il 1 129), (129, i_al 0 130), (130, i_gf 7 3 133), (133, i_il 2 134), (134, i_ia 0 135), (135, i_ist 136), (136, i_rv 0 0)]
set_option maxRecDepth 20000 in
theorem A_X7_save : sd_A yX7_save cX7_save 4 none rm_X7_save T_X7_save := by
  refine sd_c (pc := 0) (f := i_al 0 1) (s_aln (i := 0) dX7_save_0) ?_
  refine sd_c (pc := 1) (f := i_gf 7 6 4) (s_gf (ci := 7) (k := 6) dX7_save_1 rfl in_X7 (by decide) w784) ?_
  refine sd_c (pc := 4) (f := i_il 1 5) (s_iln (i := 1) dX7_save_4) ?_
  refine sd_c (pc := 5) (f := i_al 0 6) (s_aln (i := 0) dX7_save_5) ?_
  refine sd_c (pc := 6) (f := i_gf 7 2 9) (s_gf (ci := 7) (k := 2) dX7_save_6 rfl in_X7 (by decide) w780) ?_
  refine sd_c (pc := 9) (f := i_c (.int (2)) 10) (s_iconst dX7_save_9 (by decide)) ?_
  refine sd_c (pc := 10) (f := i_il 2 11) (s_iln (i := 2) dX7_save_10) ?_
  refine sd_c (pc := 11) (f := i_bi (fun x z => x * z) 12) (s_imul dX7_save_11) ?_
  refine sd_c (pc := 12) (f := i_ia 0 13) (s_iald dX7_save_12) ?_
  refine sd_c (pc := 13) (f := i_ist 14) (s_ist dX7_save_13) ?_
  refine sd_c (pc := 14) (f := i_c (.int (0)) 15) (s_iconst dX7_save_14 (by decide)) ?_
  refine sd_c (pc := 15) (f := i_w [(16, [0, 1, 2, 3])] (i_is 3 16)) (s_w (s_isn (i := 3) dX7_save_15 (by decide))) ?_
  refine sd_c (pc := 16) (f := i_il 3 17) (s_iln (i := 3) dX7_save_16) ?_
  refine sd_c (pc := 17) (f := i_al 0 18) (s_aln (i := 0) dX7_save_17) ?_
  refine sd_c (pc := 18) (f := i_gf 7 2 21) (s_gf (ci := 7) (k := 2) dX7_save_18 rfl in_X7 (by decide) w780) ?_
  refine sd_c (pc := 21) (f := i_c (.int (2)) 22) (s_iconst dX7_save_21 (by decide)) ?_
  refine sd_c (pc := 22) (f := i_il 2 23) (s_iln (i := 2) dX7_save_22) ?_
  refine sd_c (pc := 23) (f := i_bi (fun x z => x * z) 24) (s_imul dX7_save_23) ?_
  refine sd_c (pc := 24) (f := i_ia 0 25) (s_iald dX7_save_24) ?_
  refine sd_c (pc := 25) (f := i_zz (fun x z => z ≤ x) 59 28) (s_ic_ge (tgt := 59) dX7_save_25 (by decide)) ?_
  refine sd_c (pc := 28) (f := i_al 0 29) (s_aln (i := 0) dX7_save_28) ?_
  refine sd_c (pc := 29) (f := i_gf 7 5 32) (s_gf (ci := 7) (k := 5) dX7_save_29 rfl in_X7 (by decide) w783) ?_
  refine sd_c (pc := 32) (f := i_c (.int (32)) 34) (s_bipush dX7_save_32 (by decide)) ?_
  refine sd_c (pc := 34) (f := i_il 1 35) (s_iln (i := 1) dX7_save_34) ?_
  refine sd_c (pc := 35) (f := i_bi (fun x z => x * z) 36) (s_imul dX7_save_35) ?_
  refine sd_c (pc := 36) (f := i_il 3 37) (s_iln (i := 3) dX7_save_36) ?_
  refine sd_c (pc := 37) (f := i_bi (fun x z => x + z) 38) (s_iadd dX7_save_37) ?_
  refine sd_c (pc := 38) (f := i_al 0 39) (s_aln (i := 0) dX7_save_38) ?_
  refine sd_c (pc := 39) (f := i_gf 7 1 42) (s_gf (ci := 7) (k := 1) dX7_save_39 rfl in_X7 (by decide) w779) ?_
  refine sd_c (pc := 42) (f := i_c (.int (160)) 45) (s_sipush dX7_save_42 (by decide)) ?_
  refine sd_c (pc := 45) (f := i_c (.int (2)) 46) (s_iconst dX7_save_45 (by decide)) ?_
  refine sd_c (pc := 46) (f := i_il 2 47) (s_iln (i := 2) dX7_save_46) ?_
  refine sd_c (pc := 47) (f := i_bi (fun x z => x * z) 48) (s_imul dX7_save_47) ?_
  refine sd_c (pc := 48) (f := i_bi (fun x z => x * z) 49) (s_imul dX7_save_48) ?_
  refine sd_c (pc := 49) (f := i_il 3 50) (s_iln (i := 3) dX7_save_49) ?_
  refine sd_c (pc := 50) (f := i_bi (fun x z => x + z) 51) (s_iadd dX7_save_50) ?_
  refine sd_c (pc := 51) (f := i_ia 0 52) (s_iald dX7_save_51) ?_
  refine sd_c (pc := 52) (f := i_ist 53) (s_ist dX7_save_52) ?_
  refine sd_c (pc := 53) (f := i_inc 3 (1) 56) (s_inc dX7_save_53 (by decide) (by decide)) ?_
  refine sd_c (pc := 56) (f := i_w [(16, [0, 1, 2, 3])] (i_g 16)) (s_w (s_goto (tgt := 16) dX7_save_56 (by decide))) ?_
  refine sd_c (pc := 59) (f := i_al 0 60) (s_aln (i := 0) dX7_save_59) ?_
  refine sd_c (pc := 60) (f := i_gf 7 8 63) (s_gf (ci := 7) (k := 8) dX7_save_60 rfl in_X7 (by decide) w786) ?_
  refine sd_c (pc := 63) (f := i_il 1 64) (s_iln (i := 1) dX7_save_63) ?_
  refine sd_c (pc := 64) (f := i_al 0 65) (s_aln (i := 0) dX7_save_64) ?_
  refine sd_c (pc := 65) (f := i_gf 7 2 68) (s_gf (ci := 7) (k := 2) dX7_save_65 rfl in_X7 (by decide) w780) ?_
  refine sd_c (pc := 68) (f := i_c (.int (2)) 69) (s_iconst dX7_save_68 (by decide)) ?_
  refine sd_c (pc := 69) (f := i_il 2 70) (s_iln (i := 2) dX7_save_69) ?_
  refine sd_c (pc := 70) (f := i_bi (fun x z => x * z) 71) (s_imul dX7_save_70) ?_
  refine sd_c (pc := 71) (f := i_c (.int (1)) 72) (s_iconst dX7_save_71 (by decide)) ?_
  refine sd_c (pc := 72) (f := i_bi (fun x z => x + z) 73) (s_iadd dX7_save_72) ?_
  refine sd_c (pc := 73) (f := i_ia 0 74) (s_iald dX7_save_73) ?_
  refine sd_c (pc := 74) (f := i_ist 75) (s_ist dX7_save_74) ?_
  refine sd_c (pc := 75) (f := i_c (.int (0)) 76) (s_iconst dX7_save_75 (by decide)) ?_
  refine sd_c (pc := 76) (f := i_w [(77, [0, 1, 2, 3])] (i_is 3 77)) (s_w (s_isn (i := 3) dX7_save_76 (by decide))) ?_
  refine sd_c (pc := 77) (f := i_il 3 78) (s_iln (i := 3) dX7_save_77) ?_
  refine sd_c (pc := 78) (f := i_al 0 79) (s_aln (i := 0) dX7_save_78) ?_
  refine sd_c (pc := 79) (f := i_gf 7 2 82) (s_gf (ci := 7) (k := 2) dX7_save_79 rfl in_X7 (by decide) w780) ?_
  refine sd_c (pc := 82) (f := i_c (.int (2)) 83) (s_iconst dX7_save_82 (by decide)) ?_
  refine sd_c (pc := 83) (f := i_il 2 84) (s_iln (i := 2) dX7_save_83) ?_
  refine sd_c (pc := 84) (f := i_bi (fun x z => x * z) 85) (s_imul dX7_save_84) ?_
  refine sd_c (pc := 85) (f := i_c (.int (1)) 86) (s_iconst dX7_save_85 (by decide)) ?_
  refine sd_c (pc := 86) (f := i_bi (fun x z => x + z) 87) (s_iadd dX7_save_86) ?_
  refine sd_c (pc := 87) (f := i_ia 0 88) (s_iald dX7_save_87) ?_
  refine sd_c (pc := 88) (f := i_zz (fun x z => z ≤ x) 124 91) (s_ic_ge (tgt := 124) dX7_save_88 (by decide)) ?_
  refine sd_c (pc := 91) (f := i_al 0 92) (s_aln (i := 0) dX7_save_91) ?_
  refine sd_c (pc := 92) (f := i_gf 7 7 95) (s_gf (ci := 7) (k := 7) dX7_save_92 rfl in_X7 (by decide) w785) ?_
  refine sd_c (pc := 95) (f := i_c (.int (32)) 97) (s_bipush dX7_save_95 (by decide)) ?_
  refine sd_c (pc := 97) (f := i_il 1 98) (s_iln (i := 1) dX7_save_97) ?_
  refine sd_c (pc := 98) (f := i_bi (fun x z => x * z) 99) (s_imul dX7_save_98) ?_
  refine sd_c (pc := 99) (f := i_il 3 100) (s_iln (i := 3) dX7_save_99) ?_
  refine sd_c (pc := 100) (f := i_bi (fun x z => x + z) 101) (s_iadd dX7_save_100) ?_
  refine sd_c (pc := 101) (f := i_al 0 102) (s_aln (i := 0) dX7_save_101) ?_
  refine sd_c (pc := 102) (f := i_gf 7 1 105) (s_gf (ci := 7) (k := 1) dX7_save_102 rfl in_X7 (by decide) w779) ?_
  refine sd_c (pc := 105) (f := i_c (.int (160)) 108) (s_sipush dX7_save_105 (by decide)) ?_
  refine sd_c (pc := 108) (f := i_c (.int (2)) 109) (s_iconst dX7_save_108 (by decide)) ?_
  refine sd_c (pc := 109) (f := i_il 2 110) (s_iln (i := 2) dX7_save_109) ?_
  refine sd_c (pc := 110) (f := i_bi (fun x z => x * z) 111) (s_imul dX7_save_110) ?_
  refine sd_c (pc := 111) (f := i_c (.int (1)) 112) (s_iconst dX7_save_111 (by decide)) ?_
  refine sd_c (pc := 112) (f := i_bi (fun x z => x + z) 113) (s_iadd dX7_save_112) ?_
  refine sd_c (pc := 113) (f := i_bi (fun x z => x * z) 114) (s_imul dX7_save_113) ?_
  refine sd_c (pc := 114) (f := i_il 3 115) (s_iln (i := 3) dX7_save_114) ?_
  refine sd_c (pc := 115) (f := i_bi (fun x z => x + z) 116) (s_iadd dX7_save_115) ?_
  refine sd_c (pc := 116) (f := i_ia 0 117) (s_iald dX7_save_116) ?_
  refine sd_c (pc := 117) (f := i_ist 118) (s_ist dX7_save_117) ?_
  refine sd_c (pc := 118) (f := i_inc 3 (1) 121) (s_inc dX7_save_118 (by decide) (by decide)) ?_
  refine sd_c (pc := 121) (f := i_w [(77, [0, 1, 2, 3])] (i_g 77)) (s_w (s_goto (tgt := 77) dX7_save_121 (by decide))) ?_
  refine sd_c (pc := 124) (f := i_al 0 125) (s_aln (i := 0) dX7_save_124) ?_
  refine sd_c (pc := 125) (f := i_gf 7 4 128) (s_gf (ci := 7) (k := 4) dX7_save_125 rfl in_X7 (by decide) w782) ?_
  refine sd_c (pc := 128) (f := i_il 1 129) (s_iln (i := 1) dX7_save_128) ?_
  refine sd_c (pc := 129) (f := i_al 0 130) (s_aln (i := 0) dX7_save_129) ?_
  refine sd_c (pc := 130) (f := i_gf 7 3 133) (s_gf (ci := 7) (k := 3) dX7_save_130 rfl in_X7 (by decide) w781) ?_
  refine sd_c (pc := 133) (f := i_il 2 134) (s_iln (i := 2) dX7_save_133) ?_
  refine sd_c (pc := 134) (f := i_ia 0 135) (s_iald dX7_save_134) ?_
  refine sd_c (pc := 135) (f := i_ist 136) (s_ist dX7_save_135) ?_
  refine sd_c (pc := 136) (f := i_rv 0 0) (s_rv dX7_save_136 rfl) ?_
  exact sd_n
noncomputable def f_X7_save : List Value → me_M → Option sm_R := sd_f 4 T_X7_save
theorem V_X7_save : sd_V yX7_save cX7_save 4 none rm_X7_save 2 f_X7_save := ⟨sd_met A_X7_save (by decide +kernel), w899, w8, by decide +kernel⟩
set_option maxRecDepth 20000 in
theorem e_X7_save (x0 : Nat) (x1 : Int32) (x2 : Int32) (M : me_M) : f_X7_save [.ref x0, .int x1, .int x2] M = (me_obj M 7 x0).bind fun f1 => (f1[6]?).bind fun w2 => (me_obj M 7 x0).bind fun f3 => (f3[2]?).bind fun w4 => (v_ref w4).bind fun a5 => (me_int M 0 a5).bind fun f6 => if ((2 : Int32) * x2) < 0 ∨ f6.1 ≤ ((2 : Int32) * x2).toNatClampNeg then (none) else (v_ref w2).bind fun a7 => (me_int M 0 a7).bind fun f8 => if x1 < 0 ∨ f8.1 ≤ x1.toNatClampNeg then (none) else sm T_X7_save (16, [(0, .ref x0), (1, .int x1), (2, .int x2), (3, .int (0 : Int32))], [], (me_set M a7 (.inl (0, f8.1, .inl (upd f8.2 x1.toNatClampNeg (f6.2 ((2 : Int32) * x2).toNatClampNeg))))), 0, 0) := (show f_X7_save [.ref x0, .int x1, .int x2] M = sm T_X7_save (0, [(0, .ref x0), (1, .int x1), (2, .int x2)], [], M, 0, 0) from rfl).trans (by have hF := sm_fx A_X7_save; generalize sm T_X7_save = F_ at hF ⊢; exact (sm_h hF (f := i_al 0 1) rfl).trans (q_al rfl ((sm_h hF (f := i_gf 7 6 4) rfl).trans (q_gf (vr (ob fun f1 => ob fun w2 => (sm_h hF (f := i_il 1 5) rfl).trans (q_il rfl ((sm_h hF (f := i_al 0 6) rfl).trans (q_al rfl ((sm_h hF (f := i_gf 7 2 9) rfl).trans (q_gf (vr (ob fun f3 => ob fun w4 => (sm_h hF (f := i_c (.int (2)) 10) rfl).trans (q_c ((sm_h hF (f := i_il 2 11) rfl).trans (q_il rfl ((sm_h hF (f := i_bi (fun x z => x * z) 12) rfl).trans (q_bi (vi (vi ((sm_h hF (f := i_ia 0 13) rfl).trans (q_ia (vi (ob fun a5 => ob fun f6 => ic (rfl) ((sm_h hF (f := i_ist 14) rfl).trans (q_ist (vi (vi (ob fun a7 => ob fun f8 => ic (rfl) ((sm_h hF (f := i_c (.int (0)) 15) rfl).trans (q_c ((sm_h hF (f := i_w [(16, [0, 1, 2, 3])] (i_is 3 16)) rfl).trans (q_w (q_is (fun x_ => [(0, .ref x0), (1, .int x1), (2, .int x2), (3, .int x_)]) (fun _ => rfl) (vi (rfl))))))))))))))))))))))))))))))))))))
set_option maxRecDepth 20000 in
theorem e_X7_save_16 (x0 : Nat) (x1 : Int32) (x2 : Int32) (x3 : Int32) (M : me_M) : sm T_X7_save (16, [(0, .ref x0), (1, .int x1), (2, .int x2), (3, .int x3)], [], M, 0, 0) = (me_obj M 7 x0).bind fun f1 => (f1[2]?).bind fun w2 => (v_ref w2).bind fun a3 => (me_int M 0 a3).bind fun f4 => if ((2 : Int32) * x2) < 0 ∨ f4.1 ≤ ((2 : Int32) * x2).toNatClampNeg then (none) else if (f4.2 ((2 : Int32) * x2).toNatClampNeg) ≤ x3 then ((me_obj M 7 x0).bind fun f5 => (f5[8]?).bind fun w6 => (me_obj M 7 x0).bind fun f7 => (f7[2]?).bind fun w8 => (v_ref w8).bind fun a9 => (me_int M 0 a9).bind fun f10 => if (((2 : Int32) * x2) + (1 : Int32)) < 0 ∨ f10.1 ≤ (((2 : Int32) * x2) + (1 : Int32)).toNatClampNeg then (none) else (v_ref w6).bind fun a11 => (me_int M 0 a11).bind fun f12 => if x1 < 0 ∨ f12.1 ≤ x1.toNatClampNeg then (none) else sm T_X7_save (77, [(0, .ref x0), (1, .int x1), (2, .int x2), (3, .int (0 : Int32))], [], (me_set M a11 (.inl (0, f12.1, .inl (upd f12.2 x1.toNatClampNeg (f10.2 (((2 : Int32) * x2) + (1 : Int32)).toNatClampNeg))))), 0, 0)) else (me_obj M 7 x0).bind fun f13 => (f13[5]?).bind fun w14 => (me_obj M 7 x0).bind fun f15 => (f15[1]?).bind fun w16 => (v_ref w16).bind fun a17 => (me_int M 0 a17).bind fun f18 => if (((160 : Int32) * ((2 : Int32) * x2)) + x3) < 0 ∨ f18.1 ≤ (((160 : Int32) * ((2 : Int32) * x2)) + x3).toNatClampNeg then (none) else (v_ref w14).bind fun a19 => (me_int M 0 a19).bind fun f20 => if (((32 : Int32) * x1) + x3) < 0 ∨ f20.1 ≤ (((32 : Int32) * x1) + x3).toNatClampNeg then (none) else sm T_X7_save (16, [(0, .ref x0), (1, .int x1), (2, .int x2), (3, .int (x3 + (1)))], [], (me_set M a19 (.inl (0, f20.1, .inl (upd f20.2 (((32 : Int32) * x1) + x3).toNatClampNeg (f18.2 (((160 : Int32) * ((2 : Int32) * x2)) + x3).toNatClampNeg))))), 0, 0) := (by have hF := sm_fx A_X7_save; generalize sm T_X7_save = F_ at hF ⊢; exact (sm_h hF (f := i_il 3 17) rfl).trans (q_il rfl ((sm_h hF (f := i_al 0 18) rfl).trans (q_al rfl ((sm_h hF (f := i_gf 7 2 21) rfl).trans (q_gf (vr (ob fun f1 => ob fun w2 => (sm_h hF (f := i_c (.int (2)) 22) rfl).trans (q_c ((sm_h hF (f := i_il 2 23) rfl).trans (q_il rfl ((sm_h hF (f := i_bi (fun x z => x * z) 24) rfl).trans (q_bi (vi (vi ((sm_h hF (f := i_ia 0 25) rfl).trans (q_ia (vi (ob fun a3 => ob fun f4 => ic (rfl) ((sm_h hF (f := i_zz (fun x z => z ≤ x) 59 28) rfl).trans (q_zz (vi (vi (ic ((sm_h hF (f := i_al 0 60) rfl).trans (q_al rfl ((sm_h hF (f := i_gf 7 8 63) rfl).trans (q_gf (vr (ob fun f5 => ob fun w6 => (sm_h hF (f := i_il 1 64) rfl).trans (q_il rfl ((sm_h hF (f := i_al 0 65) rfl).trans (q_al rfl ((sm_h hF (f := i_gf 7 2 68) rfl).trans (q_gf (vr (ob fun f7 => ob fun w8 => (sm_h hF (f := i_c (.int (2)) 69) rfl).trans (q_c ((sm_h hF (f := i_il 2 70) rfl).trans (q_il rfl ((sm_h hF (f := i_bi (fun x z => x * z) 71) rfl).trans (q_bi (vi (vi ((sm_h hF (f := i_c (.int (1)) 72) rfl).trans (q_c ((sm_h hF (f := i_bi (fun x z => x + z) 73) rfl).trans (q_bi (vi (vi ((sm_h hF (f := i_ia 0 74) rfl).trans (q_ia (vi (ob fun a9 => ob fun f10 => ic (rfl) ((sm_h hF (f := i_ist 75) rfl).trans (q_ist (vi (vi (ob fun a11 => ob fun f12 => ic (rfl) ((sm_h hF (f := i_c (.int (0)) 76) rfl).trans (q_c ((sm_h hF (f := i_w [(77, [0, 1, 2, 3])] (i_is 3 77)) rfl).trans (q_w (q_is (fun x_ => [(0, .ref x0), (1, .int x1), (2, .int x2), (3, .int x_)]) (fun _ => rfl) (vi (rfl)))))))))))))))))))))))))))))))))))))))))) ((sm_h hF (f := i_al 0 29) rfl).trans (q_al rfl ((sm_h hF (f := i_gf 7 5 32) rfl).trans (q_gf (vr (ob fun f13 => ob fun w14 => (sm_h hF (f := i_c (.int (32)) 34) rfl).trans (q_c ((sm_h hF (f := i_il 1 35) rfl).trans (q_il rfl ((sm_h hF (f := i_bi (fun x z => x * z) 36) rfl).trans (q_bi (vi (vi ((sm_h hF (f := i_il 3 37) rfl).trans (q_il rfl ((sm_h hF (f := i_bi (fun x z => x + z) 38) rfl).trans (q_bi (vi (vi ((sm_h hF (f := i_al 0 39) rfl).trans (q_al rfl ((sm_h hF (f := i_gf 7 1 42) rfl).trans (q_gf (vr (ob fun f15 => ob fun w16 => (sm_h hF (f := i_c (.int (160)) 45) rfl).trans (q_c ((sm_h hF (f := i_c (.int (2)) 46) rfl).trans (q_c ((sm_h hF (f := i_il 2 47) rfl).trans (q_il rfl ((sm_h hF (f := i_bi (fun x z => x * z) 48) rfl).trans (q_bi (vi (vi ((sm_h hF (f := i_bi (fun x z => x * z) 49) rfl).trans (q_bi (vi (vi ((sm_h hF (f := i_il 3 50) rfl).trans (q_il rfl ((sm_h hF (f := i_bi (fun x z => x + z) 51) rfl).trans (q_bi (vi (vi ((sm_h hF (f := i_ia 0 52) rfl).trans (q_ia (vi (ob fun a17 => ob fun f18 => ic (rfl) ((sm_h hF (f := i_ist 53) rfl).trans (q_ist (vi (vi (ob fun a19 => ob fun f20 => ic (rfl) ((sm_h hF (f := i_inc 3 (1) 56) rfl).trans (q_inc ([(0, .ref x0), (1, .int x1), (2, .int x2), (3, .int (x3 + (1)))]) rfl rfl ((sm_h hF (f := i_w [(16, [0, 1, 2, 3])] (i_g 16)) rfl).trans (q_w (q_g (rfl)))))))))))))))))))))))))))))))))))))))))))))))))))))))))))))))))))))))))))))))))))
set_option maxRecDepth 20000 in
theorem e_X7_save_77 (x0 : Nat) (x1 : Int32) (x2 : Int32) (x3 : Int32) (M : me_M) : sm T_X7_save (77, [(0, .ref x0), (1, .int x1), (2, .int x2), (3, .int x3)], [], M, 0, 0) = (me_obj M 7 x0).bind fun f1 => (f1[2]?).bind fun w2 => (v_ref w2).bind fun a3 => (me_int M 0 a3).bind fun f4 => if (((2 : Int32) * x2) + (1 : Int32)) < 0 ∨ f4.1 ≤ (((2 : Int32) * x2) + (1 : Int32)).toNatClampNeg then (none) else if (f4.2 (((2 : Int32) * x2) + (1 : Int32)).toNatClampNeg) ≤ x3 then ((me_obj M 7 x0).bind fun f5 => (f5[4]?).bind fun w6 => (me_obj M 7 x0).bind fun f7 => (f7[3]?).bind fun w8 => (v_ref w8).bind fun a9 => (me_int M 0 a9).bind fun f10 => if x2 < 0 ∨ f10.1 ≤ x2.toNatClampNeg then (none) else (v_ref w6).bind fun a11 => (me_int M 0 a11).bind fun f12 => if x1 < 0 ∨ f12.1 ≤ x1.toNatClampNeg then (none) else if 0 ≤ 0 ∧ 0 ≤ 0 then some (none, (me_set M a11 (.inl (0, f12.1, .inl (upd f12.2 x1.toNatClampNeg (f10.2 x2.toNatClampNeg)))))) else none) else (me_obj M 7 x0).bind fun f13 => (f13[7]?).bind fun w14 => (me_obj M 7 x0).bind fun f15 => (f15[1]?).bind fun w16 => (v_ref w16).bind fun a17 => (me_int M 0 a17).bind fun f18 => if (((160 : Int32) * (((2 : Int32) * x2) + (1 : Int32))) + x3) < 0 ∨ f18.1 ≤ (((160 : Int32) * (((2 : Int32) * x2) + (1 : Int32))) + x3).toNatClampNeg then (none) else (v_ref w14).bind fun a19 => (me_int M 0 a19).bind fun f20 => if (((32 : Int32) * x1) + x3) < 0 ∨ f20.1 ≤ (((32 : Int32) * x1) + x3).toNatClampNeg then (none) else sm T_X7_save (77, [(0, .ref x0), (1, .int x1), (2, .int x2), (3, .int (x3 + (1)))], [], (me_set M a19 (.inl (0, f20.1, .inl (upd f20.2 (((32 : Int32) * x1) + x3).toNatClampNeg (f18.2 (((160 : Int32) * (((2 : Int32) * x2) + (1 : Int32))) + x3).toNatClampNeg))))), 0, 0) := (by have hF := sm_fx A_X7_save; generalize sm T_X7_save = F_ at hF ⊢; exact (sm_h hF (f := i_il 3 78) rfl).trans (q_il rfl ((sm_h hF (f := i_al 0 79) rfl).trans (q_al rfl ((sm_h hF (f := i_gf 7 2 82) rfl).trans (q_gf (vr (ob fun f1 => ob fun w2 => (sm_h hF (f := i_c (.int (2)) 83) rfl).trans (q_c ((sm_h hF (f := i_il 2 84) rfl).trans (q_il rfl ((sm_h hF (f := i_bi (fun x z => x * z) 85) rfl).trans (q_bi (vi (vi ((sm_h hF (f := i_c (.int (1)) 86) rfl).trans (q_c ((sm_h hF (f := i_bi (fun x z => x + z) 87) rfl).trans (q_bi (vi (vi ((sm_h hF (f := i_ia 0 88) rfl).trans (q_ia (vi (ob fun a3 => ob fun f4 => ic (rfl) ((sm_h hF (f := i_zz (fun x z => z ≤ x) 124 91) rfl).trans (q_zz (vi (vi (ic ((sm_h hF (f := i_al 0 125) rfl).trans (q_al rfl ((sm_h hF (f := i_gf 7 4 128) rfl).trans (q_gf (vr (ob fun f5 => ob fun w6 => (sm_h hF (f := i_il 1 129) rfl).trans (q_il rfl ((sm_h hF (f := i_al 0 130) rfl).trans (q_al rfl ((sm_h hF (f := i_gf 7 3 133) rfl).trans (q_gf (vr (ob fun f7 => ob fun w8 => (sm_h hF (f := i_il 2 134) rfl).trans (q_il rfl ((sm_h hF (f := i_ia 0 135) rfl).trans (q_ia (vi (ob fun a9 => ob fun f10 => ic (rfl) ((sm_h hF (f := i_ist 136) rfl).trans (q_ist (vi (vi (ob fun a11 => ob fun f12 => ic (rfl) ((sm_h hF (f := i_rv 0 0) rfl).trans (q_rv (rfl)))))))))))))))))))))))))) ((sm_h hF (f := i_al 0 92) rfl).trans (q_al rfl ((sm_h hF (f := i_gf 7 7 95) rfl).trans (q_gf (vr (ob fun f13 => ob fun w14 => (sm_h hF (f := i_c (.int (32)) 97) rfl).trans (q_c ((sm_h hF (f := i_il 1 98) rfl).trans (q_il rfl ((sm_h hF (f := i_bi (fun x z => x * z) 99) rfl).trans (q_bi (vi (vi ((sm_h hF (f := i_il 3 100) rfl).trans (q_il rfl ((sm_h hF (f := i_bi (fun x z => x + z) 101) rfl).trans (q_bi (vi (vi ((sm_h hF (f := i_al 0 102) rfl).trans (q_al rfl ((sm_h hF (f := i_gf 7 1 105) rfl).trans (q_gf (vr (ob fun f15 => ob fun w16 => (sm_h hF (f := i_c (.int (160)) 108) rfl).trans (q_c ((sm_h hF (f := i_c (.int (2)) 109) rfl).trans (q_c ((sm_h hF (f := i_il 2 110) rfl).trans (q_il rfl ((sm_h hF (f := i_bi (fun x z => x * z) 111) rfl).trans (q_bi (vi (vi ((sm_h hF (f := i_c (.int (1)) 112) rfl).trans (q_c ((sm_h hF (f := i_bi (fun x z => x + z) 113) rfl).trans (q_bi (vi (vi ((sm_h hF (f := i_bi (fun x z => x * z) 114) rfl).trans (q_bi (vi (vi ((sm_h hF (f := i_il 3 115) rfl).trans (q_il rfl ((sm_h hF (f := i_bi (fun x z => x + z) 116) rfl).trans (q_bi (vi (vi ((sm_h hF (f := i_ia 0 117) rfl).trans (q_ia (vi (ob fun a17 => ob fun f18 => ic (rfl) ((sm_h hF (f := i_ist 118) rfl).trans (q_ist (vi (vi (ob fun a19 => ob fun f20 => ic (rfl) ((sm_h hF (f := i_inc 3 (1) 121) rfl).trans (q_inc ([(0, .ref x0), (1, .int x1), (2, .int x2), (3, .int (x3 + (1)))]) rfl rfl ((sm_h hF (f := i_w [(77, [0, 1, 2, 3])] (i_g 77)) rfl).trans (q_w (q_g (rfl)))))))))))))))))))))))))))))))))))))))))))))))))))))))))))))))))))))))))))))))))))))))))))))))
/-! X7_same -/
abbrev rm_X7_same : Room := { frames := 1, cells := 0, slots := 0, locals := 23 }
noncomputable def T_X7_same : sm_T := [(0, i_al 0 1), (1, i_c (.int (0)) 2), (2, i_il 2 3), (3, i_cv 7 3 0 f_X7_load 0 0 0 0 6), (6, i_al 0 7), (7, i_il 1 8), (8, i_c (.int (0)) 9), (9, i_cv 7 3 0 f_X7_save 0 0 0 0 12), (12, i_rv 0 0)]
set_option maxRecDepth 20000 in
theorem A_X7_same : sd_A yX7_same cX7_same 3 none rm_X7_same T_X7_same := by
  refine sd_c (pc := 0) (f := i_al 0 1) (s_aln (i := 0) dX7_same_0) ?_
  refine sd_c (pc := 1) (f := i_c (.int (0)) 2) (s_iconst dX7_same_1 (by decide)) ?_
  refine sd_c (pc := 2) (f := i_il 2 3) (s_iln (i := 2) dX7_same_2) ?_
  refine sd_c (pc := 3) (f := i_cv 7 3 0 f_X7_load 0 0 0 0 6) (s_cv (np := 2) (rk := 0) (ci := 7) (rmz := rm_X7_load) dX7_same_3 V_X7_load w912 w914 wS_PlanFractionsModel_load__II_V rfl (by decide)) ?_
  refine sd_c (pc := 6) (f := i_al 0 7) (s_aln (i := 0) dX7_same_6) ?_
  refine sd_c (pc := 7) (f := i_il 1 8) (s_iln (i := 1) dX7_same_7) ?_
  refine sd_c (pc := 8) (f := i_c (.int (0)) 9) (s_iconst dX7_same_8 (by decide)) ?_
  refine sd_c (pc := 9) (f := i_cv 7 3 0 f_X7_save 0 0 0 0 12) (s_cv (np := 2) (rk := 0) (ci := 7) (rmz := rm_X7_save) dX7_same_9 V_X7_save w896 w898 wS_PlanFractionsModel_save__II_V rfl (by decide)) ?_
  refine sd_c (pc := 12) (f := i_rv 0 0) (s_rv dX7_same_12 rfl) ?_
  exact sd_n
noncomputable def f_X7_same : List Value → me_M → Option sm_R := sd_f 3 T_X7_same
theorem V_X7_same : sd_V yX7_same cX7_same 3 none rm_X7_same 2 f_X7_same := ⟨sd_met A_X7_same (by decide +kernel), w1036, w8, by decide +kernel⟩
set_option maxRecDepth 20000 in
theorem e_X7_same (x0 : Nat) (x1 : Int32) (x2 : Int32) (M : me_M) : f_X7_same [.ref x0, .int x1, .int x2] M = (me_obj M 7 x0).bind fun _ => (f_X7_load [.ref x0, .int (0 : Int32), .int x2] M).bind fun r1 => cond r1.1.isNone ((me_obj r1.2 7 x0).bind fun _ => (f_X7_save [.ref x0, .int x1, .int (0 : Int32)] r1.2).bind fun r2 => cond r2.1.isNone (if 0 ≤ 0 ∧ 0 ≤ 0 then some (none, r2.2) else none) none) none := (show f_X7_same [.ref x0, .int x1, .int x2] M = sm T_X7_same (0, [(0, .ref x0), (1, .int x1), (2, .int x2)], [], M, 0, 0) from rfl).trans (by have hF := sm_fx A_X7_same; generalize sm T_X7_same = F_ at hF ⊢; exact (sm_h hF (f := i_al 0 1) rfl).trans (q_al rfl ((sm_h hF (f := i_c (.int (0)) 2) rfl).trans (q_c ((sm_h hF (f := i_il 2 3) rfl).trans (q_il rfl ((sm_h hF (f := i_cv 7 3 0 f_X7_load 0 0 0 0 6) rfl).trans (q_cv rfl rfl rfl (vr (ob fun _ => ob fun r1 => cT rfl (q_r0 (cg ((sm_h hF (f := i_al 0 7) rfl).trans (q_al rfl ((sm_h hF (f := i_il 1 8) rfl).trans (q_il rfl ((sm_h hF (f := i_c (.int (0)) 9) rfl).trans (q_c ((sm_h hF (f := i_cv 7 3 0 f_X7_save 0 0 0 0 12) rfl).trans (q_cv rfl rfl rfl (vr (ob fun _ => ob fun r2 => cT rfl (q_r0 (cg ((sm_h hF (f := i_rv 0 0) rfl).trans (q_rv (rfl))) rfl)))))))))))) rfl))))))))))))
/-! X7_isValue -/
abbrev rm_X7_isValue : Room := { frames := 0, cells := 0, slots := 0, locals := 0 }
noncomputable def T_X7_isValue : sm_T := [(0, i_il 1 1), (1, i_z (fun x => x < 0) 16 4), (4, i_il 1 5), (5, i_al 0 6), (6, i_gf 7 9 9), (9, i_zz (fun x z => z ≤ x) 16 12), (12, i_c (.int (1)) 13), (13, i_g 17), (16, i_c (.int (0)) 17), (17, i_rz 0 0)]
set_option maxRecDepth 20000 in
theorem A_X7_isValue : sd_A yX7_isValue cX7_isValue 2 (some .boolean) rm_X7_isValue T_X7_isValue := by
  refine sd_c (pc := 0) (f := i_il 1 1) (s_iln (i := 1) dX7_isValue_0) ?_
  refine sd_c (pc := 1) (f := i_z (fun x => x < 0) 16 4) (s_if_lt (tgt := 16) dX7_isValue_1 (by decide)) ?_
  refine sd_c (pc := 4) (f := i_il 1 5) (s_iln (i := 1) dX7_isValue_4) ?_
  refine sd_c (pc := 5) (f := i_al 0 6) (s_aln (i := 0) dX7_isValue_5) ?_
  refine sd_c (pc := 6) (f := i_gf 7 9 9) (s_gf (ci := 7) (k := 9) dX7_isValue_6 rfl in_X7 (by decide) w787) ?_
  refine sd_c (pc := 9) (f := i_zz (fun x z => z ≤ x) 16 12) (s_ic_ge (tgt := 16) dX7_isValue_9 (by decide)) ?_
  refine sd_c (pc := 12) (f := i_c (.int (1)) 13) (s_iconst dX7_isValue_12 (by decide)) ?_
  refine sd_c (pc := 13) (f := i_g 17) (s_goto (tgt := 17) dX7_isValue_13 (by decide)) ?_
  refine sd_c (pc := 16) (f := i_c (.int (0)) 17) (s_iconst dX7_isValue_16 (by decide)) ?_
  refine sd_c (pc := 17) (f := i_rz 0 0) (s_rz dX7_isValue_17 rfl) ?_
  exact sd_n
noncomputable def f_X7_isValue : List Value → me_M → Option sm_R := sd_f 2 T_X7_isValue
theorem V_X7_isValue : sd_V yX7_isValue cX7_isValue 2 (some .boolean) rm_X7_isValue 1 f_X7_isValue := ⟨sd_met A_X7_isValue (by decide +kernel), w911, w8, by decide +kernel⟩
set_option maxRecDepth 20000 in
theorem e_X7_isValue (x0 : Nat) (x1 : Int32) (M : me_M) : f_X7_isValue [.ref x0, .int x1] M = if x1 < 0 then (if (0 : Int32) = 0 ∨ (0 : Int32) = 1 then (if 0 ≤ 0 ∧ 0 ≤ 0 then some (some (.int (0 : Int32)), M) else none) else none) else (me_obj M 7 x0).bind fun f1 => (f1[9]?).bind fun w2 => (v_int w2).bind fun y3 => if y3 ≤ x1 then (if (0 : Int32) = 0 ∨ (0 : Int32) = 1 then (if 0 ≤ 0 ∧ 0 ≤ 0 then some (some (.int (0 : Int32)), M) else none) else none) else if (1 : Int32) = 0 ∨ (1 : Int32) = 1 then (if 0 ≤ 0 ∧ 0 ≤ 0 then some (some (.int (1 : Int32)), M) else none) else none := (show f_X7_isValue [.ref x0, .int x1] M = sm T_X7_isValue (0, [(0, .ref x0), (1, .int x1)], [], M, 0, 0) from rfl).trans (by have hF := sm_fx A_X7_isValue; generalize sm T_X7_isValue = F_ at hF ⊢; exact (sm_h hF (f := i_il 1 1) rfl).trans (q_il rfl ((sm_h hF (f := i_z (fun x => x < 0) 16 4) rfl).trans (q_z (vi (ic ((sm_h hF (f := i_c (.int (0)) 17) rfl).trans (q_c ((sm_h hF (f := i_rz 0 0) rfl).trans (q_rz (vi (rfl)))))) ((sm_h hF (f := i_il 1 5) rfl).trans (q_il rfl ((sm_h hF (f := i_al 0 6) rfl).trans (q_al rfl ((sm_h hF (f := i_gf 7 9 9) rfl).trans (q_gf (vr (ob fun f1 => ob fun w2 => (sm_h hF (f := i_zz (fun x z => z ≤ x) 16 12) rfl).trans (q_zz (vi (ob fun y3 => ic ((sm_h hF (f := i_c (.int (0)) 17) rfl).trans (q_c ((sm_h hF (f := i_rz 0 0) rfl).trans (q_rz (vi (rfl)))))) ((sm_h hF (f := i_c (.int (1)) 13) rfl).trans (q_c ((sm_h hF (f := i_g 17) rfl).trans (q_g ((sm_h hF (f := i_rz 0 0) rfl).trans (q_rz (vi (rfl)))))))))))))))))))))))))
/-! X7_isRow -/
abbrev rm_X7_isRow : Room := { frames := 0, cells := 0, slots := 0, locals := 0 }
noncomputable def T_X7_isRow : sm_T := [(0, i_il 1 1), (1, i_z (fun x => x < 0) 16 4), (4, i_il 1 5), (5, i_al 0 6), (6, i_gf 7 10 9), (9, i_zz (fun x z => z ≤ x) 16 12), (12, i_c (.int (1)) 13), (13, i_g 17), (16, i_c (.int (0)) 17), (17, i_rz 0 0)]
set_option maxRecDepth 20000 in
theorem A_X7_isRow : sd_A yX7_isRow cX7_isRow 2 (some .boolean) rm_X7_isRow T_X7_isRow := by
  refine sd_c (pc := 0) (f := i_il 1 1) (s_iln (i := 1) dX7_isRow_0) ?_
  refine sd_c (pc := 1) (f := i_z (fun x => x < 0) 16 4) (s_if_lt (tgt := 16) dX7_isRow_1 (by decide)) ?_
  refine sd_c (pc := 4) (f := i_il 1 5) (s_iln (i := 1) dX7_isRow_4) ?_
  refine sd_c (pc := 5) (f := i_al 0 6) (s_aln (i := 0) dX7_isRow_5) ?_
  refine sd_c (pc := 6) (f := i_gf 7 10 9) (s_gf (ci := 7) (k := 10) dX7_isRow_6 rfl in_X7 (by decide) w788) ?_
  refine sd_c (pc := 9) (f := i_zz (fun x z => z ≤ x) 16 12) (s_ic_ge (tgt := 16) dX7_isRow_9 (by decide)) ?_
  refine sd_c (pc := 12) (f := i_c (.int (1)) 13) (s_iconst dX7_isRow_12 (by decide)) ?_
  refine sd_c (pc := 13) (f := i_g 17) (s_goto (tgt := 17) dX7_isRow_13 (by decide)) ?_
  refine sd_c (pc := 16) (f := i_c (.int (0)) 17) (s_iconst dX7_isRow_16 (by decide)) ?_
  refine sd_c (pc := 17) (f := i_rz 0 0) (s_rz dX7_isRow_17 rfl) ?_
  exact sd_n
noncomputable def f_X7_isRow : List Value → me_M → Option sm_R := sd_f 2 T_X7_isRow
theorem V_X7_isRow : sd_V yX7_isRow cX7_isRow 2 (some .boolean) rm_X7_isRow 1 f_X7_isRow := ⟨sd_met A_X7_isRow (by decide +kernel), w1032, w8, by decide +kernel⟩
set_option maxRecDepth 20000 in
theorem e_X7_isRow (x0 : Nat) (x1 : Int32) (M : me_M) : f_X7_isRow [.ref x0, .int x1] M = if x1 < 0 then (if (0 : Int32) = 0 ∨ (0 : Int32) = 1 then (if 0 ≤ 0 ∧ 0 ≤ 0 then some (some (.int (0 : Int32)), M) else none) else none) else (me_obj M 7 x0).bind fun f1 => (f1[10]?).bind fun w2 => (v_int w2).bind fun y3 => if y3 ≤ x1 then (if (0 : Int32) = 0 ∨ (0 : Int32) = 1 then (if 0 ≤ 0 ∧ 0 ≤ 0 then some (some (.int (0 : Int32)), M) else none) else none) else if (1 : Int32) = 0 ∨ (1 : Int32) = 1 then (if 0 ≤ 0 ∧ 0 ≤ 0 then some (some (.int (1 : Int32)), M) else none) else none := (show f_X7_isRow [.ref x0, .int x1] M = sm T_X7_isRow (0, [(0, .ref x0), (1, .int x1)], [], M, 0, 0) from rfl).trans (by have hF := sm_fx A_X7_isRow; generalize sm T_X7_isRow = F_ at hF ⊢; exact (sm_h hF (f := i_il 1 1) rfl).trans (q_il rfl ((sm_h hF (f := i_z (fun x => x < 0) 16 4) rfl).trans (q_z (vi (ic ((sm_h hF (f := i_c (.int (0)) 17) rfl).trans (q_c ((sm_h hF (f := i_rz 0 0) rfl).trans (q_rz (vi (rfl)))))) ((sm_h hF (f := i_il 1 5) rfl).trans (q_il rfl ((sm_h hF (f := i_al 0 6) rfl).trans (q_al rfl ((sm_h hF (f := i_gf 7 10 9) rfl).trans (q_gf (vr (ob fun f1 => ob fun w2 => (sm_h hF (f := i_zz (fun x z => z ≤ x) 16 12) rfl).trans (q_zz (vi (ob fun y3 => ic ((sm_h hF (f := i_c (.int (0)) 17) rfl).trans (q_c ((sm_h hF (f := i_rz 0 0) rfl).trans (q_rz (vi (rfl)))))) ((sm_h hF (f := i_c (.int (1)) 13) rfl).trans (q_c ((sm_h hF (f := i_g 17) rfl).trans (q_g ((sm_h hF (f := i_rz 0 0) rfl).trans (q_rz (vi (rfl)))))))))))))))))))))))))
/-! X7_isPlace -/
abbrev rm_X7_isPlace : Room := { frames := 1, cells := 0, slots := 0, locals := 21 }
noncomputable def T_X7_isPlace : sm_T := [(0, i_al 0 1), (1, i_il 1 2), (2, i_cv 7 2 1 f_X7_isRow 0 0 0 0 5), (5, i_z (fun x => x = 0) 26 8), (8, i_il 2 9), (9, i_z (fun x => x < 0) 26 12), (12, i_il 2 13), (13, i_al 0 14), (14, i_gf 7 11 17), (17, i_il 1 18), (18, i_ia 0 19), (19, i_zz (fun x z => z ≤ x) 26 22), (22, i_c (.int (1)) 23), (23, i_g 27), (26, i_c (.int (0)) 27), (27, i_rz 0 0)]
set_option maxRecDepth 20000 in
theorem A_X7_isPlace : sd_A yX7_isPlace cX7_isPlace 3 (some .boolean) rm_X7_isPlace T_X7_isPlace := by
  refine sd_c (pc := 0) (f := i_al 0 1) (s_aln (i := 0) dX7_isPlace_0) ?_
  refine sd_c (pc := 1) (f := i_il 1 2) (s_iln (i := 1) dX7_isPlace_1) ?_
  refine sd_c (pc := 2) (f := i_cv 7 2 1 f_X7_isRow 0 0 0 0 5) (s_cv (np := 1) (rk := 1) (ci := 7) (rmz := rm_X7_isRow) dX7_isPlace_2 V_X7_isRow w1029 w1031 wS_PlanFractionsModel_isRow__I_Z rfl (by decide)) ?_
  refine sd_c (pc := 5) (f := i_z (fun x => x = 0) 26 8) (s_if_eq (tgt := 26) dX7_isPlace_5 (by decide)) ?_
  refine sd_c (pc := 8) (f := i_il 2 9) (s_iln (i := 2) dX7_isPlace_8) ?_
  refine sd_c (pc := 9) (f := i_z (fun x => x < 0) 26 12) (s_if_lt (tgt := 26) dX7_isPlace_9 (by decide)) ?_
  refine sd_c (pc := 12) (f := i_il 2 13) (s_iln (i := 2) dX7_isPlace_12) ?_
  refine sd_c (pc := 13) (f := i_al 0 14) (s_aln (i := 0) dX7_isPlace_13) ?_
  refine sd_c (pc := 14) (f := i_gf 7 11 17) (s_gf (ci := 7) (k := 11) dX7_isPlace_14 rfl in_X7 (by decide) w789) ?_
  refine sd_c (pc := 17) (f := i_il 1 18) (s_iln (i := 1) dX7_isPlace_17) ?_
  refine sd_c (pc := 18) (f := i_ia 0 19) (s_iald dX7_isPlace_18) ?_
  refine sd_c (pc := 19) (f := i_zz (fun x z => z ≤ x) 26 22) (s_ic_ge (tgt := 26) dX7_isPlace_19 (by decide)) ?_
  refine sd_c (pc := 22) (f := i_c (.int (1)) 23) (s_iconst dX7_isPlace_22 (by decide)) ?_
  refine sd_c (pc := 23) (f := i_g 27) (s_goto (tgt := 27) dX7_isPlace_23 (by decide)) ?_
  refine sd_c (pc := 26) (f := i_c (.int (0)) 27) (s_iconst dX7_isPlace_26 (by decide)) ?_
  refine sd_c (pc := 27) (f := i_rz 0 0) (s_rz dX7_isPlace_27 rfl) ?_
  exact sd_n
noncomputable def f_X7_isPlace : List Value → me_M → Option sm_R := sd_f 3 T_X7_isPlace
theorem V_X7_isPlace : sd_V yX7_isPlace cX7_isPlace 3 (some .boolean) rm_X7_isPlace 2 f_X7_isPlace := ⟨sd_met A_X7_isPlace (by decide +kernel), w1028, w8, by decide +kernel⟩
set_option maxRecDepth 20000 in
theorem e_X7_isPlace (x0 : Nat) (x1 : Int32) (x2 : Int32) (M : me_M) : f_X7_isPlace [.ref x0, .int x1, .int x2] M = (me_obj M 7 x0).bind fun _ => (f_X7_isRow [.ref x0, .int x1] M).bind fun r1 => r1.1.bind fun v2 => (v_int v2).bind fun y3 => if y3 = 0 then (if (0 : Int32) = 0 ∨ (0 : Int32) = 1 then (if 0 ≤ 0 ∧ 0 ≤ 0 then some (some (.int (0 : Int32)), r1.2) else none) else none) else if x2 < 0 then (if (0 : Int32) = 0 ∨ (0 : Int32) = 1 then (if 0 ≤ 0 ∧ 0 ≤ 0 then some (some (.int (0 : Int32)), r1.2) else none) else none) else (me_obj r1.2 7 x0).bind fun f4 => (f4[11]?).bind fun w5 => (v_ref w5).bind fun a6 => (me_int r1.2 0 a6).bind fun f7 => if x1 < 0 ∨ f7.1 ≤ x1.toNatClampNeg then (none) else if (f7.2 x1.toNatClampNeg) ≤ x2 then (if (0 : Int32) = 0 ∨ (0 : Int32) = 1 then (if 0 ≤ 0 ∧ 0 ≤ 0 then some (some (.int (0 : Int32)), r1.2) else none) else none) else if (1 : Int32) = 0 ∨ (1 : Int32) = 1 then (if 0 ≤ 0 ∧ 0 ≤ 0 then some (some (.int (1 : Int32)), r1.2) else none) else none := (show f_X7_isPlace [.ref x0, .int x1, .int x2] M = sm T_X7_isPlace (0, [(0, .ref x0), (1, .int x1), (2, .int x2)], [], M, 0, 0) from rfl).trans (by have hF := sm_fx A_X7_isPlace; generalize sm T_X7_isPlace = F_ at hF ⊢; exact (sm_h hF (f := i_al 0 1) rfl).trans (q_al rfl ((sm_h hF (f := i_il 1 2) rfl).trans (q_il rfl ((sm_h hF (f := i_cv 7 2 1 f_X7_isRow 0 0 0 0 5) rfl).trans (q_cv rfl rfl rfl (vr (ob fun _ => ob fun r1 => cT rfl (q_r1 (ob fun v2 => ob fun y3 => (sm_h hF (f := i_z (fun x => x = 0) 26 8) rfl).trans (q_z (vi (ic ((sm_h hF (f := i_c (.int (0)) 27) rfl).trans (q_c ((sm_h hF (f := i_rz 0 0) rfl).trans (q_rz (vi (rfl)))))) ((sm_h hF (f := i_il 2 9) rfl).trans (q_il rfl ((sm_h hF (f := i_z (fun x => x < 0) 26 12) rfl).trans (q_z (vi (ic ((sm_h hF (f := i_c (.int (0)) 27) rfl).trans (q_c ((sm_h hF (f := i_rz 0 0) rfl).trans (q_rz (vi (rfl)))))) ((sm_h hF (f := i_il 2 13) rfl).trans (q_il rfl ((sm_h hF (f := i_al 0 14) rfl).trans (q_al rfl ((sm_h hF (f := i_gf 7 11 17) rfl).trans (q_gf (vr (ob fun f4 => ob fun w5 => (sm_h hF (f := i_il 1 18) rfl).trans (q_il rfl ((sm_h hF (f := i_ia 0 19) rfl).trans (q_ia (vi (ob fun a6 => ob fun f7 => ic (rfl) ((sm_h hF (f := i_zz (fun x z => z ≤ x) 26 22) rfl).trans (q_zz (vi (vi (ic ((sm_h hF (f := i_c (.int (0)) 27) rfl).trans (q_c ((sm_h hF (f := i_rz 0 0) rfl).trans (q_rz (vi (rfl)))))) ((sm_h hF (f := i_c (.int (1)) 23) rfl).trans (q_c ((sm_h hF (f := i_g 27) rfl).trans (q_g ((sm_h hF (f := i_rz 0 0) rfl).trans (q_rz (vi (rfl)))))))))))))))))))))))))))))))))))))))))))))
/-! X7_place -/
abbrev rm_X7_place : Room := { frames := 0, cells := 0, slots := 0, locals := 0 }
noncomputable def T_X7_place : sm_T := [(0, i_c (.int (240)) 3), (3, i_c (.int (10)) 5), (5, i_il 0 6), (6, i_bi (fun x z => x * z) 7), (7, i_bi (fun x z => x + z) 8), (8, i_il 1 9), (9, i_bi (fun x z => x + z) 10), (10, i_ri 0 0)]
set_option maxRecDepth 20000 in
theorem A_X7_place : sd_A yX7_place cX7_place 2 (some .int) rm_X7_place T_X7_place := by
  refine sd_c (pc := 0) (f := i_c (.int (240)) 3) (s_sipush dX7_place_0 (by decide)) ?_
  refine sd_c (pc := 3) (f := i_c (.int (10)) 5) (s_bipush dX7_place_3 (by decide)) ?_
  refine sd_c (pc := 5) (f := i_il 0 6) (s_iln (i := 0) dX7_place_5) ?_
  refine sd_c (pc := 6) (f := i_bi (fun x z => x * z) 7) (s_imul dX7_place_6) ?_
  refine sd_c (pc := 7) (f := i_bi (fun x z => x + z) 8) (s_iadd dX7_place_7) ?_
  refine sd_c (pc := 8) (f := i_il 1 9) (s_iln (i := 1) dX7_place_8) ?_
  refine sd_c (pc := 9) (f := i_bi (fun x z => x + z) 10) (s_iadd dX7_place_9) ?_
  refine sd_c (pc := 10) (f := i_ri 0 0) (s_ri dX7_place_10 rfl) ?_
  exact sd_n
noncomputable def f_X7_place : List Value → me_M → Option sm_R := sd_f 2 T_X7_place
theorem V_X7_place : sd_V yX7_place cX7_place 2 (some .int) rm_X7_place 2 f_X7_place := ⟨sd_met A_X7_place (by decide +kernel), w1020, w8, by decide +kernel⟩
set_option maxRecDepth 20000 in
theorem e_X7_place (x0 : Int32) (x1 : Int32) (M : me_M) : f_X7_place [.int x0, .int x1] M = if 0 ≤ 0 ∧ 0 ≤ 0 then some (some (.int (((240 : Int32) + ((10 : Int32) * x0)) + x1)), M) else none := (show f_X7_place [.int x0, .int x1] M = sm T_X7_place (0, [(0, .int x0), (1, .int x1)], [], M, 0, 0) from rfl).trans (by have hF := sm_fx A_X7_place; generalize sm T_X7_place = F_ at hF ⊢; exact (sm_h hF (f := i_c (.int (240)) 3) rfl).trans (q_c ((sm_h hF (f := i_c (.int (10)) 5) rfl).trans (q_c ((sm_h hF (f := i_il 0 6) rfl).trans (q_il rfl ((sm_h hF (f := i_bi (fun x z => x * z) 7) rfl).trans (q_bi (vi (vi ((sm_h hF (f := i_bi (fun x z => x + z) 8) rfl).trans (q_bi (vi (vi ((sm_h hF (f := i_il 1 9) rfl).trans (q_il rfl ((sm_h hF (f := i_bi (fun x z => x + z) 10) rfl).trans (q_bi (vi (vi ((sm_h hF (f := i_ri 0 0) rfl).trans (q_ri (vi (rfl))))))))))))))))))))))))
/-! X7_wide -/
abbrev rm_X7_wide : Room := { frames := 0, cells := 0, slots := 0, locals := 0 }
noncomputable def T_X7_wide : sm_T := [(0, i_al 0 1), (1, i_dup 2), (2, i_gf 7 12 5), (5, i_c (.int (1)) 6), (6, i_bi (fun x z => x + z) 7), (7, i_pi 7 12 10), (10, i_c (.int (-4)) 12), (12, i_ri 0 0)]
set_option maxRecDepth 20000 in
theorem A_X7_wide : sd_A yX7_wide cX7_wide 1 (some .int) rm_X7_wide T_X7_wide := by
  refine sd_c (pc := 0) (f := i_al 0 1) (s_aln (i := 0) dX7_wide_0) ?_
  refine sd_c (pc := 1) (f := i_dup 2) (s_dup dX7_wide_1) ?_
  refine sd_c (pc := 2) (f := i_gf 7 12 5) (s_gf (ci := 7) (k := 12) dX7_wide_2 rfl in_X7 (by decide) w790) ?_
  refine sd_c (pc := 5) (f := i_c (.int (1)) 6) (s_iconst dX7_wide_5 (by decide)) ?_
  refine sd_c (pc := 6) (f := i_bi (fun x z => x + z) 7) (s_iadd dX7_wide_6) ?_
  refine sd_c (pc := 7) (f := i_pi 7 12 10) (s_pi (ci := 7) (k := 12) dX7_wide_7 rfl in_X7 tyX7_ok nmX7 (by decide) w790 (Or.inl rfl) rfl) ?_
  refine sd_c (pc := 10) (f := i_c (.int (-4)) 12) (s_bipush dX7_wide_10 (by decide)) ?_
  refine sd_c (pc := 12) (f := i_ri 0 0) (s_ri dX7_wide_12 rfl) ?_
  exact sd_n
noncomputable def f_X7_wide : List Value → me_M → Option sm_R := sd_f 1 T_X7_wide
theorem V_X7_wide : sd_V yX7_wide cX7_wide 1 (some .int) rm_X7_wide 0 f_X7_wide := ⟨sd_met A_X7_wide (by decide +kernel), w895, w8, by decide +kernel⟩
set_option maxRecDepth 20000 in
theorem e_X7_wide (x0 : Nat) (M : me_M) : f_X7_wide [.ref x0] M = (me_obj M 7 x0).bind fun f1 => (f1[12]?).bind fun w2 => (v_int w2).bind fun y3 => (me_obj M 7 x0).bind fun f4 => if 12 < f4.length then (if 0 ≤ 0 ∧ 0 ≤ 0 then some (some (.int (-4 : Int32)), (me_set M x0 (.inr (7, f4.set 12 (.int (y3 + (1 : Int32))))))) else none) else none := (show f_X7_wide [.ref x0] M = sm T_X7_wide (0, [(0, .ref x0)], [], M, 0, 0) from rfl).trans (by have hF := sm_fx A_X7_wide; generalize sm T_X7_wide = F_ at hF ⊢; exact (sm_h hF (f := i_al 0 1) rfl).trans (q_al rfl ((sm_h hF (f := i_dup 2) rfl).trans (q_dup (vr ((sm_h hF (f := i_gf 7 12 5) rfl).trans (q_gf (vr (ob fun f1 => ob fun w2 => (sm_h hF (f := i_c (.int (1)) 6) rfl).trans (q_c ((sm_h hF (f := i_bi (fun x z => x + z) 7) rfl).trans (q_bi (ob fun y3 => vi ((sm_h hF (f := i_pi 7 12 10) rfl).trans (q_pi (vi (vr (ob fun f4 => ic ((sm_h hF (f := i_c (.int (-4)) 12) rfl).trans (q_c ((sm_h hF (f := i_ri 0 0) rfl).trans (q_ri (vi (rfl)))))) (rfl)))))))))))))))))))
/-! X7_comes -/
abbrev rm_X7_comes : Room := { frames := 1, cells := 0, slots := 0, locals := 23 }
noncomputable def T_X7_comes : sm_T := [(0, i_il 1 1), (1, i_z (fun x => x = 0) 4 9), (4, i_al 0 5), (5, i_cv 7 1 1 f_X7_wide 0 0 0 0 8), (8, i_ri 0 0), (9, i_al 0 10), (10, i_al 0 11), (11, i_gf 7 9 14), (14, i_c (.int (0)) 15), (15, i_cv 7 3 0 f_X7_save 0 0 0 0 18), (18, i_al 0 19), (19, i_dup 20), (20, i_gf 7 9 23), (23, i_c (.int (1)) 24), (24, i_bi (fun x z => x + z) 25), (25, i_pi 7 9 28), (28, i_al 0 29), (29, i_gf 7 9 32), (32, i_c (.int (1)) 33), (33, i_bi (fun x z => x - z) 34), (34, i_ri 0 0)]
set_option maxRecDepth 20000 in
theorem A_X7_comes : sd_A yX7_comes cX7_comes 2 (some .int) rm_X7_comes T_X7_comes := by
  refine sd_c (pc := 0) (f := i_il 1 1) (s_iln (i := 1) dX7_comes_0) ?_
  refine sd_c (pc := 1) (f := i_z (fun x => x = 0) 4 9) (s_if_ne (tgt := 9) dX7_comes_1 (by decide)) ?_
  refine sd_c (pc := 4) (f := i_al 0 5) (s_aln (i := 0) dX7_comes_4) ?_
  refine sd_c (pc := 5) (f := i_cv 7 1 1 f_X7_wide 0 0 0 0 8) (s_cv (np := 0) (rk := 1) (ci := 7) (rmz := rm_X7_wide) dX7_comes_5 V_X7_wide w892 w894 wS_PlanFractionsModel_wide___I rfl (by decide)) ?_
  refine sd_c (pc := 8) (f := i_ri 0 0) (s_ri dX7_comes_8 rfl) ?_
  refine sd_c (pc := 9) (f := i_al 0 10) (s_aln (i := 0) dX7_comes_9) ?_
  refine sd_c (pc := 10) (f := i_al 0 11) (s_aln (i := 0) dX7_comes_10) ?_
  refine sd_c (pc := 11) (f := i_gf 7 9 14) (s_gf (ci := 7) (k := 9) dX7_comes_11 rfl in_X7 (by decide) w787) ?_
  refine sd_c (pc := 14) (f := i_c (.int (0)) 15) (s_iconst dX7_comes_14 (by decide)) ?_
  refine sd_c (pc := 15) (f := i_cv 7 3 0 f_X7_save 0 0 0 0 18) (s_cv (np := 2) (rk := 0) (ci := 7) (rmz := rm_X7_save) dX7_comes_15 V_X7_save w896 w898 wS_PlanFractionsModel_save__II_V rfl (by decide)) ?_
  refine sd_c (pc := 18) (f := i_al 0 19) (s_aln (i := 0) dX7_comes_18) ?_
  refine sd_c (pc := 19) (f := i_dup 20) (s_dup dX7_comes_19) ?_
  refine sd_c (pc := 20) (f := i_gf 7 9 23) (s_gf (ci := 7) (k := 9) dX7_comes_20 rfl in_X7 (by decide) w787) ?_
  refine sd_c (pc := 23) (f := i_c (.int (1)) 24) (s_iconst dX7_comes_23 (by decide)) ?_
  refine sd_c (pc := 24) (f := i_bi (fun x z => x + z) 25) (s_iadd dX7_comes_24) ?_
  refine sd_c (pc := 25) (f := i_pi 7 9 28) (s_pi (ci := 7) (k := 9) dX7_comes_25 rfl in_X7 tyX7_ok nmX7 (by decide) w787 (Or.inl rfl) rfl) ?_
  refine sd_c (pc := 28) (f := i_al 0 29) (s_aln (i := 0) dX7_comes_28) ?_
  refine sd_c (pc := 29) (f := i_gf 7 9 32) (s_gf (ci := 7) (k := 9) dX7_comes_29 rfl in_X7 (by decide) w787) ?_
  refine sd_c (pc := 32) (f := i_c (.int (1)) 33) (s_iconst dX7_comes_32 (by decide)) ?_
  refine sd_c (pc := 33) (f := i_bi (fun x z => x - z) 34) (s_isub dX7_comes_33) ?_
  refine sd_c (pc := 34) (f := i_ri 0 0) (s_ri dX7_comes_34 rfl) ?_
  exact sd_n
noncomputable def f_X7_comes : List Value → me_M → Option sm_R := sd_f 2 T_X7_comes
theorem V_X7_comes : sd_V yX7_comes cX7_comes 2 (some .int) rm_X7_comes 1 f_X7_comes := ⟨sd_met A_X7_comes (by decide +kernel), w891, w8, by decide +kernel⟩
set_option maxRecDepth 20000 in
theorem e_X7_comes (x0 : Nat) (x1 : Int32) (M : me_M) : f_X7_comes [.ref x0, .int x1] M = if x1 = 0 then ((me_obj M 7 x0).bind fun _ => (f_X7_wide [.ref x0] M).bind fun r11 => r11.1.bind fun v12 => (v_int v12).bind fun y13 => if 0 ≤ 0 ∧ 0 ≤ 0 then some (some (.int y13), r11.2) else none) else (me_obj M 7 x0).bind fun f1 => (f1[9]?).bind fun w2 => (me_obj M 7 x0).bind fun _ => (f_X7_save [.ref x0, w2, .int (0 : Int32)] M).bind fun r3 => cond r3.1.isNone ((me_obj r3.2 7 x0).bind fun f4 => (f4[9]?).bind fun w5 => (v_int w5).bind fun y6 => (me_obj r3.2 7 x0).bind fun f7 => if 9 < f7.length then ((me_obj (me_set r3.2 x0 (.inr (7, f7.set 9 (.int (y6 + (1 : Int32)))))) 7 x0).bind fun f8 => (f8[9]?).bind fun w9 => (v_int w9).bind fun y10 => if 0 ≤ 0 ∧ 0 ≤ 0 then some (some (.int (y10 - (1 : Int32))), (me_set r3.2 x0 (.inr (7, f7.set 9 (.int (y6 + (1 : Int32))))))) else none) else none) none := (show f_X7_comes [.ref x0, .int x1] M = sm T_X7_comes (0, [(0, .ref x0), (1, .int x1)], [], M, 0, 0) from rfl).trans (by have hF := sm_fx A_X7_comes; generalize sm T_X7_comes = F_ at hF ⊢; exact (sm_h hF (f := i_il 1 1) rfl).trans (q_il rfl ((sm_h hF (f := i_z (fun x => x = 0) 4 9) rfl).trans (q_z (vi (ic ((sm_h hF (f := i_al 0 5) rfl).trans (q_al rfl ((sm_h hF (f := i_cv 7 1 1 f_X7_wide 0 0 0 0 8) rfl).trans (q_cv rfl rfl rfl (vr (ob fun _ => ob fun r11 => cT rfl (q_r1 (ob fun v12 => ob fun y13 => (sm_h hF (f := i_ri 0 0) rfl).trans (q_ri (vi (rfl))))))))))) ((sm_h hF (f := i_al 0 10) rfl).trans (q_al rfl ((sm_h hF (f := i_al 0 11) rfl).trans (q_al rfl ((sm_h hF (f := i_gf 7 9 14) rfl).trans (q_gf (vr (ob fun f1 => ob fun w2 => (sm_h hF (f := i_c (.int (0)) 15) rfl).trans (q_c ((sm_h hF (f := i_cv 7 3 0 f_X7_save 0 0 0 0 18) rfl).trans (q_cv rfl rfl rfl (vr (ob fun _ => ob fun r3 => cT rfl (q_r0 (cg ((sm_h hF (f := i_al 0 19) rfl).trans (q_al rfl ((sm_h hF (f := i_dup 20) rfl).trans (q_dup (vr ((sm_h hF (f := i_gf 7 9 23) rfl).trans (q_gf (vr (ob fun f4 => ob fun w5 => (sm_h hF (f := i_c (.int (1)) 24) rfl).trans (q_c ((sm_h hF (f := i_bi (fun x z => x + z) 25) rfl).trans (q_bi (ob fun y6 => vi ((sm_h hF (f := i_pi 7 9 28) rfl).trans (q_pi (vi (vr (ob fun f7 => ic ((sm_h hF (f := i_al 0 29) rfl).trans (q_al rfl ((sm_h hF (f := i_gf 7 9 32) rfl).trans (q_gf (vr (ob fun f8 => ob fun w9 => (sm_h hF (f := i_c (.int (1)) 33) rfl).trans (q_c ((sm_h hF (f := i_bi (fun x z => x - z) 34) rfl).trans (q_bi (ob fun y10 => vi ((sm_h hF (f := i_ri 0 0) rfl).trans (q_ri (vi (rfl)))))))))))))) (rfl))))))))))))))))))) rfl)))))))))))))))))))))
/-! X7_value -/
abbrev rm_X7_value : Room := { frames := 6, cells := 0, slots := 0, locals := 149 }
noncomputable def T_X7_value : sm_T := [(0, i_al 0 1), (1, i_c (.int (0)) 2), (2, i_pi 7 0 5), (5, i_ll 3 6), (6, i_c (.long (0)) 7), (7, i_lc 8), (8, i_z (fun x => x = 0) 11 17), (11, i_al 0 12), (12, i_c (.int (1)) 13), (13, i_cv 7 2 1 f_X7_throwing 0 0 0 0 16), (16, i_ri 0 0), (17, i_al 0 18), (18, i_gf 7 9 21), (21, i_c (.int (240)) 24), (24, i_zz (fun x z => x = z) 27 30), (27, i_c (.int (-3)) 29), (29, i_ri 0 0), (30, i_al 0 31), (31, i_c (.int (0)) 32), (32, i_ll 1 33), (33, i_c (.long (0)) 34), (34, i_lc 35), (35, i_z (fun x => 0 ≤ x) 43 38), (38, i_ll 1 39), (39, i_u22 (fun x => -x) 40), (40, i_w [(44, [0, 1, 3])] (i_g 44)), (43, i_w [(44, [0, 1, 3])] (i_ll 1 44)), (44, i_cv 7 3 0 f_X7_put 0 0 0 0 47), (47, i_al 0 48), (48, i_c (.int (1)) 49), (49, i_ll 3 50), (50, i_c (.long (0)) 51), (51, i_lc 52), (52, i_z (fun x => 0 ≤ x) 60 55), (55, i_ll 3 56), (56, i_u22 (fun x => -x) 57), (57, i_w [(61, [0, 1, 3])] (i_g 61)), (60, i_w [(61, [0, 1, 3])] (i_ll 3 61)), (61, i_cv 7 3 0 f_X7_put 0 0 0 0 64), (64, i_al 0 65), (65, i_gf 7 3 68), (68, i_c (.int (0)) 69), (69, i_ll 1 70), (70, i_c (.long (0)) 71), (71, i_lc 72), (72, i_z (fun x => 0 ≤ x) 79 75), (75, i_c (.int (1)) 76), (76, i_w [(80, [0, 3])] (i_g 80)), (79, i_w [(80, [0, 3])] (i_c (.int (0)) 80)), (80, i_ll 3 81), (81, i_c (.long (0)) 82), (82, i_lc 83), (83, i_z (fun x => 0 ≤ x) 90 86), (86, i_c (.int (1)) 87), (87, i_w [(91, [0])] (i_g 91)), (90, i_w [(91, [0])] (i_c (.int (0)) 91)), (91, i_zz (fun x z => x = z) 94 98), (94, i_c (.int (1)) 95), (95, i_w [(99, [0])] (i_g 99)), (98, i_w [(99, [0])] (i_c (.int (-1)) 99)), (99, i_ist 100), (100, i_al 0 101), (101, i_al 0 102), (102, i_c (.int (0)) 103), (103, i_cv 7 2 1 f_X7_least 0 0 0 0 106), (106, i_cv 7 2 1 f_X7_comes 0 0 0 0 109), (109, i_ri 0 0)]
set_option maxRecDepth 20000 in
theorem A_X7_value : sd_A yX7_value cX7_value 5 (some .int) rm_X7_value T_X7_value := by
  refine sd_c (pc := 0) (f := i_al 0 1) (s_aln (i := 0) dX7_value_0) ?_
  refine sd_c (pc := 1) (f := i_c (.int (0)) 2) (s_iconst dX7_value_1 (by decide)) ?_
  refine sd_c (pc := 2) (f := i_pi 7 0 5) (s_pi (ci := 7) (k := 0) dX7_value_2 rfl in_X7 tyX7_ok nmX7 (by decide) w778 (Or.inl rfl) rfl) ?_
  refine sd_c (pc := 5) (f := i_ll 3 6) (s_lln (i := 3) dX7_value_5) ?_
  refine sd_c (pc := 6) (f := i_c (.long (0)) 7) (s_lconst dX7_value_6 (by decide)) ?_
  refine sd_c (pc := 7) (f := i_lc 8) (s_lcmp dX7_value_7) ?_
  refine sd_c (pc := 8) (f := i_z (fun x => x = 0) 11 17) (s_if_ne (tgt := 17) dX7_value_8 (by decide)) ?_
  refine sd_c (pc := 11) (f := i_al 0 12) (s_aln (i := 0) dX7_value_11) ?_
  refine sd_c (pc := 12) (f := i_c (.int (1)) 13) (s_iconst dX7_value_12 (by decide)) ?_
  refine sd_c (pc := 13) (f := i_cv 7 2 1 f_X7_throwing 0 0 0 0 16) (s_cv (np := 1) (rk := 1) (ci := 7) (rmz := rm_X7_throwing) dX7_value_13 V_X7_throwing w835 w837 wS_PlanFractionsModel_throwing__I_I rfl (by decide)) ?_
  refine sd_c (pc := 16) (f := i_ri 0 0) (s_ri dX7_value_16 rfl) ?_
  refine sd_c (pc := 17) (f := i_al 0 18) (s_aln (i := 0) dX7_value_17) ?_
  refine sd_c (pc := 18) (f := i_gf 7 9 21) (s_gf (ci := 7) (k := 9) dX7_value_18 rfl in_X7 (by decide) w787) ?_
  refine sd_c (pc := 21) (f := i_c (.int (240)) 24) (s_sipush dX7_value_21 (by decide)) ?_
  refine sd_c (pc := 24) (f := i_zz (fun x z => x = z) 27 30) (s_ic_ne (tgt := 30) dX7_value_24 (by decide)) ?_
  refine sd_c (pc := 27) (f := i_c (.int (-3)) 29) (s_bipush dX7_value_27 (by decide)) ?_
  refine sd_c (pc := 29) (f := i_ri 0 0) (s_ri dX7_value_29 rfl) ?_
  refine sd_c (pc := 30) (f := i_al 0 31) (s_aln (i := 0) dX7_value_30) ?_
  refine sd_c (pc := 31) (f := i_c (.int (0)) 32) (s_iconst dX7_value_31 (by decide)) ?_
  refine sd_c (pc := 32) (f := i_ll 1 33) (s_lln (i := 1) dX7_value_32) ?_
  refine sd_c (pc := 33) (f := i_c (.long (0)) 34) (s_lconst dX7_value_33 (by decide)) ?_
  refine sd_c (pc := 34) (f := i_lc 35) (s_lcmp dX7_value_34) ?_
  refine sd_c (pc := 35) (f := i_z (fun x => 0 ≤ x) 43 38) (s_if_ge (tgt := 43) dX7_value_35 (by decide)) ?_
  refine sd_c (pc := 38) (f := i_ll 1 39) (s_lln (i := 1) dX7_value_38) ?_
  refine sd_c (pc := 39) (f := i_u22 (fun x => -x) 40) (s_lneg dX7_value_39) ?_
  refine sd_c (pc := 40) (f := i_w [(44, [0, 1, 3])] (i_g 44)) (s_w (s_goto (tgt := 44) dX7_value_40 (by decide))) ?_
  refine sd_c (pc := 43) (f := i_w [(44, [0, 1, 3])] (i_ll 1 44)) (s_w (s_lln (i := 1) dX7_value_43)) ?_
  refine sd_c (pc := 44) (f := i_cv 7 3 0 f_X7_put 0 0 0 0 47) (s_cv (np := 2) (rk := 0) (ci := 7) (rmz := rm_X7_put) dX7_value_44 V_X7_put w773 w775 wS_PlanFractionsModel_put__IJ_V rfl (by decide)) ?_
  refine sd_c (pc := 47) (f := i_al 0 48) (s_aln (i := 0) dX7_value_47) ?_
  refine sd_c (pc := 48) (f := i_c (.int (1)) 49) (s_iconst dX7_value_48 (by decide)) ?_
  refine sd_c (pc := 49) (f := i_ll 3 50) (s_lln (i := 3) dX7_value_49) ?_
  refine sd_c (pc := 50) (f := i_c (.long (0)) 51) (s_lconst dX7_value_50 (by decide)) ?_
  refine sd_c (pc := 51) (f := i_lc 52) (s_lcmp dX7_value_51) ?_
  refine sd_c (pc := 52) (f := i_z (fun x => 0 ≤ x) 60 55) (s_if_ge (tgt := 60) dX7_value_52 (by decide)) ?_
  refine sd_c (pc := 55) (f := i_ll 3 56) (s_lln (i := 3) dX7_value_55) ?_
  refine sd_c (pc := 56) (f := i_u22 (fun x => -x) 57) (s_lneg dX7_value_56) ?_
  refine sd_c (pc := 57) (f := i_w [(61, [0, 1, 3])] (i_g 61)) (s_w (s_goto (tgt := 61) dX7_value_57 (by decide))) ?_
  refine sd_c (pc := 60) (f := i_w [(61, [0, 1, 3])] (i_ll 3 61)) (s_w (s_lln (i := 3) dX7_value_60)) ?_
  refine sd_c (pc := 61) (f := i_cv 7 3 0 f_X7_put 0 0 0 0 64) (s_cv (np := 2) (rk := 0) (ci := 7) (rmz := rm_X7_put) dX7_value_61 V_X7_put w773 w775 wS_PlanFractionsModel_put__IJ_V rfl (by decide)) ?_
  refine sd_c (pc := 64) (f := i_al 0 65) (s_aln (i := 0) dX7_value_64) ?_
  refine sd_c (pc := 65) (f := i_gf 7 3 68) (s_gf (ci := 7) (k := 3) dX7_value_65 rfl in_X7 (by decide) w781) ?_
  refine sd_c (pc := 68) (f := i_c (.int (0)) 69) (s_iconst dX7_value_68 (by decide)) ?_
  refine sd_c (pc := 69) (f := i_ll 1 70) (s_lln (i := 1) dX7_value_69) ?_
  refine sd_c (pc := 70) (f := i_c (.long (0)) 71) (s_lconst dX7_value_70 (by decide)) ?_
  refine sd_c (pc := 71) (f := i_lc 72) (s_lcmp dX7_value_71) ?_
  refine sd_c (pc := 72) (f := i_z (fun x => 0 ≤ x) 79 75) (s_if_ge (tgt := 79) dX7_value_72 (by decide)) ?_
  refine sd_c (pc := 75) (f := i_c (.int (1)) 76) (s_iconst dX7_value_75 (by decide)) ?_
  refine sd_c (pc := 76) (f := i_w [(80, [0, 3])] (i_g 80)) (s_w (s_goto (tgt := 80) dX7_value_76 (by decide))) ?_
  refine sd_c (pc := 79) (f := i_w [(80, [0, 3])] (i_c (.int (0)) 80)) (s_w (s_iconst dX7_value_79 (by decide))) ?_
  refine sd_c (pc := 80) (f := i_ll 3 81) (s_lln (i := 3) dX7_value_80) ?_
  refine sd_c (pc := 81) (f := i_c (.long (0)) 82) (s_lconst dX7_value_81 (by decide)) ?_
  refine sd_c (pc := 82) (f := i_lc 83) (s_lcmp dX7_value_82) ?_
  refine sd_c (pc := 83) (f := i_z (fun x => 0 ≤ x) 90 86) (s_if_ge (tgt := 90) dX7_value_83 (by decide)) ?_
  refine sd_c (pc := 86) (f := i_c (.int (1)) 87) (s_iconst dX7_value_86 (by decide)) ?_
  refine sd_c (pc := 87) (f := i_w [(91, [0])] (i_g 91)) (s_w (s_goto (tgt := 91) dX7_value_87 (by decide))) ?_
  refine sd_c (pc := 90) (f := i_w [(91, [0])] (i_c (.int (0)) 91)) (s_w (s_iconst dX7_value_90 (by decide))) ?_
  refine sd_c (pc := 91) (f := i_zz (fun x z => x = z) 94 98) (s_ic_ne (tgt := 98) dX7_value_91 (by decide)) ?_
  refine sd_c (pc := 94) (f := i_c (.int (1)) 95) (s_iconst dX7_value_94 (by decide)) ?_
  refine sd_c (pc := 95) (f := i_w [(99, [0])] (i_g 99)) (s_w (s_goto (tgt := 99) dX7_value_95 (by decide))) ?_
  refine sd_c (pc := 98) (f := i_w [(99, [0])] (i_c (.int (-1)) 99)) (s_w (s_iconst dX7_value_98 (by decide))) ?_
  refine sd_c (pc := 99) (f := i_ist 100) (s_ist dX7_value_99) ?_
  refine sd_c (pc := 100) (f := i_al 0 101) (s_aln (i := 0) dX7_value_100) ?_
  refine sd_c (pc := 101) (f := i_al 0 102) (s_aln (i := 0) dX7_value_101) ?_
  refine sd_c (pc := 102) (f := i_c (.int (0)) 103) (s_iconst dX7_value_102 (by decide)) ?_
  refine sd_c (pc := 103) (f := i_cv 7 2 1 f_X7_least 0 0 0 0 106) (s_cv (np := 1) (rk := 1) (ci := 7) (rmz := rm_X7_least) dX7_value_103 V_X7_least w839 w841 wS_PlanFractionsModel_least__I_Z rfl (by decide)) ?_
  refine sd_c (pc := 106) (f := i_cv 7 2 1 f_X7_comes 0 0 0 0 109) (s_cv (np := 1) (rk := 1) (ci := 7) (rmz := rm_X7_comes) dX7_value_106 V_X7_comes w888 w890 wS_PlanFractionsModel_comes__Z_I rfl (by decide)) ?_
  refine sd_c (pc := 109) (f := i_ri 0 0) (s_ri dX7_value_109 rfl) ?_
  exact sd_n
noncomputable def f_X7_value : List Value → me_M → Option sm_R := sd_f 5 T_X7_value
theorem V_X7_value : sd_V yX7_value cX7_value 5 (some .int) rm_X7_value 2 f_X7_value := ⟨sd_met A_X7_value (by decide +kernel), w834, w8, by decide +kernel⟩
set_option maxRecDepth 20000 in
theorem e_X7_value (x0 : Nat) (x1 : Int64) (x3 : Int64) (M : me_M) : f_X7_value [.ref x0, .long x1, .long x3] M = (me_obj M 7 x0).bind fun f1 => if 0 < f1.length then (if (lg_cmp x3 (0 : Int64)) = 0 then ((me_obj (me_set M x0 (.inr (7, f1.set 0 (.int (0 : Int32))))) 7 x0).bind fun _ => (f_X7_throwing [.ref x0, .int (1 : Int32)] (me_set M x0 (.inr (7, f1.set 0 (.int (0 : Int32)))))).bind fun r5 => r5.1.bind fun v6 => (v_int v6).bind fun y7 => if 0 ≤ 0 ∧ 0 ≤ 0 then some (some (.int y7), r5.2) else none) else (me_obj (me_set M x0 (.inr (7, f1.set 0 (.int (0 : Int32))))) 7 x0).bind fun f2 => (f2[9]?).bind fun w3 => (v_int w3).bind fun y4 => if y4 = (240 : Int32) then (if 0 ≤ 0 ∧ 0 ≤ 0 then some (some (.int (-3 : Int32)), (me_set M x0 (.inr (7, f1.set 0 (.int (0 : Int32)))))) else none) else if 0 ≤ (lg_cmp x1 (0 : Int64)) then (sm T_X7_value (44, [(0, .ref x0), (1, .long x1), (3, .long x3)], [.long x1, .int (0 : Int32), .ref x0], (me_set M x0 (.inr (7, f1.set 0 (.int (0 : Int32))))), 0, 0)) else sm T_X7_value (44, [(0, .ref x0), (1, .long x1), (3, .long x3)], [.long (-x1), .int (0 : Int32), .ref x0], (me_set M x0 (.inr (7, f1.set 0 (.int (0 : Int32))))), 0, 0)) else none := (show f_X7_value [.ref x0, .long x1, .long x3] M = sm T_X7_value (0, [(0, .ref x0), (1, .long x1), (3, .long x3)], [], M, 0, 0) from rfl).trans (by have hF := sm_fx A_X7_value; generalize sm T_X7_value = F_ at hF ⊢; exact (sm_h hF (f := i_al 0 1) rfl).trans (q_al rfl ((sm_h hF (f := i_c (.int (0)) 2) rfl).trans (q_c ((sm_h hF (f := i_pi 7 0 5) rfl).trans (q_pi (vi (vr (ob fun f1 => ic ((sm_h hF (f := i_ll 3 6) rfl).trans (q_ll rfl ((sm_h hF (f := i_c (.long (0)) 7) rfl).trans (q_c ((sm_h hF (f := i_lc 8) rfl).trans (q_lc (vl (vl ((sm_h hF (f := i_z (fun x => x = 0) 11 17) rfl).trans (q_z (vi (ic ((sm_h hF (f := i_al 0 12) rfl).trans (q_al rfl ((sm_h hF (f := i_c (.int (1)) 13) rfl).trans (q_c ((sm_h hF (f := i_cv 7 2 1 f_X7_throwing 0 0 0 0 16) rfl).trans (q_cv rfl rfl rfl (vr (ob fun _ => ob fun r5 => cT rfl (q_r1 (ob fun v6 => ob fun y7 => (sm_h hF (f := i_ri 0 0) rfl).trans (q_ri (vi (rfl))))))))))))) ((sm_h hF (f := i_al 0 18) rfl).trans (q_al rfl ((sm_h hF (f := i_gf 7 9 21) rfl).trans (q_gf (vr (ob fun f2 => ob fun w3 => (sm_h hF (f := i_c (.int (240)) 24) rfl).trans (q_c ((sm_h hF (f := i_zz (fun x z => x = z) 27 30) rfl).trans (q_zz (ob fun y4 => vi (ic ((sm_h hF (f := i_c (.int (-3)) 29) rfl).trans (q_c ((sm_h hF (f := i_ri 0 0) rfl).trans (q_ri (vi (rfl)))))) ((sm_h hF (f := i_al 0 31) rfl).trans (q_al rfl ((sm_h hF (f := i_c (.int (0)) 32) rfl).trans (q_c ((sm_h hF (f := i_ll 1 33) rfl).trans (q_ll rfl ((sm_h hF (f := i_c (.long (0)) 34) rfl).trans (q_c ((sm_h hF (f := i_lc 35) rfl).trans (q_lc (vl (vl ((sm_h hF (f := i_z (fun x => 0 ≤ x) 43 38) rfl).trans (q_z (vi (ic ((sm_h hF (f := i_w [(44, [0, 1, 3])] (i_ll 1 44)) rfl).trans (q_w (q_ll rfl (rfl)))) ((sm_h hF (f := i_ll 1 39) rfl).trans (q_ll rfl ((sm_h hF (f := i_u22 (fun x => -x) 40) rfl).trans (q_u22 (vl ((sm_h hF (f := i_w [(44, [0, 1, 3])] (i_g 44)) rfl).trans (q_w (q_g (rfl)))))))))))))))))))))))))))))))))))))))))))))))) (rfl))))))))))
set_option maxRecDepth 20000 in
theorem e_X7_value_44 (x0 : Nat) (x1 : Int64) (x3 : Int64) (s0 : Int64) (s1 : Int32) (s2 : Nat) (M : me_M) : sm T_X7_value (44, [(0, .ref x0), (1, .long x1), (3, .long x3)], [.long s0, .int s1, .ref s2], M, 0, 0) = (me_obj M 7 s2).bind fun _ => (f_X7_put [.ref s2, .int s1, .long s0] M).bind fun r1 => cond r1.1.isNone (if 0 ≤ (lg_cmp x3 (0 : Int64)) then (sm T_X7_value (61, [(0, .ref x0), (1, .long x1), (3, .long x3)], [.long x3, .int (1 : Int32), .ref x0], r1.2, 0, 0)) else sm T_X7_value (61, [(0, .ref x0), (1, .long x1), (3, .long x3)], [.long (-x3), .int (1 : Int32), .ref x0], r1.2, 0, 0)) none := (by have hF := sm_fx A_X7_value; generalize sm T_X7_value = F_ at hF ⊢; exact (sm_h hF (f := i_cv 7 3 0 f_X7_put 0 0 0 0 47) rfl).trans (q_cv rfl rfl rfl (vr (ob fun _ => ob fun r1 => cT rfl (q_r0 (cg ((sm_h hF (f := i_al 0 48) rfl).trans (q_al rfl ((sm_h hF (f := i_c (.int (1)) 49) rfl).trans (q_c ((sm_h hF (f := i_ll 3 50) rfl).trans (q_ll rfl ((sm_h hF (f := i_c (.long (0)) 51) rfl).trans (q_c ((sm_h hF (f := i_lc 52) rfl).trans (q_lc (vl (vl ((sm_h hF (f := i_z (fun x => 0 ≤ x) 60 55) rfl).trans (q_z (vi (ic ((sm_h hF (f := i_w [(61, [0, 1, 3])] (i_ll 3 61)) rfl).trans (q_w (q_ll rfl (rfl)))) ((sm_h hF (f := i_ll 3 56) rfl).trans (q_ll rfl ((sm_h hF (f := i_u22 (fun x => -x) 57) rfl).trans (q_u22 (vl ((sm_h hF (f := i_w [(61, [0, 1, 3])] (i_g 61)) rfl).trans (q_w (q_g (rfl))))))))))))))))))))))))) rfl))))))
set_option maxRecDepth 20000 in
theorem e_X7_value_61 (x0 : Nat) (x1 : Int64) (x3 : Int64) (s0 : Int64) (s1 : Int32) (s2 : Nat) (M : me_M) : sm T_X7_value (61, [(0, .ref x0), (1, .long x1), (3, .long x3)], [.long s0, .int s1, .ref s2], M, 0, 0) = (me_obj M 7 s2).bind fun _ => (f_X7_put [.ref s2, .int s1, .long s0] M).bind fun r1 => cond r1.1.isNone ((me_obj r1.2 7 x0).bind fun f2 => (f2[3]?).bind fun w3 => if 0 ≤ (lg_cmp x1 (0 : Int64)) then (sm T_X7_value (80, [(0, .ref x0), (3, .long x3)], [.int (0 : Int32), .int (0 : Int32), w3], r1.2, 0, 0)) else sm T_X7_value (80, [(0, .ref x0), (3, .long x3)], [.int (1 : Int32), .int (0 : Int32), w3], r1.2, 0, 0)) none := (by have hF := sm_fx A_X7_value; generalize sm T_X7_value = F_ at hF ⊢; exact (sm_h hF (f := i_cv 7 3 0 f_X7_put 0 0 0 0 64) rfl).trans (q_cv rfl rfl rfl (vr (ob fun _ => ob fun r1 => cT rfl (q_r0 (cg ((sm_h hF (f := i_al 0 65) rfl).trans (q_al rfl ((sm_h hF (f := i_gf 7 3 68) rfl).trans (q_gf (vr (ob fun f2 => ob fun w3 => (sm_h hF (f := i_c (.int (0)) 69) rfl).trans (q_c ((sm_h hF (f := i_ll 1 70) rfl).trans (q_ll rfl ((sm_h hF (f := i_c (.long (0)) 71) rfl).trans (q_c ((sm_h hF (f := i_lc 72) rfl).trans (q_lc (vl (vl ((sm_h hF (f := i_z (fun x => 0 ≤ x) 79 75) rfl).trans (q_z (vi (ic ((sm_h hF (f := i_w [(80, [0, 3])] (i_c (.int (0)) 80)) rfl).trans (q_w (q_c (rfl)))) ((sm_h hF (f := i_c (.int (1)) 76) rfl).trans (q_c ((sm_h hF (f := i_w [(80, [0, 3])] (i_g 80)) rfl).trans (q_w (q_g (rfl))))))))))))))))))))))))) rfl))))))
set_option maxRecDepth 20000 in
theorem e_X7_value_80 (x0 : Nat) (x3 : Int64) (s0 : Int32) (s1 : Int32) (s2 : Value) (M : me_M) : sm T_X7_value (80, [(0, .ref x0), (3, .long x3)], [.int s0, .int s1, s2], M, 0, 0) = if 0 ≤ (lg_cmp x3 (0 : Int64)) then (sm T_X7_value (91, [(0, .ref x0)], [.int (0 : Int32), .int s0, .int s1, s2], M, 0, 0)) else sm T_X7_value (91, [(0, .ref x0)], [.int (1 : Int32), .int s0, .int s1, s2], M, 0, 0) := (by have hF := sm_fx A_X7_value; generalize sm T_X7_value = F_ at hF ⊢; exact (sm_h hF (f := i_ll 3 81) rfl).trans (q_ll rfl ((sm_h hF (f := i_c (.long (0)) 82) rfl).trans (q_c ((sm_h hF (f := i_lc 83) rfl).trans (q_lc (vl (vl ((sm_h hF (f := i_z (fun x => 0 ≤ x) 90 86) rfl).trans (q_z (vi (ic ((sm_h hF (f := i_w [(91, [0])] (i_c (.int (0)) 91)) rfl).trans (q_w (q_c (rfl)))) ((sm_h hF (f := i_c (.int (1)) 87) rfl).trans (q_c ((sm_h hF (f := i_w [(91, [0])] (i_g 91)) rfl).trans (q_w (q_g (rfl))))))))))))))))))
set_option maxRecDepth 20000 in
theorem e_X7_value_91 (x0 : Nat) (s0 : Int32) (s1 : Int32) (s2 : Int32) (s3 : Value) (M : me_M) : sm T_X7_value (91, [(0, .ref x0)], [.int s0, .int s1, .int s2, s3], M, 0, 0) = if s1 = s0 then (sm T_X7_value (99, [(0, .ref x0)], [.int (1 : Int32), .int s2, s3], M, 0, 0)) else sm T_X7_value (99, [(0, .ref x0)], [.int (-1 : Int32), .int s2, s3], M, 0, 0) := (by have hF := sm_fx A_X7_value; generalize sm T_X7_value = F_ at hF ⊢; exact (sm_h hF (f := i_zz (fun x z => x = z) 94 98) rfl).trans (q_zz (vi (vi (ic ((sm_h hF (f := i_c (.int (1)) 95) rfl).trans (q_c ((sm_h hF (f := i_w [(99, [0])] (i_g 99)) rfl).trans (q_w (q_g (rfl)))))) ((sm_h hF (f := i_w [(99, [0])] (i_c (.int (-1)) 99)) rfl).trans (q_w (q_c (rfl)))))))))
set_option maxRecDepth 20000 in
theorem e_X7_value_99 (x0 : Nat) (s0 : Int32) (s1 : Int32) (s2 : Value) (M : me_M) : sm T_X7_value (99, [(0, .ref x0)], [.int s0, .int s1, s2], M, 0, 0) = (v_ref s2).bind fun a1 => (me_int M 0 a1).bind fun f2 => if s1 < 0 ∨ f2.1 ≤ s1.toNatClampNeg then (none) else (me_obj (me_set M a1 (.inl (0, f2.1, .inl (upd f2.2 s1.toNatClampNeg s0)))) 7 x0).bind fun _ => (f_X7_least [.ref x0, .int (0 : Int32)] (me_set M a1 (.inl (0, f2.1, .inl (upd f2.2 s1.toNatClampNeg s0))))).bind fun r3 => r3.1.bind fun v4 => (v_int v4).bind fun y5 => (me_obj r3.2 7 x0).bind fun _ => (f_X7_comes [.ref x0, .int y5] r3.2).bind fun r6 => r6.1.bind fun v7 => (v_int v7).bind fun y8 => if 0 ≤ 0 ∧ 0 ≤ 0 then some (some (.int y8), r6.2) else none := (by have hF := sm_fx A_X7_value; generalize sm T_X7_value = F_ at hF ⊢; exact (sm_h hF (f := i_ist 100) rfl).trans (q_ist (vi (vi (ob fun a1 => ob fun f2 => ic (rfl) ((sm_h hF (f := i_al 0 101) rfl).trans (q_al rfl ((sm_h hF (f := i_al 0 102) rfl).trans (q_al rfl ((sm_h hF (f := i_c (.int (0)) 103) rfl).trans (q_c ((sm_h hF (f := i_cv 7 2 1 f_X7_least 0 0 0 0 106) rfl).trans (q_cv rfl rfl rfl (vr (ob fun _ => ob fun r3 => cT rfl (q_r1 (ob fun v4 => ob fun y5 => (sm_h hF (f := i_cv 7 2 1 f_X7_comes 0 0 0 0 109) rfl).trans (q_cv rfl rfl rfl (vr (ob fun _ => ob fun r6 => cT rfl (q_r1 (ob fun v7 => ob fun y8 => (sm_h hF (f := i_ri 0 0) rfl).trans (q_ri (vi (rfl)))))))))))))))))))))))))
/-! X7_two -/
abbrev rm_X7_two : Room := { frames := 7, cells := 0, slots := 0, locals := 175 }
noncomputable def T_X7_two : sm_T := [(0, i_al 0 1), (1, i_c (.int (0)) 2), (2, i_pi 7 0 5), (5, i_al 0 6), (6, i_il 2 7), (7, i_cv 7 2 1 f_X7_isValue 0 0 0 0 10), (10, i_z (fun x => x = 0) 21 13), (13, i_al 0 14), (14, i_il 3 15), (15, i_cv 7 2 1 f_X7_isValue 0 0 0 0 18), (18, i_z (fun x => x = 0) 21 24), (21, i_c (.int (-2)) 23), (23, i_ri 0 0), (24, i_il 1 25), (25, i_c (.int (3)) 26), (26, i_w [(34, [0, 1, 2, 3])] (i_zz (fun x z => x = z) 34 29)), (29, i_il 1 30), (30, i_c (.int (4)) 31), (31, i_w [(34, [0, 1, 2, 3]), (49, [0, 1, 2, 3])] (i_zz (fun x z => x = z) 34 49)), (34, i_al 0 35), (35, i_gf 7 4 38), (38, i_il 3 39), (39, i_ia 0 40), (40, i_w [(49, [0, 1, 2, 3])] (i_z (fun x => x = 0) 43 49)), (43, i_al 0 44), (44, i_c (.int (1)) 45), (45, i_cv 7 2 1 f_X7_throwing 0 0 0 0 48), (48, i_ri 0 0), (49, i_al 0 50), (50, i_gf 7 9 53), (53, i_c (.int (240)) 56), (56, i_zz (fun x z => x = z) 59 62), (59, i_c (.int (-3)) 61), (61, i_ri 0 0), (62, i_al 0 63), (63, i_c (.int (1)) 64), (64, i_il 2 65), (65, i_cv 7 3 0 f_X7_load 0 0 0 0 68), (68, i_al 0 69), (69, i_c (.int (2)) 70), (70, i_il 3 71), (71, i_cv 7 3 0 f_X7_load 0 0 0 0 74), (74, i_w [(75, [0])] (i_il 1 75)), (75, i_ts 0 4 [108, 120, 132, 143, 154] 165), (108, i_al 0 109), (109, i_al 0 110), (110, i_c (.int (1)) 111), (111, i_c (.int (2)) 112), (112, i_c (.int (0)) 113), (113, i_cv 7 4 1 f_X7_sum 0 0 0 0 116), (116, i_cv 7 2 1 f_X7_comes 0 0 0 0 119), (119, i_ri 0 0), (120, i_al 0 121), (121, i_al 0 122), (122, i_c (.int (1)) 123), (123, i_c (.int (2)) 124), (124, i_c (.int (1)) 125), (125, i_cv 7 4 1 f_X7_sum 0 0 0 0 128), (128, i_cv 7 2 1 f_X7_comes 0 0 0 0 131), (131, i_ri 0 0), (132, i_al 0 133), (133, i_al 0 134), (134, i_c (.int (1)) 135), (135, i_c (.int (2)) 136), (136, i_cv 7 3 1 f_X7_product 0 0 0 0 139), (139, i_cv 7 2 1 f_X7_comes 0 0 0 0 142), (142, i_ri 0 0), (143, i_al 0 144), (144, i_al 0 145), (145, i_c (.int (1)) 146), (146, i_c (.int (2)) 147), (147, i_cv 7 3 1 f_X7_quotient 0 0 0 0 150), (150, i_cv 7 2 1 f_X7_comes 0 0 0 0 153), (153, i_ri 0 0), (154, i_al 0 155), (155, i_al 0 156), (156, i_c (.int (1)) 157), (157, i_c (.int (2)) 158), (158, i_cv 7 3 1 f_X7_left 0 0 0 0 161), (161, i_cv 7 2 1 f_X7_comes 0 0 0 0 164), (164, i_ri 0 0), (165, i_al 0 166), (166, i_al 0 167), (167, i_c (.int (1)) 168), (168, i_c (.int (2)) 169), (169, i_cv 7 3 1 f_X7_common 0 0 0 0 172), (172, i_cv 7 2 1 f_X7_comes 0 0 0 0 175), (175, i_ri 0 0)]
set_option maxRecDepth 20000 in
theorem A_X7_two : sd_A yX7_two cX7_two 4 (some .int) rm_X7_two T_X7_two := by
  refine sd_c (pc := 0) (f := i_al 0 1) (s_aln (i := 0) dX7_two_0) ?_
  refine sd_c (pc := 1) (f := i_c (.int (0)) 2) (s_iconst dX7_two_1 (by decide)) ?_
  refine sd_c (pc := 2) (f := i_pi 7 0 5) (s_pi (ci := 7) (k := 0) dX7_two_2 rfl in_X7 tyX7_ok nmX7 (by decide) w778 (Or.inl rfl) rfl) ?_
  refine sd_c (pc := 5) (f := i_al 0 6) (s_aln (i := 0) dX7_two_5) ?_
  refine sd_c (pc := 6) (f := i_il 2 7) (s_iln (i := 2) dX7_two_6) ?_
  refine sd_c (pc := 7) (f := i_cv 7 2 1 f_X7_isValue 0 0 0 0 10) (s_cv (np := 1) (rk := 1) (ci := 7) (rmz := rm_X7_isValue) dX7_two_7 V_X7_isValue w908 w910 wS_PlanFractionsModel_isValue__I_Z rfl (by decide)) ?_
  refine sd_c (pc := 10) (f := i_z (fun x => x = 0) 21 13) (s_if_eq (tgt := 21) dX7_two_10 (by decide)) ?_
  refine sd_c (pc := 13) (f := i_al 0 14) (s_aln (i := 0) dX7_two_13) ?_
  refine sd_c (pc := 14) (f := i_il 3 15) (s_iln (i := 3) dX7_two_14) ?_
  refine sd_c (pc := 15) (f := i_cv 7 2 1 f_X7_isValue 0 0 0 0 18) (s_cv (np := 1) (rk := 1) (ci := 7) (rmz := rm_X7_isValue) dX7_two_15 V_X7_isValue w908 w910 wS_PlanFractionsModel_isValue__I_Z rfl (by decide)) ?_
  refine sd_c (pc := 18) (f := i_z (fun x => x = 0) 21 24) (s_if_ne (tgt := 24) dX7_two_18 (by decide)) ?_
  refine sd_c (pc := 21) (f := i_c (.int (-2)) 23) (s_bipush dX7_two_21 (by decide)) ?_
  refine sd_c (pc := 23) (f := i_ri 0 0) (s_ri dX7_two_23 rfl) ?_
  refine sd_c (pc := 24) (f := i_il 1 25) (s_iln (i := 1) dX7_two_24) ?_
  refine sd_c (pc := 25) (f := i_c (.int (3)) 26) (s_iconst dX7_two_25 (by decide)) ?_
  refine sd_c (pc := 26) (f := i_w [(34, [0, 1, 2, 3])] (i_zz (fun x z => x = z) 34 29)) (s_w (s_ic_eq (tgt := 34) dX7_two_26 (by decide))) ?_
  refine sd_c (pc := 29) (f := i_il 1 30) (s_iln (i := 1) dX7_two_29) ?_
  refine sd_c (pc := 30) (f := i_c (.int (4)) 31) (s_iconst dX7_two_30 (by decide)) ?_
  refine sd_c (pc := 31) (f := i_w [(34, [0, 1, 2, 3]), (49, [0, 1, 2, 3])] (i_zz (fun x z => x = z) 34 49)) (s_w (s_ic_ne (tgt := 49) dX7_two_31 (by decide))) ?_
  refine sd_c (pc := 34) (f := i_al 0 35) (s_aln (i := 0) dX7_two_34) ?_
  refine sd_c (pc := 35) (f := i_gf 7 4 38) (s_gf (ci := 7) (k := 4) dX7_two_35 rfl in_X7 (by decide) w782) ?_
  refine sd_c (pc := 38) (f := i_il 3 39) (s_iln (i := 3) dX7_two_38) ?_
  refine sd_c (pc := 39) (f := i_ia 0 40) (s_iald dX7_two_39) ?_
  refine sd_c (pc := 40) (f := i_w [(49, [0, 1, 2, 3])] (i_z (fun x => x = 0) 43 49)) (s_w (s_if_ne (tgt := 49) dX7_two_40 (by decide))) ?_
  refine sd_c (pc := 43) (f := i_al 0 44) (s_aln (i := 0) dX7_two_43) ?_
  refine sd_c (pc := 44) (f := i_c (.int (1)) 45) (s_iconst dX7_two_44 (by decide)) ?_
  refine sd_c (pc := 45) (f := i_cv 7 2 1 f_X7_throwing 0 0 0 0 48) (s_cv (np := 1) (rk := 1) (ci := 7) (rmz := rm_X7_throwing) dX7_two_45 V_X7_throwing w835 w837 wS_PlanFractionsModel_throwing__I_I rfl (by decide)) ?_
  refine sd_c (pc := 48) (f := i_ri 0 0) (s_ri dX7_two_48 rfl) ?_
  refine sd_c (pc := 49) (f := i_al 0 50) (s_aln (i := 0) dX7_two_49) ?_
  refine sd_c (pc := 50) (f := i_gf 7 9 53) (s_gf (ci := 7) (k := 9) dX7_two_50 rfl in_X7 (by decide) w787) ?_
  refine sd_c (pc := 53) (f := i_c (.int (240)) 56) (s_sipush dX7_two_53 (by decide)) ?_
  refine sd_c (pc := 56) (f := i_zz (fun x z => x = z) 59 62) (s_ic_ne (tgt := 62) dX7_two_56 (by decide)) ?_
  refine sd_c (pc := 59) (f := i_c (.int (-3)) 61) (s_bipush dX7_two_59 (by decide)) ?_
  refine sd_c (pc := 61) (f := i_ri 0 0) (s_ri dX7_two_61 rfl) ?_
  refine sd_c (pc := 62) (f := i_al 0 63) (s_aln (i := 0) dX7_two_62) ?_
  refine sd_c (pc := 63) (f := i_c (.int (1)) 64) (s_iconst dX7_two_63 (by decide)) ?_
  refine sd_c (pc := 64) (f := i_il 2 65) (s_iln (i := 2) dX7_two_64) ?_
  refine sd_c (pc := 65) (f := i_cv 7 3 0 f_X7_load 0 0 0 0 68) (s_cv (np := 2) (rk := 0) (ci := 7) (rmz := rm_X7_load) dX7_two_65 V_X7_load w912 w914 wS_PlanFractionsModel_load__II_V rfl (by decide)) ?_
  refine sd_c (pc := 68) (f := i_al 0 69) (s_aln (i := 0) dX7_two_68) ?_
  refine sd_c (pc := 69) (f := i_c (.int (2)) 70) (s_iconst dX7_two_69 (by decide)) ?_
  refine sd_c (pc := 70) (f := i_il 3 71) (s_iln (i := 3) dX7_two_70) ?_
  refine sd_c (pc := 71) (f := i_cv 7 3 0 f_X7_load 0 0 0 0 74) (s_cv (np := 2) (rk := 0) (ci := 7) (rmz := rm_X7_load) dX7_two_71 V_X7_load w912 w914 wS_PlanFractionsModel_load__II_V rfl (by decide)) ?_
  refine sd_c (pc := 74) (f := i_w [(75, [0])] (i_il 1 75)) (s_w (s_iln (i := 1) dX7_two_74)) ?_
  refine sd_c (pc := 75) (f := i_ts 0 4 [108, 120, 132, 143, 154] 165) (s_ts dX7_two_75 (by decide) (by decide)) ?_
  refine sd_c (pc := 108) (f := i_al 0 109) (s_aln (i := 0) dX7_two_108) ?_
  refine sd_c (pc := 109) (f := i_al 0 110) (s_aln (i := 0) dX7_two_109) ?_
  refine sd_c (pc := 110) (f := i_c (.int (1)) 111) (s_iconst dX7_two_110 (by decide)) ?_
  refine sd_c (pc := 111) (f := i_c (.int (2)) 112) (s_iconst dX7_two_111 (by decide)) ?_
  refine sd_c (pc := 112) (f := i_c (.int (0)) 113) (s_iconst dX7_two_112 (by decide)) ?_
  refine sd_c (pc := 113) (f := i_cv 7 4 1 f_X7_sum 0 0 0 0 116) (s_cv (np := 3) (rk := 1) (ci := 7) (rmz := rm_X7_sum) dX7_two_113 V_X7_sum w916 w918 wS_PlanFractionsModel_sum__IIZ_Z rfl (by decide)) ?_
  refine sd_c (pc := 116) (f := i_cv 7 2 1 f_X7_comes 0 0 0 0 119) (s_cv (np := 1) (rk := 1) (ci := 7) (rmz := rm_X7_comes) dX7_two_116 V_X7_comes w888 w890 wS_PlanFractionsModel_comes__Z_I rfl (by decide)) ?_
  refine sd_c (pc := 119) (f := i_ri 0 0) (s_ri dX7_two_119 rfl) ?_
  refine sd_c (pc := 120) (f := i_al 0 121) (s_aln (i := 0) dX7_two_120) ?_
  refine sd_c (pc := 121) (f := i_al 0 122) (s_aln (i := 0) dX7_two_121) ?_
  refine sd_c (pc := 122) (f := i_c (.int (1)) 123) (s_iconst dX7_two_122 (by decide)) ?_
  refine sd_c (pc := 123) (f := i_c (.int (2)) 124) (s_iconst dX7_two_123 (by decide)) ?_
  refine sd_c (pc := 124) (f := i_c (.int (1)) 125) (s_iconst dX7_two_124 (by decide)) ?_
  refine sd_c (pc := 125) (f := i_cv 7 4 1 f_X7_sum 0 0 0 0 128) (s_cv (np := 3) (rk := 1) (ci := 7) (rmz := rm_X7_sum) dX7_two_125 V_X7_sum w916 w918 wS_PlanFractionsModel_sum__IIZ_Z rfl (by decide)) ?_
  refine sd_c (pc := 128) (f := i_cv 7 2 1 f_X7_comes 0 0 0 0 131) (s_cv (np := 1) (rk := 1) (ci := 7) (rmz := rm_X7_comes) dX7_two_128 V_X7_comes w888 w890 wS_PlanFractionsModel_comes__Z_I rfl (by decide)) ?_
  refine sd_c (pc := 131) (f := i_ri 0 0) (s_ri dX7_two_131 rfl) ?_
  refine sd_c (pc := 132) (f := i_al 0 133) (s_aln (i := 0) dX7_two_132) ?_
  refine sd_c (pc := 133) (f := i_al 0 134) (s_aln (i := 0) dX7_two_133) ?_
  refine sd_c (pc := 134) (f := i_c (.int (1)) 135) (s_iconst dX7_two_134 (by decide)) ?_
  refine sd_c (pc := 135) (f := i_c (.int (2)) 136) (s_iconst dX7_two_135 (by decide)) ?_
  refine sd_c (pc := 136) (f := i_cv 7 3 1 f_X7_product 0 0 0 0 139) (s_cv (np := 2) (rk := 1) (ci := 7) (rmz := rm_X7_product) dX7_two_136 V_X7_product w932 w934 wS_PlanFractionsModel_product__II_Z rfl (by decide)) ?_
  refine sd_c (pc := 139) (f := i_cv 7 2 1 f_X7_comes 0 0 0 0 142) (s_cv (np := 1) (rk := 1) (ci := 7) (rmz := rm_X7_comes) dX7_two_139 V_X7_comes w888 w890 wS_PlanFractionsModel_comes__Z_I rfl (by decide)) ?_
  refine sd_c (pc := 142) (f := i_ri 0 0) (s_ri dX7_two_142 rfl) ?_
  refine sd_c (pc := 143) (f := i_al 0 144) (s_aln (i := 0) dX7_two_143) ?_
  refine sd_c (pc := 144) (f := i_al 0 145) (s_aln (i := 0) dX7_two_144) ?_
  refine sd_c (pc := 145) (f := i_c (.int (1)) 146) (s_iconst dX7_two_145 (by decide)) ?_
  refine sd_c (pc := 146) (f := i_c (.int (2)) 147) (s_iconst dX7_two_146 (by decide)) ?_
  refine sd_c (pc := 147) (f := i_cv 7 3 1 f_X7_quotient 0 0 0 0 150) (s_cv (np := 2) (rk := 1) (ci := 7) (rmz := rm_X7_quotient) dX7_two_147 V_X7_quotient w936 w938 wS_PlanFractionsModel_quotient__II_Z rfl (by decide)) ?_
  refine sd_c (pc := 150) (f := i_cv 7 2 1 f_X7_comes 0 0 0 0 153) (s_cv (np := 1) (rk := 1) (ci := 7) (rmz := rm_X7_comes) dX7_two_150 V_X7_comes w888 w890 wS_PlanFractionsModel_comes__Z_I rfl (by decide)) ?_
  refine sd_c (pc := 153) (f := i_ri 0 0) (s_ri dX7_two_153 rfl) ?_
  refine sd_c (pc := 154) (f := i_al 0 155) (s_aln (i := 0) dX7_two_154) ?_
  refine sd_c (pc := 155) (f := i_al 0 156) (s_aln (i := 0) dX7_two_155) ?_
  refine sd_c (pc := 156) (f := i_c (.int (1)) 157) (s_iconst dX7_two_156 (by decide)) ?_
  refine sd_c (pc := 157) (f := i_c (.int (2)) 158) (s_iconst dX7_two_157 (by decide)) ?_
  refine sd_c (pc := 158) (f := i_cv 7 3 1 f_X7_left 0 0 0 0 161) (s_cv (np := 2) (rk := 1) (ci := 7) (rmz := rm_X7_left) dX7_two_158 V_X7_left w940 w942 wS_PlanFractionsModel_left__II_Z rfl (by decide)) ?_
  refine sd_c (pc := 161) (f := i_cv 7 2 1 f_X7_comes 0 0 0 0 164) (s_cv (np := 1) (rk := 1) (ci := 7) (rmz := rm_X7_comes) dX7_two_161 V_X7_comes w888 w890 wS_PlanFractionsModel_comes__Z_I rfl (by decide)) ?_
  refine sd_c (pc := 164) (f := i_ri 0 0) (s_ri dX7_two_164 rfl) ?_
  refine sd_c (pc := 165) (f := i_al 0 166) (s_aln (i := 0) dX7_two_165) ?_
  refine sd_c (pc := 166) (f := i_al 0 167) (s_aln (i := 0) dX7_two_166) ?_
  refine sd_c (pc := 167) (f := i_c (.int (1)) 168) (s_iconst dX7_two_167 (by decide)) ?_
  refine sd_c (pc := 168) (f := i_c (.int (2)) 169) (s_iconst dX7_two_168 (by decide)) ?_
  refine sd_c (pc := 169) (f := i_cv 7 3 1 f_X7_common 0 0 0 0 172) (s_cv (np := 2) (rk := 1) (ci := 7) (rmz := rm_X7_common) dX7_two_169 V_X7_common w944 w946 wS_PlanFractionsModel_common__II_Z rfl (by decide)) ?_
  refine sd_c (pc := 172) (f := i_cv 7 2 1 f_X7_comes 0 0 0 0 175) (s_cv (np := 1) (rk := 1) (ci := 7) (rmz := rm_X7_comes) dX7_two_172 V_X7_comes w888 w890 wS_PlanFractionsModel_comes__Z_I rfl (by decide)) ?_
  refine sd_c (pc := 175) (f := i_ri 0 0) (s_ri dX7_two_175 rfl) ?_
  exact sd_n
noncomputable def f_X7_two : List Value → me_M → Option sm_R := sd_f 4 T_X7_two
theorem V_X7_two : sd_V yX7_two cX7_two 4 (some .int) rm_X7_two 3 f_X7_two := ⟨sd_met A_X7_two (by decide +kernel), w907, w8, by decide +kernel⟩
set_option maxRecDepth 20000 in
theorem e_X7_two (x0 : Nat) (x1 : Int32) (x2 : Int32) (x3 : Int32) (M : me_M) : f_X7_two [.ref x0, .int x1, .int x2, .int x3] M = (me_obj M 7 x0).bind fun f1 => if 0 < f1.length then ((me_obj (me_set M x0 (.inr (7, f1.set 0 (.int (0 : Int32))))) 7 x0).bind fun _ => (f_X7_isValue [.ref x0, .int x2] (me_set M x0 (.inr (7, f1.set 0 (.int (0 : Int32)))))).bind fun r2 => r2.1.bind fun v3 => (v_int v3).bind fun y4 => if y4 = 0 then (if 0 ≤ 0 ∧ 0 ≤ 0 then some (some (.int (-2 : Int32)), r2.2) else none) else (me_obj r2.2 7 x0).bind fun _ => (f_X7_isValue [.ref x0, .int x3] r2.2).bind fun r5 => r5.1.bind fun v6 => (v_int v6).bind fun y7 => if y7 = 0 then (if 0 ≤ 0 ∧ 0 ≤ 0 then some (some (.int (-2 : Int32)), r5.2) else none) else if x1 = (3 : Int32) then (sm T_X7_two (34, [(0, .ref x0), (1, .int x1), (2, .int x2), (3, .int x3)], [], r5.2, 0, 0)) else if x1 = (4 : Int32) then (sm T_X7_two (34, [(0, .ref x0), (1, .int x1), (2, .int x2), (3, .int x3)], [], r5.2, 0, 0)) else sm T_X7_two (49, [(0, .ref x0), (1, .int x1), (2, .int x2), (3, .int x3)], [], r5.2, 0, 0)) else none := (show f_X7_two [.ref x0, .int x1, .int x2, .int x3] M = sm T_X7_two (0, [(0, .ref x0), (1, .int x1), (2, .int x2), (3, .int x3)], [], M, 0, 0) from rfl).trans (by have hF := sm_fx A_X7_two; generalize sm T_X7_two = F_ at hF ⊢; exact (sm_h hF (f := i_al 0 1) rfl).trans (q_al rfl ((sm_h hF (f := i_c (.int (0)) 2) rfl).trans (q_c ((sm_h hF (f := i_pi 7 0 5) rfl).trans (q_pi (vi (vr (ob fun f1 => ic ((sm_h hF (f := i_al 0 6) rfl).trans (q_al rfl ((sm_h hF (f := i_il 2 7) rfl).trans (q_il rfl ((sm_h hF (f := i_cv 7 2 1 f_X7_isValue 0 0 0 0 10) rfl).trans (q_cv rfl rfl rfl (vr (ob fun _ => ob fun r2 => cT rfl (q_r1 (ob fun v3 => ob fun y4 => (sm_h hF (f := i_z (fun x => x = 0) 21 13) rfl).trans (q_z (vi (ic ((sm_h hF (f := i_c (.int (-2)) 23) rfl).trans (q_c ((sm_h hF (f := i_ri 0 0) rfl).trans (q_ri (vi (rfl)))))) ((sm_h hF (f := i_al 0 14) rfl).trans (q_al rfl ((sm_h hF (f := i_il 3 15) rfl).trans (q_il rfl ((sm_h hF (f := i_cv 7 2 1 f_X7_isValue 0 0 0 0 18) rfl).trans (q_cv rfl rfl rfl (vr (ob fun _ => ob fun r5 => cT rfl (q_r1 (ob fun v6 => ob fun y7 => (sm_h hF (f := i_z (fun x => x = 0) 21 24) rfl).trans (q_z (vi (ic ((sm_h hF (f := i_c (.int (-2)) 23) rfl).trans (q_c ((sm_h hF (f := i_ri 0 0) rfl).trans (q_ri (vi (rfl)))))) ((sm_h hF (f := i_il 1 25) rfl).trans (q_il rfl ((sm_h hF (f := i_c (.int (3)) 26) rfl).trans (q_c ((sm_h hF (f := i_w [(34, [0, 1, 2, 3])] (i_zz (fun x z => x = z) 34 29)) rfl).trans (q_w (q_zz (vi (vi (ic (rfl) ((sm_h hF (f := i_il 1 30) rfl).trans (q_il rfl ((sm_h hF (f := i_c (.int (4)) 31) rfl).trans (q_c ((sm_h hF (f := i_w [(34, [0, 1, 2, 3]), (49, [0, 1, 2, 3])] (i_zz (fun x z => x = z) 34 49)) rfl).trans (q_w (q_zz (vi (vi (ic (rfl) (rfl))))))))))))))))))))))))))))))))))))))))))))))) (rfl))))))))))
set_option maxRecDepth 20000 in
theorem e_X7_two_34 (x0 : Nat) (x1 : Int32) (x2 : Int32) (x3 : Int32) (M : me_M) : sm T_X7_two (34, [(0, .ref x0), (1, .int x1), (2, .int x2), (3, .int x3)], [], M, 0, 0) = (me_obj M 7 x0).bind fun f1 => (f1[4]?).bind fun w2 => (v_ref w2).bind fun a3 => (me_int M 0 a3).bind fun f4 => if x3 < 0 ∨ f4.1 ≤ x3.toNatClampNeg then (none) else if (f4.2 x3.toNatClampNeg) = 0 then ((me_obj M 7 x0).bind fun _ => (f_X7_throwing [.ref x0, .int (1 : Int32)] M).bind fun r5 => r5.1.bind fun v6 => (v_int v6).bind fun y7 => if 0 ≤ 0 ∧ 0 ≤ 0 then some (some (.int y7), r5.2) else none) else sm T_X7_two (49, [(0, .ref x0), (1, .int x1), (2, .int x2), (3, .int x3)], [], M, 0, 0) := (by have hF := sm_fx A_X7_two; generalize sm T_X7_two = F_ at hF ⊢; exact (sm_h hF (f := i_al 0 35) rfl).trans (q_al rfl ((sm_h hF (f := i_gf 7 4 38) rfl).trans (q_gf (vr (ob fun f1 => ob fun w2 => (sm_h hF (f := i_il 3 39) rfl).trans (q_il rfl ((sm_h hF (f := i_ia 0 40) rfl).trans (q_ia (vi (ob fun a3 => ob fun f4 => ic (rfl) ((sm_h hF (f := i_w [(49, [0, 1, 2, 3])] (i_z (fun x => x = 0) 43 49)) rfl).trans (q_w (q_z (vi (ic ((sm_h hF (f := i_al 0 44) rfl).trans (q_al rfl ((sm_h hF (f := i_c (.int (1)) 45) rfl).trans (q_c ((sm_h hF (f := i_cv 7 2 1 f_X7_throwing 0 0 0 0 48) rfl).trans (q_cv rfl rfl rfl (vr (ob fun _ => ob fun r5 => cT rfl (q_r1 (ob fun v6 => ob fun y7 => (sm_h hF (f := i_ri 0 0) rfl).trans (q_ri (vi (rfl))))))))))))) (rfl)))))))))))))))))
set_option maxRecDepth 20000 in
theorem e_X7_two_49 (x0 : Nat) (x1 : Int32) (x2 : Int32) (x3 : Int32) (M : me_M) : sm T_X7_two (49, [(0, .ref x0), (1, .int x1), (2, .int x2), (3, .int x3)], [], M, 0, 0) = (me_obj M 7 x0).bind fun f1 => (f1[9]?).bind fun w2 => (v_int w2).bind fun y3 => if y3 = (240 : Int32) then (if 0 ≤ 0 ∧ 0 ≤ 0 then some (some (.int (-3 : Int32)), M) else none) else (me_obj M 7 x0).bind fun _ => (f_X7_load [.ref x0, .int (1 : Int32), .int x2] M).bind fun r4 => cond r4.1.isNone ((me_obj r4.2 7 x0).bind fun _ => (f_X7_load [.ref x0, .int (2 : Int32), .int x3] r4.2).bind fun r5 => cond r5.1.isNone (sm T_X7_two (75, [(0, .ref x0)], [.int x1], r5.2, 0, 0)) none) none := (by have hF := sm_fx A_X7_two; generalize sm T_X7_two = F_ at hF ⊢; exact (sm_h hF (f := i_al 0 50) rfl).trans (q_al rfl ((sm_h hF (f := i_gf 7 9 53) rfl).trans (q_gf (vr (ob fun f1 => ob fun w2 => (sm_h hF (f := i_c (.int (240)) 56) rfl).trans (q_c ((sm_h hF (f := i_zz (fun x z => x = z) 59 62) rfl).trans (q_zz (ob fun y3 => vi (ic ((sm_h hF (f := i_c (.int (-3)) 61) rfl).trans (q_c ((sm_h hF (f := i_ri 0 0) rfl).trans (q_ri (vi (rfl)))))) ((sm_h hF (f := i_al 0 63) rfl).trans (q_al rfl ((sm_h hF (f := i_c (.int (1)) 64) rfl).trans (q_c ((sm_h hF (f := i_il 2 65) rfl).trans (q_il rfl ((sm_h hF (f := i_cv 7 3 0 f_X7_load 0 0 0 0 68) rfl).trans (q_cv rfl rfl rfl (vr (ob fun _ => ob fun r4 => cT rfl (q_r0 (cg ((sm_h hF (f := i_al 0 69) rfl).trans (q_al rfl ((sm_h hF (f := i_c (.int (2)) 70) rfl).trans (q_c ((sm_h hF (f := i_il 3 71) rfl).trans (q_il rfl ((sm_h hF (f := i_cv 7 3 0 f_X7_load 0 0 0 0 74) rfl).trans (q_cv rfl rfl rfl (vr (ob fun _ => ob fun r5 => cT rfl (q_r0 (cg ((sm_h hF (f := i_w [(75, [0])] (i_il 1 75)) rfl).trans (q_w (q_il rfl (rfl)))) rfl)))))))))))) rfl)))))))))))))))))))))))
set_option maxRecDepth 20000 in
theorem e_X7_two_75 (x0 : Nat) (s0 : Int32) (M : me_M) : sm T_X7_two (75, [(0, .ref x0)], [.int s0], M, 0, 0) = if s0.toInt < 0 ∨ 4 < s0.toInt then (sm T_X7_two (165, [(0, .ref x0)], [], M, 0, 0)) else ([108, 120, 132, 143, 154][(s0.toInt - 0).toNat]?).bind fun q1 => sm T_X7_two (q1, [(0, .ref x0)], [], M, 0, 0) := (by have hF := sm_fx A_X7_two; generalize sm T_X7_two = F_ at hF ⊢; exact (sm_h hF (f := i_ts 0 4 [108, 120, 132, 143, 154] 165) rfl).trans (q_ts (vi (ic (rfl) (ob fun q1 => rfl)))))
set_option maxRecDepth 20000 in
theorem e_X7_two_132 (x0 : Nat) (M : me_M) : sm T_X7_two (132, [(0, .ref x0)], [], M, 0, 0) = (me_obj M 7 x0).bind fun _ => (f_X7_product [.ref x0, .int (1 : Int32), .int (2 : Int32)] M).bind fun r1 => r1.1.bind fun v2 => (v_int v2).bind fun y3 => (me_obj r1.2 7 x0).bind fun _ => (f_X7_comes [.ref x0, .int y3] r1.2).bind fun r4 => r4.1.bind fun v5 => (v_int v5).bind fun y6 => if 0 ≤ 0 ∧ 0 ≤ 0 then some (some (.int y6), r4.2) else none := (by have hF := sm_fx A_X7_two; generalize sm T_X7_two = F_ at hF ⊢; exact (sm_h hF (f := i_al 0 133) rfl).trans (q_al rfl ((sm_h hF (f := i_al 0 134) rfl).trans (q_al rfl ((sm_h hF (f := i_c (.int (1)) 135) rfl).trans (q_c ((sm_h hF (f := i_c (.int (2)) 136) rfl).trans (q_c ((sm_h hF (f := i_cv 7 3 1 f_X7_product 0 0 0 0 139) rfl).trans (q_cv rfl rfl rfl (vr (ob fun _ => ob fun r1 => cT rfl (q_r1 (ob fun v2 => ob fun y3 => (sm_h hF (f := i_cv 7 2 1 f_X7_comes 0 0 0 0 142) rfl).trans (q_cv rfl rfl rfl (vr (ob fun _ => ob fun r4 => cT rfl (q_r1 (ob fun v5 => ob fun y6 => (sm_h hF (f := i_ri 0 0) rfl).trans (q_ri (vi (rfl))))))))))))))))))))))
set_option maxRecDepth 20000 in
theorem e_X7_two_108 (x0 : Nat) (M : me_M) : sm T_X7_two (108, [(0, .ref x0)], [], M, 0, 0) = (me_obj M 7 x0).bind fun _ => (f_X7_sum [.ref x0, .int (1 : Int32), .int (2 : Int32), .int (0 : Int32)] M).bind fun r1 => r1.1.bind fun v2 => (v_int v2).bind fun y3 => (me_obj r1.2 7 x0).bind fun _ => (f_X7_comes [.ref x0, .int y3] r1.2).bind fun r4 => r4.1.bind fun v5 => (v_int v5).bind fun y6 => if 0 ≤ 0 ∧ 0 ≤ 0 then some (some (.int y6), r4.2) else none := (by have hF := sm_fx A_X7_two; generalize sm T_X7_two = F_ at hF ⊢; exact (sm_h hF (f := i_al 0 109) rfl).trans (q_al rfl ((sm_h hF (f := i_al 0 110) rfl).trans (q_al rfl ((sm_h hF (f := i_c (.int (1)) 111) rfl).trans (q_c ((sm_h hF (f := i_c (.int (2)) 112) rfl).trans (q_c ((sm_h hF (f := i_c (.int (0)) 113) rfl).trans (q_c ((sm_h hF (f := i_cv 7 4 1 f_X7_sum 0 0 0 0 116) rfl).trans (q_cv rfl rfl rfl (vr (ob fun _ => ob fun r1 => cT rfl (q_r1 (ob fun v2 => ob fun y3 => (sm_h hF (f := i_cv 7 2 1 f_X7_comes 0 0 0 0 119) rfl).trans (q_cv rfl rfl rfl (vr (ob fun _ => ob fun r4 => cT rfl (q_r1 (ob fun v5 => ob fun y6 => (sm_h hF (f := i_ri 0 0) rfl).trans (q_ri (vi (rfl))))))))))))))))))))))))
set_option maxRecDepth 20000 in
theorem e_X7_two_143 (x0 : Nat) (M : me_M) : sm T_X7_two (143, [(0, .ref x0)], [], M, 0, 0) = (me_obj M 7 x0).bind fun _ => (f_X7_quotient [.ref x0, .int (1 : Int32), .int (2 : Int32)] M).bind fun r1 => r1.1.bind fun v2 => (v_int v2).bind fun y3 => (me_obj r1.2 7 x0).bind fun _ => (f_X7_comes [.ref x0, .int y3] r1.2).bind fun r4 => r4.1.bind fun v5 => (v_int v5).bind fun y6 => if 0 ≤ 0 ∧ 0 ≤ 0 then some (some (.int y6), r4.2) else none := (by have hF := sm_fx A_X7_two; generalize sm T_X7_two = F_ at hF ⊢; exact (sm_h hF (f := i_al 0 144) rfl).trans (q_al rfl ((sm_h hF (f := i_al 0 145) rfl).trans (q_al rfl ((sm_h hF (f := i_c (.int (1)) 146) rfl).trans (q_c ((sm_h hF (f := i_c (.int (2)) 147) rfl).trans (q_c ((sm_h hF (f := i_cv 7 3 1 f_X7_quotient 0 0 0 0 150) rfl).trans (q_cv rfl rfl rfl (vr (ob fun _ => ob fun r1 => cT rfl (q_r1 (ob fun v2 => ob fun y3 => (sm_h hF (f := i_cv 7 2 1 f_X7_comes 0 0 0 0 153) rfl).trans (q_cv rfl rfl rfl (vr (ob fun _ => ob fun r4 => cT rfl (q_r1 (ob fun v5 => ob fun y6 => (sm_h hF (f := i_ri 0 0) rfl).trans (q_ri (vi (rfl))))))))))))))))))))))
set_option maxRecDepth 20000 in
theorem e_X7_two_120 (x0 : Nat) (M : me_M) : sm T_X7_two (120, [(0, .ref x0)], [], M, 0, 0) = (me_obj M 7 x0).bind fun _ => (f_X7_sum [.ref x0, .int (1 : Int32), .int (2 : Int32), .int (1 : Int32)] M).bind fun r1 => r1.1.bind fun v2 => (v_int v2).bind fun y3 => (me_obj r1.2 7 x0).bind fun _ => (f_X7_comes [.ref x0, .int y3] r1.2).bind fun r4 => r4.1.bind fun v5 => (v_int v5).bind fun y6 => if 0 ≤ 0 ∧ 0 ≤ 0 then some (some (.int y6), r4.2) else none := (by have hF := sm_fx A_X7_two; generalize sm T_X7_two = F_ at hF ⊢; exact (sm_h hF (f := i_al 0 121) rfl).trans (q_al rfl ((sm_h hF (f := i_al 0 122) rfl).trans (q_al rfl ((sm_h hF (f := i_c (.int (1)) 123) rfl).trans (q_c ((sm_h hF (f := i_c (.int (2)) 124) rfl).trans (q_c ((sm_h hF (f := i_c (.int (1)) 125) rfl).trans (q_c ((sm_h hF (f := i_cv 7 4 1 f_X7_sum 0 0 0 0 128) rfl).trans (q_cv rfl rfl rfl (vr (ob fun _ => ob fun r1 => cT rfl (q_r1 (ob fun v2 => ob fun y3 => (sm_h hF (f := i_cv 7 2 1 f_X7_comes 0 0 0 0 131) rfl).trans (q_cv rfl rfl rfl (vr (ob fun _ => ob fun r4 => cT rfl (q_r1 (ob fun v5 => ob fun y6 => (sm_h hF (f := i_ri 0 0) rfl).trans (q_ri (vi (rfl))))))))))))))))))))))))
set_option maxRecDepth 20000 in
theorem e_X7_two_154 (x0 : Nat) (M : me_M) : sm T_X7_two (154, [(0, .ref x0)], [], M, 0, 0) = (me_obj M 7 x0).bind fun _ => (f_X7_left [.ref x0, .int (1 : Int32), .int (2 : Int32)] M).bind fun r1 => r1.1.bind fun v2 => (v_int v2).bind fun y3 => (me_obj r1.2 7 x0).bind fun _ => (f_X7_comes [.ref x0, .int y3] r1.2).bind fun r4 => r4.1.bind fun v5 => (v_int v5).bind fun y6 => if 0 ≤ 0 ∧ 0 ≤ 0 then some (some (.int y6), r4.2) else none := (by have hF := sm_fx A_X7_two; generalize sm T_X7_two = F_ at hF ⊢; exact (sm_h hF (f := i_al 0 155) rfl).trans (q_al rfl ((sm_h hF (f := i_al 0 156) rfl).trans (q_al rfl ((sm_h hF (f := i_c (.int (1)) 157) rfl).trans (q_c ((sm_h hF (f := i_c (.int (2)) 158) rfl).trans (q_c ((sm_h hF (f := i_cv 7 3 1 f_X7_left 0 0 0 0 161) rfl).trans (q_cv rfl rfl rfl (vr (ob fun _ => ob fun r1 => cT rfl (q_r1 (ob fun v2 => ob fun y3 => (sm_h hF (f := i_cv 7 2 1 f_X7_comes 0 0 0 0 164) rfl).trans (q_cv rfl rfl rfl (vr (ob fun _ => ob fun r4 => cT rfl (q_r1 (ob fun v5 => ob fun y6 => (sm_h hF (f := i_ri 0 0) rfl).trans (q_ri (vi (rfl))))))))))))))))))))))
set_option maxRecDepth 20000 in
theorem e_X7_two_165 (x0 : Nat) (M : me_M) : sm T_X7_two (165, [(0, .ref x0)], [], M, 0, 0) = (me_obj M 7 x0).bind fun _ => (f_X7_common [.ref x0, .int (1 : Int32), .int (2 : Int32)] M).bind fun r1 => r1.1.bind fun v2 => (v_int v2).bind fun y3 => (me_obj r1.2 7 x0).bind fun _ => (f_X7_comes [.ref x0, .int y3] r1.2).bind fun r4 => r4.1.bind fun v5 => (v_int v5).bind fun y6 => if 0 ≤ 0 ∧ 0 ≤ 0 then some (some (.int y6), r4.2) else none := (by have hF := sm_fx A_X7_two; generalize sm T_X7_two = F_ at hF ⊢; exact (sm_h hF (f := i_al 0 166) rfl).trans (q_al rfl ((sm_h hF (f := i_al 0 167) rfl).trans (q_al rfl ((sm_h hF (f := i_c (.int (1)) 168) rfl).trans (q_c ((sm_h hF (f := i_c (.int (2)) 169) rfl).trans (q_c ((sm_h hF (f := i_cv 7 3 1 f_X7_common 0 0 0 0 172) rfl).trans (q_cv rfl rfl rfl (vr (ob fun _ => ob fun r1 => cT rfl (q_r1 (ob fun v2 => ob fun y3 => (sm_h hF (f := i_cv 7 2 1 f_X7_comes 0 0 0 0 175) rfl).trans (q_cv rfl rfl rfl (vr (ob fun _ => ob fun r4 => cT rfl (q_r1 (ob fun v5 => ob fun y6 => (sm_h hF (f := i_ri 0 0) rfl).trans (q_ri (vi (rfl))))))))))))))))))))))
/-! X7_add -/
abbrev rm_X7_add : Room := { frames := 8, cells := 0, slots := 0, locals := 198 }
noncomputable def T_X7_add : sm_T := [(0, i_al 0 1), (1, i_c (.int (0)) 2), (2, i_il 1 3), (3, i_il 2 4), (4, i_cv 7 4 1 f_X7_two 0 0 0 0 7), (7, i_ri 0 0)]
set_option maxRecDepth 20000 in
theorem A_X7_add : sd_A yX7_add cX7_add 3 (some .int) rm_X7_add T_X7_add := by
  refine sd_c (pc := 0) (f := i_al 0 1) (s_aln (i := 0) dX7_add_0) ?_
  refine sd_c (pc := 1) (f := i_c (.int (0)) 2) (s_iconst dX7_add_1 (by decide)) ?_
  refine sd_c (pc := 2) (f := i_il 1 3) (s_iln (i := 1) dX7_add_2) ?_
  refine sd_c (pc := 3) (f := i_il 2 4) (s_iln (i := 2) dX7_add_3) ?_
  refine sd_c (pc := 4) (f := i_cv 7 4 1 f_X7_two 0 0 0 0 7) (s_cv (np := 3) (rk := 1) (ci := 7) (rmz := rm_X7_two) dX7_add_4 V_X7_two w904 w906 wS_PlanFractionsModel_two__III_I rfl (by decide)) ?_
  refine sd_c (pc := 7) (f := i_ri 0 0) (s_ri dX7_add_7 rfl) ?_
  exact sd_n
noncomputable def f_X7_add : List Value → me_M → Option sm_R := sd_f 3 T_X7_add
theorem V_X7_add : sd_V yX7_add cX7_add 3 (some .int) rm_X7_add 2 f_X7_add := ⟨sd_met A_X7_add (by decide +kernel), w903, w8, by decide +kernel⟩
set_option maxRecDepth 20000 in
theorem e_X7_add (x0 : Nat) (x1 : Int32) (x2 : Int32) (M : me_M) : f_X7_add [.ref x0, .int x1, .int x2] M = (me_obj M 7 x0).bind fun _ => (f_X7_two [.ref x0, .int (0 : Int32), .int x1, .int x2] M).bind fun r1 => r1.1.bind fun v2 => (v_int v2).bind fun y3 => if 0 ≤ 0 ∧ 0 ≤ 0 then some (some (.int y3), r1.2) else none := (show f_X7_add [.ref x0, .int x1, .int x2] M = sm T_X7_add (0, [(0, .ref x0), (1, .int x1), (2, .int x2)], [], M, 0, 0) from rfl).trans (by have hF := sm_fx A_X7_add; generalize sm T_X7_add = F_ at hF ⊢; exact (sm_h hF (f := i_al 0 1) rfl).trans (q_al rfl ((sm_h hF (f := i_c (.int (0)) 2) rfl).trans (q_c ((sm_h hF (f := i_il 1 3) rfl).trans (q_il rfl ((sm_h hF (f := i_il 2 4) rfl).trans (q_il rfl ((sm_h hF (f := i_cv 7 4 1 f_X7_two 0 0 0 0 7) rfl).trans (q_cv rfl rfl rfl (vr (ob fun _ => ob fun r1 => cT rfl (q_r1 (ob fun v2 => ob fun y3 => (sm_h hF (f := i_ri 0 0) rfl).trans (q_ri (vi (rfl)))))))))))))))))
/-! X7_less -/
abbrev rm_X7_less : Room := { frames := 8, cells := 0, slots := 0, locals := 198 }
noncomputable def T_X7_less : sm_T := [(0, i_al 0 1), (1, i_c (.int (1)) 2), (2, i_il 1 3), (3, i_il 2 4), (4, i_cv 7 4 1 f_X7_two 0 0 0 0 7), (7, i_ri 0 0)]
set_option maxRecDepth 20000 in
theorem A_X7_less : sd_A yX7_less cX7_less 3 (some .int) rm_X7_less T_X7_less := by
  refine sd_c (pc := 0) (f := i_al 0 1) (s_aln (i := 0) dX7_less_0) ?_
  refine sd_c (pc := 1) (f := i_c (.int (1)) 2) (s_iconst dX7_less_1 (by decide)) ?_
  refine sd_c (pc := 2) (f := i_il 1 3) (s_iln (i := 1) dX7_less_2) ?_
  refine sd_c (pc := 3) (f := i_il 2 4) (s_iln (i := 2) dX7_less_3) ?_
  refine sd_c (pc := 4) (f := i_cv 7 4 1 f_X7_two 0 0 0 0 7) (s_cv (np := 3) (rk := 1) (ci := 7) (rmz := rm_X7_two) dX7_less_4 V_X7_two w904 w906 wS_PlanFractionsModel_two__III_I rfl (by decide)) ?_
  refine sd_c (pc := 7) (f := i_ri 0 0) (s_ri dX7_less_7 rfl) ?_
  exact sd_n
noncomputable def f_X7_less : List Value → me_M → Option sm_R := sd_f 3 T_X7_less
theorem V_X7_less : sd_V yX7_less cX7_less 3 (some .int) rm_X7_less 2 f_X7_less := ⟨sd_met A_X7_less (by decide +kernel), w951, w8, by decide +kernel⟩
set_option maxRecDepth 20000 in
theorem e_X7_less (x0 : Nat) (x1 : Int32) (x2 : Int32) (M : me_M) : f_X7_less [.ref x0, .int x1, .int x2] M = (me_obj M 7 x0).bind fun _ => (f_X7_two [.ref x0, .int (1 : Int32), .int x1, .int x2] M).bind fun r1 => r1.1.bind fun v2 => (v_int v2).bind fun y3 => if 0 ≤ 0 ∧ 0 ≤ 0 then some (some (.int y3), r1.2) else none := (show f_X7_less [.ref x0, .int x1, .int x2] M = sm T_X7_less (0, [(0, .ref x0), (1, .int x1), (2, .int x2)], [], M, 0, 0) from rfl).trans (by have hF := sm_fx A_X7_less; generalize sm T_X7_less = F_ at hF ⊢; exact (sm_h hF (f := i_al 0 1) rfl).trans (q_al rfl ((sm_h hF (f := i_c (.int (1)) 2) rfl).trans (q_c ((sm_h hF (f := i_il 1 3) rfl).trans (q_il rfl ((sm_h hF (f := i_il 2 4) rfl).trans (q_il rfl ((sm_h hF (f := i_cv 7 4 1 f_X7_two 0 0 0 0 7) rfl).trans (q_cv rfl rfl rfl (vr (ob fun _ => ob fun r1 => cT rfl (q_r1 (ob fun v2 => ob fun y3 => (sm_h hF (f := i_ri 0 0) rfl).trans (q_ri (vi (rfl)))))))))))))))))
/-! X7_times -/
abbrev rm_X7_times : Room := { frames := 8, cells := 0, slots := 0, locals := 198 }
noncomputable def T_X7_times : sm_T := [(0, i_al 0 1), (1, i_c (.int (2)) 2), (2, i_il 1 3), (3, i_il 2 4), (4, i_cv 7 4 1 f_X7_two 0 0 0 0 7), (7, i_ri 0 0)]
set_option maxRecDepth 20000 in
theorem A_X7_times : sd_A yX7_times cX7_times 3 (some .int) rm_X7_times T_X7_times := by
  refine sd_c (pc := 0) (f := i_al 0 1) (s_aln (i := 0) dX7_times_0) ?_
  refine sd_c (pc := 1) (f := i_c (.int (2)) 2) (s_iconst dX7_times_1 (by decide)) ?_
  refine sd_c (pc := 2) (f := i_il 1 3) (s_iln (i := 1) dX7_times_2) ?_
  refine sd_c (pc := 3) (f := i_il 2 4) (s_iln (i := 2) dX7_times_3) ?_
  refine sd_c (pc := 4) (f := i_cv 7 4 1 f_X7_two 0 0 0 0 7) (s_cv (np := 3) (rk := 1) (ci := 7) (rmz := rm_X7_two) dX7_times_4 V_X7_two w904 w906 wS_PlanFractionsModel_two__III_I rfl (by decide)) ?_
  refine sd_c (pc := 7) (f := i_ri 0 0) (s_ri dX7_times_7 rfl) ?_
  exact sd_n
noncomputable def f_X7_times : List Value → me_M → Option sm_R := sd_f 3 T_X7_times
theorem V_X7_times : sd_V yX7_times cX7_times 3 (some .int) rm_X7_times 2 f_X7_times := ⟨sd_met A_X7_times (by decide +kernel), w955, w8, by decide +kernel⟩
set_option maxRecDepth 20000 in
theorem e_X7_times (x0 : Nat) (x1 : Int32) (x2 : Int32) (M : me_M) : f_X7_times [.ref x0, .int x1, .int x2] M = (me_obj M 7 x0).bind fun _ => (f_X7_two [.ref x0, .int (2 : Int32), .int x1, .int x2] M).bind fun r1 => r1.1.bind fun v2 => (v_int v2).bind fun y3 => if 0 ≤ 0 ∧ 0 ≤ 0 then some (some (.int y3), r1.2) else none := (show f_X7_times [.ref x0, .int x1, .int x2] M = sm T_X7_times (0, [(0, .ref x0), (1, .int x1), (2, .int x2)], [], M, 0, 0) from rfl).trans (by have hF := sm_fx A_X7_times; generalize sm T_X7_times = F_ at hF ⊢; exact (sm_h hF (f := i_al 0 1) rfl).trans (q_al rfl ((sm_h hF (f := i_c (.int (2)) 2) rfl).trans (q_c ((sm_h hF (f := i_il 1 3) rfl).trans (q_il rfl ((sm_h hF (f := i_il 2 4) rfl).trans (q_il rfl ((sm_h hF (f := i_cv 7 4 1 f_X7_two 0 0 0 0 7) rfl).trans (q_cv rfl rfl rfl (vr (ob fun _ => ob fun r1 => cT rfl (q_r1 (ob fun v2 => ob fun y3 => (sm_h hF (f := i_ri 0 0) rfl).trans (q_ri (vi (rfl)))))))))))))))))
/-! X7_over -/
abbrev rm_X7_over : Room := { frames := 8, cells := 0, slots := 0, locals := 198 }
noncomputable def T_X7_over : sm_T := [(0, i_al 0 1), (1, i_c (.int (3)) 2), (2, i_il 1 3), (3, i_il 2 4), (4, i_cv 7 4 1 f_X7_two 0 0 0 0 7), (7, i_ri 0 0)]
set_option maxRecDepth 20000 in
theorem A_X7_over : sd_A yX7_over cX7_over 3 (some .int) rm_X7_over T_X7_over := by
  refine sd_c (pc := 0) (f := i_al 0 1) (s_aln (i := 0) dX7_over_0) ?_
  refine sd_c (pc := 1) (f := i_c (.int (3)) 2) (s_iconst dX7_over_1 (by decide)) ?_
  refine sd_c (pc := 2) (f := i_il 1 3) (s_iln (i := 1) dX7_over_2) ?_
  refine sd_c (pc := 3) (f := i_il 2 4) (s_iln (i := 2) dX7_over_3) ?_
  refine sd_c (pc := 4) (f := i_cv 7 4 1 f_X7_two 0 0 0 0 7) (s_cv (np := 3) (rk := 1) (ci := 7) (rmz := rm_X7_two) dX7_over_4 V_X7_two w904 w906 wS_PlanFractionsModel_two__III_I rfl (by decide)) ?_
  refine sd_c (pc := 7) (f := i_ri 0 0) (s_ri dX7_over_7 rfl) ?_
  exact sd_n
noncomputable def f_X7_over : List Value → me_M → Option sm_R := sd_f 3 T_X7_over
theorem V_X7_over : sd_V yX7_over cX7_over 3 (some .int) rm_X7_over 2 f_X7_over := ⟨sd_met A_X7_over (by decide +kernel), w959, w8, by decide +kernel⟩
set_option maxRecDepth 20000 in
theorem e_X7_over (x0 : Nat) (x1 : Int32) (x2 : Int32) (M : me_M) : f_X7_over [.ref x0, .int x1, .int x2] M = (me_obj M 7 x0).bind fun _ => (f_X7_two [.ref x0, .int (3 : Int32), .int x1, .int x2] M).bind fun r1 => r1.1.bind fun v2 => (v_int v2).bind fun y3 => if 0 ≤ 0 ∧ 0 ≤ 0 then some (some (.int y3), r1.2) else none := (show f_X7_over [.ref x0, .int x1, .int x2] M = sm T_X7_over (0, [(0, .ref x0), (1, .int x1), (2, .int x2)], [], M, 0, 0) from rfl).trans (by have hF := sm_fx A_X7_over; generalize sm T_X7_over = F_ at hF ⊢; exact (sm_h hF (f := i_al 0 1) rfl).trans (q_al rfl ((sm_h hF (f := i_c (.int (3)) 2) rfl).trans (q_c ((sm_h hF (f := i_il 1 3) rfl).trans (q_il rfl ((sm_h hF (f := i_il 2 4) rfl).trans (q_il rfl ((sm_h hF (f := i_cv 7 4 1 f_X7_two 0 0 0 0 7) rfl).trans (q_cv rfl rfl rfl (vr (ob fun _ => ob fun r1 => cT rfl (q_r1 (ob fun v2 => ob fun y3 => (sm_h hF (f := i_ri 0 0) rfl).trans (q_ri (vi (rfl)))))))))))))))))
/-! X7_rest -/
abbrev rm_X7_rest : Room := { frames := 8, cells := 0, slots := 0, locals := 198 }
noncomputable def T_X7_rest : sm_T := [(0, i_al 0 1), (1, i_c (.int (4)) 2), (2, i_il 1 3), (3, i_il 2 4), (4, i_cv 7 4 1 f_X7_two 0 0 0 0 7), (7, i_ri 0 0)]
set_option maxRecDepth 20000 in
theorem A_X7_rest : sd_A yX7_rest cX7_rest 3 (some .int) rm_X7_rest T_X7_rest := by
  refine sd_c (pc := 0) (f := i_al 0 1) (s_aln (i := 0) dX7_rest_0) ?_
  refine sd_c (pc := 1) (f := i_c (.int (4)) 2) (s_iconst dX7_rest_1 (by decide)) ?_
  refine sd_c (pc := 2) (f := i_il 1 3) (s_iln (i := 1) dX7_rest_2) ?_
  refine sd_c (pc := 3) (f := i_il 2 4) (s_iln (i := 2) dX7_rest_3) ?_
  refine sd_c (pc := 4) (f := i_cv 7 4 1 f_X7_two 0 0 0 0 7) (s_cv (np := 3) (rk := 1) (ci := 7) (rmz := rm_X7_two) dX7_rest_4 V_X7_two w904 w906 wS_PlanFractionsModel_two__III_I rfl (by decide)) ?_
  refine sd_c (pc := 7) (f := i_ri 0 0) (s_ri dX7_rest_7 rfl) ?_
  exact sd_n
noncomputable def f_X7_rest : List Value → me_M → Option sm_R := sd_f 3 T_X7_rest
theorem V_X7_rest : sd_V yX7_rest cX7_rest 3 (some .int) rm_X7_rest 2 f_X7_rest := ⟨sd_met A_X7_rest (by decide +kernel), w963, w8, by decide +kernel⟩
set_option maxRecDepth 20000 in
theorem e_X7_rest (x0 : Nat) (x1 : Int32) (x2 : Int32) (M : me_M) : f_X7_rest [.ref x0, .int x1, .int x2] M = (me_obj M 7 x0).bind fun _ => (f_X7_two [.ref x0, .int (4 : Int32), .int x1, .int x2] M).bind fun r1 => r1.1.bind fun v2 => (v_int v2).bind fun y3 => if 0 ≤ 0 ∧ 0 ≤ 0 then some (some (.int y3), r1.2) else none := (show f_X7_rest [.ref x0, .int x1, .int x2] M = sm T_X7_rest (0, [(0, .ref x0), (1, .int x1), (2, .int x2)], [], M, 0, 0) from rfl).trans (by have hF := sm_fx A_X7_rest; generalize sm T_X7_rest = F_ at hF ⊢; exact (sm_h hF (f := i_al 0 1) rfl).trans (q_al rfl ((sm_h hF (f := i_c (.int (4)) 2) rfl).trans (q_c ((sm_h hF (f := i_il 1 3) rfl).trans (q_il rfl ((sm_h hF (f := i_il 2 4) rfl).trans (q_il rfl ((sm_h hF (f := i_cv 7 4 1 f_X7_two 0 0 0 0 7) rfl).trans (q_cv rfl rfl rfl (vr (ob fun _ => ob fun r1 => cT rfl (q_r1 (ob fun v2 => ob fun y3 => (sm_h hF (f := i_ri 0 0) rfl).trans (q_ri (vi (rfl)))))))))))))))))
/-! X7_measure -/
abbrev rm_X7_measure : Room := { frames := 8, cells := 0, slots := 0, locals := 198 }
noncomputable def T_X7_measure : sm_T := [(0, i_al 0 1), (1, i_c (.int (5)) 2), (2, i_il 1 3), (3, i_il 2 4), (4, i_cv 7 4 1 f_X7_two 0 0 0 0 7), (7, i_ri 0 0)]
set_option maxRecDepth 20000 in
theorem A_X7_measure : sd_A yX7_measure cX7_measure 3 (some .int) rm_X7_measure T_X7_measure := by
  refine sd_c (pc := 0) (f := i_al 0 1) (s_aln (i := 0) dX7_measure_0) ?_
  refine sd_c (pc := 1) (f := i_c (.int (5)) 2) (s_iconst dX7_measure_1 (by decide)) ?_
  refine sd_c (pc := 2) (f := i_il 1 3) (s_iln (i := 1) dX7_measure_2) ?_
  refine sd_c (pc := 3) (f := i_il 2 4) (s_iln (i := 2) dX7_measure_3) ?_
  refine sd_c (pc := 4) (f := i_cv 7 4 1 f_X7_two 0 0 0 0 7) (s_cv (np := 3) (rk := 1) (ci := 7) (rmz := rm_X7_two) dX7_measure_4 V_X7_two w904 w906 wS_PlanFractionsModel_two__III_I rfl (by decide)) ?_
  refine sd_c (pc := 7) (f := i_ri 0 0) (s_ri dX7_measure_7 rfl) ?_
  exact sd_n
noncomputable def f_X7_measure : List Value → me_M → Option sm_R := sd_f 3 T_X7_measure
theorem V_X7_measure : sd_V yX7_measure cX7_measure 3 (some .int) rm_X7_measure 2 f_X7_measure := ⟨sd_met A_X7_measure (by decide +kernel), w967, w8, by decide +kernel⟩
set_option maxRecDepth 20000 in
theorem e_X7_measure (x0 : Nat) (x1 : Int32) (x2 : Int32) (M : me_M) : f_X7_measure [.ref x0, .int x1, .int x2] M = (me_obj M 7 x0).bind fun _ => (f_X7_two [.ref x0, .int (5 : Int32), .int x1, .int x2] M).bind fun r1 => r1.1.bind fun v2 => (v_int v2).bind fun y3 => if 0 ≤ 0 ∧ 0 ≤ 0 then some (some (.int y3), r1.2) else none := (show f_X7_measure [.ref x0, .int x1, .int x2] M = sm T_X7_measure (0, [(0, .ref x0), (1, .int x1), (2, .int x2)], [], M, 0, 0) from rfl).trans (by have hF := sm_fx A_X7_measure; generalize sm T_X7_measure = F_ at hF ⊢; exact (sm_h hF (f := i_al 0 1) rfl).trans (q_al rfl ((sm_h hF (f := i_c (.int (5)) 2) rfl).trans (q_c ((sm_h hF (f := i_il 1 3) rfl).trans (q_il rfl ((sm_h hF (f := i_il 2 4) rfl).trans (q_il rfl ((sm_h hF (f := i_cv 7 4 1 f_X7_two 0 0 0 0 7) rfl).trans (q_cv rfl rfl rfl (vr (ob fun _ => ob fun r1 => cT rfl (q_r1 (ob fun v2 => ob fun y3 => (sm_h hF (f := i_ri 0 0) rfl).trans (q_ri (vi (rfl)))))))))))))))))
/-! X7_whole -/
abbrev rm_X7_whole : Room := { frames := 4, cells := 0, slots := 0, locals := 100 }
noncomputable def T_X7_whole : sm_T := [(0, i_al 0 1), (1, i_c (.int (0)) 2), (2, i_pi 7 0 5), (5, i_al 0 6), (6, i_il 1 7), (7, i_cv 7 2 1 f_X7_isValue 0 0 0 0 10), (10, i_z (fun x => x = 0) 22 13), (13, i_il 2 14), (14, i_z (fun x => x < 0) 22 17), (17, i_il 2 18), (18, i_c (.int (3)) 19), (19, i_zz (fun x z => x ≤ z) 25 22), (22, i_c (.int (-2)) 24), (24, i_ri 0 0), (25, i_al 0 26), (26, i_gf 7 9 29), (29, i_c (.int (240)) 32), (32, i_zz (fun x z => x = z) 35 38), (35, i_c (.int (-3)) 37), (37, i_ri 0 0), (38, i_al 0 39), (39, i_c (.int (1)) 40), (40, i_il 1 41), (41, i_cv 7 3 0 f_X7_load 0 0 0 0 44), (44, i_al 0 45), (45, i_c (.int (12)) 47), (47, i_c (.int (2)) 48), (48, i_w [(51, [0, 2])] (i_cv 7 3 0 f_X7_copy 0 0 0 0 51)), (51, i_al 0 52), (52, i_c (.int (12)) 54), (54, i_c (.int (3)) 55), (55, i_c (.int (0)) 56), (56, i_cv 7 4 0 f_X7_divide 0 0 0 0 59), (59, i_c (.int (0)) 60), (60, i_is 3 61), (61, i_al 0 62), (62, i_gf 7 2 65), (65, i_c (.int (12)) 67), (67, i_ia 0 68), (68, i_w [(178, [0, 3])] (i_z (fun x => x ≤ 0) 178 71)), (71, i_al 0 72), (72, i_c (.int (10)) 74), (74, i_c (.int (12)) 76), (76, i_c (.int (12)) 78), (78, i_cv 7 4 0 f_X7_plus 0 0 0 0 81), (81, i_al 0 82), (82, i_c (.int (10)) 84), (84, i_c (.int (3)) 85), (85, i_cv 7 3 1 f_X7_compare 0 0 0 0 88), (88, i_is 4 90), (90, i_al 0 91), (91, i_c (.int (0)) 92), (92, i_c (.int (0)) 93), (93, i_w [(96, [0, 2, 4])] (i_cv 7 3 1 f_X7_at 0 0 0 0 96)), (96, i_c (.int (2)) 97), (97, i_qi (fun x z => x - x / z * z) 98), (98, i_c (.int (1)) 99), (99, i_zz (fun x z => x = z) 102 106), (102, i_c (.int (1)) 103), (103, i_w [(107, [0, 2, 4])] (i_g 107)), (106, i_w [(107, [0, 2, 4])] (i_c (.int (0)) 107)), (107, i_is 5 109), (109, i_il 2 110), (110, i_z (fun x => x = 0) 113 130), (113, i_al 0 114), (114, i_gf 7 3 117), (117, i_c (.int (1)) 118), (118, i_ia 0 119), (119, i_z (fun x => 0 ≤ x) 126 122), (122, i_c (.int (1)) 123), (123, i_w [(177, [0])] (i_g 177)), (126, i_c (.int (0)) 127), (127, i_w [(177, [0])] (i_g 177)), (130, i_il 2 131), (131, i_c (.int (1)) 132), (132, i_zz (fun x z => x = z) 135 152), (135, i_al 0 136), (136, i_gf 7 3 139), (139, i_c (.int (1)) 140), (140, i_ia 0 141), (141, i_z (fun x => x ≤ 0) 148 144), (144, i_c (.int (1)) 145), (145, i_w [(177, [0])] (i_g 177)), (148, i_c (.int (0)) 149), (149, i_w [(177, [0])] (i_g 177)), (152, i_il 2 153), (153, i_c (.int (2)) 154), (154, i_w [(176, [0])] (i_zz (fun x z => x = z) 157 176)), (157, i_il 4 159), (159, i_w [(172, [0])] (i_z (fun x => 0 < x) 172 162)), (162, i_il 4 164), (164, i_w [(176, [0])] (i_z (fun x => x = 0) 167 176)), (167, i_il 5 169), (169, i_w [(172, [0]), (176, [0])] (i_z (fun x => x = 0) 176 172)), (172, i_c (.int (1)) 173), (173, i_w [(177, [0])] (i_g 177)), (176, i_w [(177, [0])] (i_c (.int (0)) 177)), (177, i_w [(178, [0, 3])] (i_is 3 178)), (178, i_il 3 179), (179, i_w [(190, [0])] (i_z (fun x => x = 0) 190 182)), (182, i_al 0 183), (183, i_c (.int (0)) 184), (184, i_c (.int (0)) 185), (185, i_c (.int (18)) 187), (187, i_w [(190, [0])] (i_cv 7 4 0 f_X7_plus 0 0 0 0 190)), (190, i_al 0 191), (191, i_gf 7 3 194), (194, i_c (.int (0)) 195), (195, i_al 0 196), (196, i_gf 7 2 199), (199, i_c (.int (0)) 200), (200, i_ia 0 201), (201, i_z (fun x => x = 0) 204 208), (204, i_c (.int (0)) 205), (205, i_w [(214, [0])] (i_g 214)), (208, i_al 0 209), (209, i_gf 7 3 212), (212, i_c (.int (1)) 213), (213, i_w [(214, [0])] (i_ia 0 214)), (214, i_ist 215), (215, i_al 0 216), (216, i_c (.int (1)) 217), (217, i_c (.long (1)) 218), (218, i_cv 7 3 0 f_X7_put 0 0 0 0 221), (221, i_al 0 222), (222, i_c (.int (1)) 223), (223, i_cv 7 2 1 f_X7_comes 0 0 0 0 226), (226, i_ri 0 0)]
set_option maxRecDepth 20000 in
theorem A_X7_whole : sd_A yX7_whole cX7_whole 6 (some .int) rm_X7_whole T_X7_whole := by
  refine sd_c (pc := 0) (f := i_al 0 1) (s_aln (i := 0) dX7_whole_0) ?_
  refine sd_c (pc := 1) (f := i_c (.int (0)) 2) (s_iconst dX7_whole_1 (by decide)) ?_
  refine sd_c (pc := 2) (f := i_pi 7 0 5) (s_pi (ci := 7) (k := 0) dX7_whole_2 rfl in_X7 tyX7_ok nmX7 (by decide) w778 (Or.inl rfl) rfl) ?_
  refine sd_c (pc := 5) (f := i_al 0 6) (s_aln (i := 0) dX7_whole_5) ?_
  refine sd_c (pc := 6) (f := i_il 1 7) (s_iln (i := 1) dX7_whole_6) ?_
  refine sd_c (pc := 7) (f := i_cv 7 2 1 f_X7_isValue 0 0 0 0 10) (s_cv (np := 1) (rk := 1) (ci := 7) (rmz := rm_X7_isValue) dX7_whole_7 V_X7_isValue w908 w910 wS_PlanFractionsModel_isValue__I_Z rfl (by decide)) ?_
  refine sd_c (pc := 10) (f := i_z (fun x => x = 0) 22 13) (s_if_eq (tgt := 22) dX7_whole_10 (by decide)) ?_
  refine sd_c (pc := 13) (f := i_il 2 14) (s_iln (i := 2) dX7_whole_13) ?_
  refine sd_c (pc := 14) (f := i_z (fun x => x < 0) 22 17) (s_if_lt (tgt := 22) dX7_whole_14 (by decide)) ?_
  refine sd_c (pc := 17) (f := i_il 2 18) (s_iln (i := 2) dX7_whole_17) ?_
  refine sd_c (pc := 18) (f := i_c (.int (3)) 19) (s_iconst dX7_whole_18 (by decide)) ?_
  refine sd_c (pc := 19) (f := i_zz (fun x z => x ≤ z) 25 22) (s_ic_le (tgt := 25) dX7_whole_19 (by decide)) ?_
  refine sd_c (pc := 22) (f := i_c (.int (-2)) 24) (s_bipush dX7_whole_22 (by decide)) ?_
  refine sd_c (pc := 24) (f := i_ri 0 0) (s_ri dX7_whole_24 rfl) ?_
  refine sd_c (pc := 25) (f := i_al 0 26) (s_aln (i := 0) dX7_whole_25) ?_
  refine sd_c (pc := 26) (f := i_gf 7 9 29) (s_gf (ci := 7) (k := 9) dX7_whole_26 rfl in_X7 (by decide) w787) ?_
  refine sd_c (pc := 29) (f := i_c (.int (240)) 32) (s_sipush dX7_whole_29 (by decide)) ?_
  refine sd_c (pc := 32) (f := i_zz (fun x z => x = z) 35 38) (s_ic_ne (tgt := 38) dX7_whole_32 (by decide)) ?_
  refine sd_c (pc := 35) (f := i_c (.int (-3)) 37) (s_bipush dX7_whole_35 (by decide)) ?_
  refine sd_c (pc := 37) (f := i_ri 0 0) (s_ri dX7_whole_37 rfl) ?_
  refine sd_c (pc := 38) (f := i_al 0 39) (s_aln (i := 0) dX7_whole_38) ?_
  refine sd_c (pc := 39) (f := i_c (.int (1)) 40) (s_iconst dX7_whole_39 (by decide)) ?_
  refine sd_c (pc := 40) (f := i_il 1 41) (s_iln (i := 1) dX7_whole_40) ?_
  refine sd_c (pc := 41) (f := i_cv 7 3 0 f_X7_load 0 0 0 0 44) (s_cv (np := 2) (rk := 0) (ci := 7) (rmz := rm_X7_load) dX7_whole_41 V_X7_load w912 w914 wS_PlanFractionsModel_load__II_V rfl (by decide)) ?_
  refine sd_c (pc := 44) (f := i_al 0 45) (s_aln (i := 0) dX7_whole_44) ?_
  refine sd_c (pc := 45) (f := i_c (.int (12)) 47) (s_bipush dX7_whole_45 (by decide)) ?_
  refine sd_c (pc := 47) (f := i_c (.int (2)) 48) (s_iconst dX7_whole_47 (by decide)) ?_
  refine sd_c (pc := 48) (f := i_w [(51, [0, 2])] (i_cv 7 3 0 f_X7_copy 0 0 0 0 51)) (s_w (s_cv (np := 2) (rk := 0) (ci := 7) (rmz := rm_X7_copy) dX7_whole_48 V_X7_copy w847 w849 wS_PlanFractionsModel_copy__II_V rfl (by decide))) ?_
  refine sd_c (pc := 51) (f := i_al 0 52) (s_aln (i := 0) dX7_whole_51) ?_
  refine sd_c (pc := 52) (f := i_c (.int (12)) 54) (s_bipush dX7_whole_52 (by decide)) ?_
  refine sd_c (pc := 54) (f := i_c (.int (3)) 55) (s_iconst dX7_whole_54 (by decide)) ?_
  refine sd_c (pc := 55) (f := i_c (.int (0)) 56) (s_iconst dX7_whole_55 (by decide)) ?_
  refine sd_c (pc := 56) (f := i_cv 7 4 0 f_X7_divide 0 0 0 0 59) (s_cv (np := 3) (rk := 0) (ci := 7) (rmz := rm_X7_divide) dX7_whole_56 V_X7_divide w851 w853 wS_PlanFractionsModel_divide__III_V rfl (by decide)) ?_
  refine sd_c (pc := 59) (f := i_c (.int (0)) 60) (s_iconst dX7_whole_59 (by decide)) ?_
  refine sd_c (pc := 60) (f := i_is 3 61) (s_isn (i := 3) dX7_whole_60 (by decide)) ?_
  refine sd_c (pc := 61) (f := i_al 0 62) (s_aln (i := 0) dX7_whole_61) ?_
  refine sd_c (pc := 62) (f := i_gf 7 2 65) (s_gf (ci := 7) (k := 2) dX7_whole_62 rfl in_X7 (by decide) w780) ?_
  refine sd_c (pc := 65) (f := i_c (.int (12)) 67) (s_bipush dX7_whole_65 (by decide)) ?_
  refine sd_c (pc := 67) (f := i_ia 0 68) (s_iald dX7_whole_67) ?_
  refine sd_c (pc := 68) (f := i_w [(178, [0, 3])] (i_z (fun x => x ≤ 0) 178 71)) (s_w (s_if_le (tgt := 178) dX7_whole_68 (by decide))) ?_
  refine sd_c (pc := 71) (f := i_al 0 72) (s_aln (i := 0) dX7_whole_71) ?_
  refine sd_c (pc := 72) (f := i_c (.int (10)) 74) (s_bipush dX7_whole_72 (by decide)) ?_
  refine sd_c (pc := 74) (f := i_c (.int (12)) 76) (s_bipush dX7_whole_74 (by decide)) ?_
  refine sd_c (pc := 76) (f := i_c (.int (12)) 78) (s_bipush dX7_whole_76 (by decide)) ?_
  refine sd_c (pc := 78) (f := i_cv 7 4 0 f_X7_plus 0 0 0 0 81) (s_cv (np := 3) (rk := 0) (ci := 7) (rmz := rm_X7_plus) dX7_whole_78 V_X7_plus w928 w930 wS_PlanFractionsModel_plus__III_V rfl (by decide)) ?_
  refine sd_c (pc := 81) (f := i_al 0 82) (s_aln (i := 0) dX7_whole_81) ?_
  refine sd_c (pc := 82) (f := i_c (.int (10)) 84) (s_bipush dX7_whole_82 (by decide)) ?_
  refine sd_c (pc := 84) (f := i_c (.int (3)) 85) (s_iconst dX7_whole_84 (by decide)) ?_
  refine sd_c (pc := 85) (f := i_cv 7 3 1 f_X7_compare 0 0 0 0 88) (s_cv (np := 2) (rk := 1) (ci := 7) (rmz := rm_X7_compare) dX7_whole_85 V_X7_compare w884 w886 wS_PlanFractionsModel_compare__II_I rfl (by decide)) ?_
  refine sd_c (pc := 88) (f := i_is 4 90) (s_is (i := 4) dX7_whole_88 (by decide)) ?_
  refine sd_c (pc := 90) (f := i_al 0 91) (s_aln (i := 0) dX7_whole_90) ?_
  refine sd_c (pc := 91) (f := i_c (.int (0)) 92) (s_iconst dX7_whole_91 (by decide)) ?_
  refine sd_c (pc := 92) (f := i_c (.int (0)) 93) (s_iconst dX7_whole_92 (by decide)) ?_
  refine sd_c (pc := 93) (f := i_w [(96, [0, 2, 4])] (i_cv 7 3 1 f_X7_at 0 0 0 0 96)) (s_w (s_cv (np := 2) (rk := 1) (ci := 7) (rmz := rm_X7_at) dX7_whole_93 V_X7_at w859 w861 wS_PlanFractionsModel_at__II_I rfl (by decide))) ?_
  refine sd_c (pc := 96) (f := i_c (.int (2)) 97) (s_iconst dX7_whole_96 (by decide)) ?_
  refine sd_c (pc := 97) (f := i_qi (fun x z => x - x / z * z) 98) (s_irem dX7_whole_97) ?_
  refine sd_c (pc := 98) (f := i_c (.int (1)) 99) (s_iconst dX7_whole_98 (by decide)) ?_
  refine sd_c (pc := 99) (f := i_zz (fun x z => x = z) 102 106) (s_ic_ne (tgt := 106) dX7_whole_99 (by decide)) ?_
  refine sd_c (pc := 102) (f := i_c (.int (1)) 103) (s_iconst dX7_whole_102 (by decide)) ?_
  refine sd_c (pc := 103) (f := i_w [(107, [0, 2, 4])] (i_g 107)) (s_w (s_goto (tgt := 107) dX7_whole_103 (by decide))) ?_
  refine sd_c (pc := 106) (f := i_w [(107, [0, 2, 4])] (i_c (.int (0)) 107)) (s_w (s_iconst dX7_whole_106 (by decide))) ?_
  refine sd_c (pc := 107) (f := i_is 5 109) (s_is (i := 5) dX7_whole_107 (by decide)) ?_
  refine sd_c (pc := 109) (f := i_il 2 110) (s_iln (i := 2) dX7_whole_109) ?_
  refine sd_c (pc := 110) (f := i_z (fun x => x = 0) 113 130) (s_if_ne (tgt := 130) dX7_whole_110 (by decide)) ?_
  refine sd_c (pc := 113) (f := i_al 0 114) (s_aln (i := 0) dX7_whole_113) ?_
  refine sd_c (pc := 114) (f := i_gf 7 3 117) (s_gf (ci := 7) (k := 3) dX7_whole_114 rfl in_X7 (by decide) w781) ?_
  refine sd_c (pc := 117) (f := i_c (.int (1)) 118) (s_iconst dX7_whole_117 (by decide)) ?_
  refine sd_c (pc := 118) (f := i_ia 0 119) (s_iald dX7_whole_118) ?_
  refine sd_c (pc := 119) (f := i_z (fun x => 0 ≤ x) 126 122) (s_if_ge (tgt := 126) dX7_whole_119 (by decide)) ?_
  refine sd_c (pc := 122) (f := i_c (.int (1)) 123) (s_iconst dX7_whole_122 (by decide)) ?_
  refine sd_c (pc := 123) (f := i_w [(177, [0])] (i_g 177)) (s_w (s_goto (tgt := 177) dX7_whole_123 (by decide))) ?_
  refine sd_c (pc := 126) (f := i_c (.int (0)) 127) (s_iconst dX7_whole_126 (by decide)) ?_
  refine sd_c (pc := 127) (f := i_w [(177, [0])] (i_g 177)) (s_w (s_goto (tgt := 177) dX7_whole_127 (by decide))) ?_
  refine sd_c (pc := 130) (f := i_il 2 131) (s_iln (i := 2) dX7_whole_130) ?_
  refine sd_c (pc := 131) (f := i_c (.int (1)) 132) (s_iconst dX7_whole_131 (by decide)) ?_
  refine sd_c (pc := 132) (f := i_zz (fun x z => x = z) 135 152) (s_ic_ne (tgt := 152) dX7_whole_132 (by decide)) ?_
  refine sd_c (pc := 135) (f := i_al 0 136) (s_aln (i := 0) dX7_whole_135) ?_
  refine sd_c (pc := 136) (f := i_gf 7 3 139) (s_gf (ci := 7) (k := 3) dX7_whole_136 rfl in_X7 (by decide) w781) ?_
  refine sd_c (pc := 139) (f := i_c (.int (1)) 140) (s_iconst dX7_whole_139 (by decide)) ?_
  refine sd_c (pc := 140) (f := i_ia 0 141) (s_iald dX7_whole_140) ?_
  refine sd_c (pc := 141) (f := i_z (fun x => x ≤ 0) 148 144) (s_if_le (tgt := 148) dX7_whole_141 (by decide)) ?_
  refine sd_c (pc := 144) (f := i_c (.int (1)) 145) (s_iconst dX7_whole_144 (by decide)) ?_
  refine sd_c (pc := 145) (f := i_w [(177, [0])] (i_g 177)) (s_w (s_goto (tgt := 177) dX7_whole_145 (by decide))) ?_
  refine sd_c (pc := 148) (f := i_c (.int (0)) 149) (s_iconst dX7_whole_148 (by decide)) ?_
  refine sd_c (pc := 149) (f := i_w [(177, [0])] (i_g 177)) (s_w (s_goto (tgt := 177) dX7_whole_149 (by decide))) ?_
  refine sd_c (pc := 152) (f := i_il 2 153) (s_iln (i := 2) dX7_whole_152) ?_
  refine sd_c (pc := 153) (f := i_c (.int (2)) 154) (s_iconst dX7_whole_153 (by decide)) ?_
  refine sd_c (pc := 154) (f := i_w [(176, [0])] (i_zz (fun x z => x = z) 157 176)) (s_w (s_ic_ne (tgt := 176) dX7_whole_154 (by decide))) ?_
  refine sd_c (pc := 157) (f := i_il 4 159) (s_il dX7_whole_157) ?_
  refine sd_c (pc := 159) (f := i_w [(172, [0])] (i_z (fun x => 0 < x) 172 162)) (s_w (s_if_gt (tgt := 172) dX7_whole_159 (by decide))) ?_
  refine sd_c (pc := 162) (f := i_il 4 164) (s_il dX7_whole_162) ?_
  refine sd_c (pc := 164) (f := i_w [(176, [0])] (i_z (fun x => x = 0) 167 176)) (s_w (s_if_ne (tgt := 176) dX7_whole_164 (by decide))) ?_
  refine sd_c (pc := 167) (f := i_il 5 169) (s_il dX7_whole_167) ?_
  refine sd_c (pc := 169) (f := i_w [(172, [0]), (176, [0])] (i_z (fun x => x = 0) 176 172)) (s_w (s_if_eq (tgt := 176) dX7_whole_169 (by decide))) ?_
  refine sd_c (pc := 172) (f := i_c (.int (1)) 173) (s_iconst dX7_whole_172 (by decide)) ?_
  refine sd_c (pc := 173) (f := i_w [(177, [0])] (i_g 177)) (s_w (s_goto (tgt := 177) dX7_whole_173 (by decide))) ?_
  refine sd_c (pc := 176) (f := i_w [(177, [0])] (i_c (.int (0)) 177)) (s_w (s_iconst dX7_whole_176 (by decide))) ?_
  refine sd_c (pc := 177) (f := i_w [(178, [0, 3])] (i_is 3 178)) (s_w (s_isn (i := 3) dX7_whole_177 (by decide))) ?_
  refine sd_c (pc := 178) (f := i_il 3 179) (s_iln (i := 3) dX7_whole_178) ?_
  refine sd_c (pc := 179) (f := i_w [(190, [0])] (i_z (fun x => x = 0) 190 182)) (s_w (s_if_eq (tgt := 190) dX7_whole_179 (by decide))) ?_
  refine sd_c (pc := 182) (f := i_al 0 183) (s_aln (i := 0) dX7_whole_182) ?_
  refine sd_c (pc := 183) (f := i_c (.int (0)) 184) (s_iconst dX7_whole_183 (by decide)) ?_
  refine sd_c (pc := 184) (f := i_c (.int (0)) 185) (s_iconst dX7_whole_184 (by decide)) ?_
  refine sd_c (pc := 185) (f := i_c (.int (18)) 187) (s_bipush dX7_whole_185 (by decide)) ?_
  refine sd_c (pc := 187) (f := i_w [(190, [0])] (i_cv 7 4 0 f_X7_plus 0 0 0 0 190)) (s_w (s_cv (np := 3) (rk := 0) (ci := 7) (rmz := rm_X7_plus) dX7_whole_187 V_X7_plus w928 w930 wS_PlanFractionsModel_plus__III_V rfl (by decide))) ?_
  refine sd_c (pc := 190) (f := i_al 0 191) (s_aln (i := 0) dX7_whole_190) ?_
  refine sd_c (pc := 191) (f := i_gf 7 3 194) (s_gf (ci := 7) (k := 3) dX7_whole_191 rfl in_X7 (by decide) w781) ?_
  refine sd_c (pc := 194) (f := i_c (.int (0)) 195) (s_iconst dX7_whole_194 (by decide)) ?_
  refine sd_c (pc := 195) (f := i_al 0 196) (s_aln (i := 0) dX7_whole_195) ?_
  refine sd_c (pc := 196) (f := i_gf 7 2 199) (s_gf (ci := 7) (k := 2) dX7_whole_196 rfl in_X7 (by decide) w780) ?_
  refine sd_c (pc := 199) (f := i_c (.int (0)) 200) (s_iconst dX7_whole_199 (by decide)) ?_
  refine sd_c (pc := 200) (f := i_ia 0 201) (s_iald dX7_whole_200) ?_
  refine sd_c (pc := 201) (f := i_z (fun x => x = 0) 204 208) (s_if_ne (tgt := 208) dX7_whole_201 (by decide)) ?_
  refine sd_c (pc := 204) (f := i_c (.int (0)) 205) (s_iconst dX7_whole_204 (by decide)) ?_
  refine sd_c (pc := 205) (f := i_w [(214, [0])] (i_g 214)) (s_w (s_goto (tgt := 214) dX7_whole_205 (by decide))) ?_
  refine sd_c (pc := 208) (f := i_al 0 209) (s_aln (i := 0) dX7_whole_208) ?_
  refine sd_c (pc := 209) (f := i_gf 7 3 212) (s_gf (ci := 7) (k := 3) dX7_whole_209 rfl in_X7 (by decide) w781) ?_
  refine sd_c (pc := 212) (f := i_c (.int (1)) 213) (s_iconst dX7_whole_212 (by decide)) ?_
  refine sd_c (pc := 213) (f := i_w [(214, [0])] (i_ia 0 214)) (s_w (s_iald dX7_whole_213)) ?_
  refine sd_c (pc := 214) (f := i_ist 215) (s_ist dX7_whole_214) ?_
  refine sd_c (pc := 215) (f := i_al 0 216) (s_aln (i := 0) dX7_whole_215) ?_
  refine sd_c (pc := 216) (f := i_c (.int (1)) 217) (s_iconst dX7_whole_216 (by decide)) ?_
  refine sd_c (pc := 217) (f := i_c (.long (1)) 218) (s_lconst dX7_whole_217 (by decide)) ?_
  refine sd_c (pc := 218) (f := i_cv 7 3 0 f_X7_put 0 0 0 0 221) (s_cv (np := 2) (rk := 0) (ci := 7) (rmz := rm_X7_put) dX7_whole_218 V_X7_put w773 w775 wS_PlanFractionsModel_put__IJ_V rfl (by decide)) ?_
  refine sd_c (pc := 221) (f := i_al 0 222) (s_aln (i := 0) dX7_whole_221) ?_
  refine sd_c (pc := 222) (f := i_c (.int (1)) 223) (s_iconst dX7_whole_222 (by decide)) ?_
  refine sd_c (pc := 223) (f := i_cv 7 2 1 f_X7_comes 0 0 0 0 226) (s_cv (np := 1) (rk := 1) (ci := 7) (rmz := rm_X7_comes) dX7_whole_223 V_X7_comes w888 w890 wS_PlanFractionsModel_comes__Z_I rfl (by decide)) ?_
  refine sd_c (pc := 226) (f := i_ri 0 0) (s_ri dX7_whole_226 rfl) ?_
  exact sd_n
noncomputable def f_X7_whole : List Value → me_M → Option sm_R := sd_f 6 T_X7_whole
theorem V_X7_whole : sd_V yX7_whole cX7_whole 6 (some .int) rm_X7_whole 2 f_X7_whole := ⟨sd_met A_X7_whole (by decide +kernel), w971, w8, by decide +kernel⟩
set_option maxRecDepth 20000 in
theorem e_X7_whole (x0 : Nat) (x1 : Int32) (x2 : Int32) (M : me_M) : f_X7_whole [.ref x0, .int x1, .int x2] M = (me_obj M 7 x0).bind fun f1 => if 0 < f1.length then ((me_obj (me_set M x0 (.inr (7, f1.set 0 (.int (0 : Int32))))) 7 x0).bind fun _ => (f_X7_isValue [.ref x0, .int x1] (me_set M x0 (.inr (7, f1.set 0 (.int (0 : Int32)))))).bind fun r2 => r2.1.bind fun v3 => (v_int v3).bind fun y4 => if y4 = 0 then (if 0 ≤ 0 ∧ 0 ≤ 0 then some (some (.int (-2 : Int32)), r2.2) else none) else if x2 < 0 then (if 0 ≤ 0 ∧ 0 ≤ 0 then some (some (.int (-2 : Int32)), r2.2) else none) else if x2 ≤ (3 : Int32) then ((me_obj r2.2 7 x0).bind fun f5 => (f5[9]?).bind fun w6 => (v_int w6).bind fun y7 => if y7 = (240 : Int32) then (if 0 ≤ 0 ∧ 0 ≤ 0 then some (some (.int (-3 : Int32)), r2.2) else none) else (me_obj r2.2 7 x0).bind fun _ => (f_X7_load [.ref x0, .int (1 : Int32), .int x1] r2.2).bind fun r8 => cond r8.1.isNone ((me_obj r8.2 7 x0).bind fun _ => (f_X7_copy [.ref x0, .int (12 : Int32), .int (2 : Int32)] r8.2).bind fun r9 => cond r9.1.isNone (sm T_X7_whole (51, [(0, .ref x0), (2, .int x2)], [], r9.2, 0, 0)) none) none) else if 0 ≤ 0 ∧ 0 ≤ 0 then some (some (.int (-2 : Int32)), r2.2) else none) else none := (show f_X7_whole [.ref x0, .int x1, .int x2] M = sm T_X7_whole (0, [(0, .ref x0), (1, .int x1), (2, .int x2)], [], M, 0, 0) from rfl).trans (by have hF := sm_fx A_X7_whole; generalize sm T_X7_whole = F_ at hF ⊢; exact (sm_h hF (f := i_al 0 1) rfl).trans (q_al rfl ((sm_h hF (f := i_c (.int (0)) 2) rfl).trans (q_c ((sm_h hF (f := i_pi 7 0 5) rfl).trans (q_pi (vi (vr (ob fun f1 => ic ((sm_h hF (f := i_al 0 6) rfl).trans (q_al rfl ((sm_h hF (f := i_il 1 7) rfl).trans (q_il rfl ((sm_h hF (f := i_cv 7 2 1 f_X7_isValue 0 0 0 0 10) rfl).trans (q_cv rfl rfl rfl (vr (ob fun _ => ob fun r2 => cT rfl (q_r1 (ob fun v3 => ob fun y4 => (sm_h hF (f := i_z (fun x => x = 0) 22 13) rfl).trans (q_z (vi (ic ((sm_h hF (f := i_c (.int (-2)) 24) rfl).trans (q_c ((sm_h hF (f := i_ri 0 0) rfl).trans (q_ri (vi (rfl)))))) ((sm_h hF (f := i_il 2 14) rfl).trans (q_il rfl ((sm_h hF (f := i_z (fun x => x < 0) 22 17) rfl).trans (q_z (vi (ic ((sm_h hF (f := i_c (.int (-2)) 24) rfl).trans (q_c ((sm_h hF (f := i_ri 0 0) rfl).trans (q_ri (vi (rfl)))))) ((sm_h hF (f := i_il 2 18) rfl).trans (q_il rfl ((sm_h hF (f := i_c (.int (3)) 19) rfl).trans (q_c ((sm_h hF (f := i_zz (fun x z => x ≤ z) 25 22) rfl).trans (q_zz (vi (vi (ic ((sm_h hF (f := i_al 0 26) rfl).trans (q_al rfl ((sm_h hF (f := i_gf 7 9 29) rfl).trans (q_gf (vr (ob fun f5 => ob fun w6 => (sm_h hF (f := i_c (.int (240)) 32) rfl).trans (q_c ((sm_h hF (f := i_zz (fun x z => x = z) 35 38) rfl).trans (q_zz (ob fun y7 => vi (ic ((sm_h hF (f := i_c (.int (-3)) 37) rfl).trans (q_c ((sm_h hF (f := i_ri 0 0) rfl).trans (q_ri (vi (rfl)))))) ((sm_h hF (f := i_al 0 39) rfl).trans (q_al rfl ((sm_h hF (f := i_c (.int (1)) 40) rfl).trans (q_c ((sm_h hF (f := i_il 1 41) rfl).trans (q_il rfl ((sm_h hF (f := i_cv 7 3 0 f_X7_load 0 0 0 0 44) rfl).trans (q_cv rfl rfl rfl (vr (ob fun _ => ob fun r8 => cT rfl (q_r0 (cg ((sm_h hF (f := i_al 0 45) rfl).trans (q_al rfl ((sm_h hF (f := i_c (.int (12)) 47) rfl).trans (q_c ((sm_h hF (f := i_c (.int (2)) 48) rfl).trans (q_c ((sm_h hF (f := i_w [(51, [0, 2])] (i_cv 7 3 0 f_X7_copy 0 0 0 0 51)) rfl).trans (q_w (q_cv rfl rfl rfl (vr (ob fun _ => ob fun r9 => cT rfl (q_r0 (cg (rfl) rfl))))))))))))) rfl))))))))))))))))))))))) ((sm_h hF (f := i_c (.int (-2)) 24) rfl).trans (q_c ((sm_h hF (f := i_ri 0 0) rfl).trans (q_ri (vi (rfl)))))))))))))))))))))))))))))))))) (rfl))))))))))
set_option maxRecDepth 20000 in
theorem e_X7_whole_51 (x0 : Nat) (x2 : Int32) (M : me_M) : sm T_X7_whole (51, [(0, .ref x0), (2, .int x2)], [], M, 0, 0) = (me_obj M 7 x0).bind fun _ => (f_X7_divide [.ref x0, .int (12 : Int32), .int (3 : Int32), .int (0 : Int32)] M).bind fun r1 => cond r1.1.isNone ((me_obj r1.2 7 x0).bind fun f2 => (f2[2]?).bind fun w3 => (v_ref w3).bind fun a4 => (me_int r1.2 0 a4).bind fun f5 => if (12 : Int32) < 0 ∨ f5.1 ≤ (12 : Int32).toNatClampNeg then (none) else if (f5.2 (12 : Int32).toNatClampNeg) ≤ 0 then (sm T_X7_whole (178, [(0, .ref x0), (3, .int (0 : Int32))], [], r1.2, 0, 0)) else (me_obj r1.2 7 x0).bind fun _ => (f_X7_plus [.ref x0, .int (10 : Int32), .int (12 : Int32), .int (12 : Int32)] r1.2).bind fun r6 => cond r6.1.isNone ((me_obj r6.2 7 x0).bind fun _ => (f_X7_compare [.ref x0, .int (10 : Int32), .int (3 : Int32)] r6.2).bind fun r7 => r7.1.bind fun v8 => (v_int v8).bind fun y9 => (me_obj r7.2 7 x0).bind fun _ => (f_X7_at [.ref x0, .int (0 : Int32), .int (0 : Int32)] r7.2).bind fun r10 => r10.1.bind fun v11 => (v_int v11).bind fun y12 => sm T_X7_whole (96, [(0, .ref x0), (2, .int x2), (4, .int y9)], [.int y12], r10.2, 0, 0)) none) none := (by have hF := sm_fx A_X7_whole; generalize sm T_X7_whole = F_ at hF ⊢; exact (sm_h hF (f := i_al 0 52) rfl).trans (q_al rfl ((sm_h hF (f := i_c (.int (12)) 54) rfl).trans (q_c ((sm_h hF (f := i_c (.int (3)) 55) rfl).trans (q_c ((sm_h hF (f := i_c (.int (0)) 56) rfl).trans (q_c ((sm_h hF (f := i_cv 7 4 0 f_X7_divide 0 0 0 0 59) rfl).trans (q_cv rfl rfl rfl (vr (ob fun _ => ob fun r1 => cT rfl (q_r0 (cg ((sm_h hF (f := i_c (.int (0)) 60) rfl).trans (q_c ((sm_h hF (f := i_is 3 61) rfl).trans (q_is (fun x_ => [(0, .ref x0), (2, .int x2), (3, .int x_)]) (fun _ => rfl) (vi ((sm_h hF (f := i_al 0 62) rfl).trans (q_al rfl ((sm_h hF (f := i_gf 7 2 65) rfl).trans (q_gf (vr (ob fun f2 => ob fun w3 => (sm_h hF (f := i_c (.int (12)) 67) rfl).trans (q_c ((sm_h hF (f := i_ia 0 68) rfl).trans (q_ia (vi (ob fun a4 => ob fun f5 => ic (rfl) ((sm_h hF (f := i_w [(178, [0, 3])] (i_z (fun x => x ≤ 0) 178 71)) rfl).trans (q_w (q_z (vi (ic (rfl) ((sm_h hF (f := i_al 0 72) rfl).trans (q_al rfl ((sm_h hF (f := i_c (.int (10)) 74) rfl).trans (q_c ((sm_h hF (f := i_c (.int (12)) 76) rfl).trans (q_c ((sm_h hF (f := i_c (.int (12)) 78) rfl).trans (q_c ((sm_h hF (f := i_cv 7 4 0 f_X7_plus 0 0 0 0 81) rfl).trans (q_cv rfl rfl rfl (vr (ob fun _ => ob fun r6 => cT rfl (q_r0 (cg ((sm_h hF (f := i_al 0 82) rfl).trans (q_al rfl ((sm_h hF (f := i_c (.int (10)) 84) rfl).trans (q_c ((sm_h hF (f := i_c (.int (3)) 85) rfl).trans (q_c ((sm_h hF (f := i_cv 7 3 1 f_X7_compare 0 0 0 0 88) rfl).trans (q_cv rfl rfl rfl (vr (ob fun _ => ob fun r7 => cT rfl (q_r1 (ob fun v8 => ob fun y9 => (sm_h hF (f := i_is 4 90) rfl).trans (q_is (fun x_ => [(0, .ref x0), (2, .int x2), (3, .int (0 : Int32)), (4, .int x_)]) (fun _ => rfl) (vi ((sm_h hF (f := i_al 0 91) rfl).trans (q_al rfl ((sm_h hF (f := i_c (.int (0)) 92) rfl).trans (q_c ((sm_h hF (f := i_c (.int (0)) 93) rfl).trans (q_c ((sm_h hF (f := i_w [(96, [0, 2, 4])] (i_cv 7 3 1 f_X7_at 0 0 0 0 96)) rfl).trans (q_w (q_cv rfl rfl rfl (vr (ob fun _ => ob fun r10 => cT rfl (q_r1 (ob fun v11 => ob fun y12 => rfl))))))))))))))))))))))))))) rfl))))))))))))))))))))))))))))))))))) rfl))))))))))))))
set_option maxRecDepth 20000 in
theorem e_X7_whole_178 (x0 : Nat) (x3 : Int32) (M : me_M) : sm T_X7_whole (178, [(0, .ref x0), (3, .int x3)], [], M, 0, 0) = if x3 = 0 then (sm T_X7_whole (190, [(0, .ref x0)], [], M, 0, 0)) else (me_obj M 7 x0).bind fun _ => (f_X7_plus [.ref x0, .int (0 : Int32), .int (0 : Int32), .int (18 : Int32)] M).bind fun r1 => cond r1.1.isNone (sm T_X7_whole (190, [(0, .ref x0)], [], r1.2, 0, 0)) none := (by have hF := sm_fx A_X7_whole; generalize sm T_X7_whole = F_ at hF ⊢; exact (sm_h hF (f := i_il 3 179) rfl).trans (q_il rfl ((sm_h hF (f := i_w [(190, [0])] (i_z (fun x => x = 0) 190 182)) rfl).trans (q_w (q_z (vi (ic (rfl) ((sm_h hF (f := i_al 0 183) rfl).trans (q_al rfl ((sm_h hF (f := i_c (.int (0)) 184) rfl).trans (q_c ((sm_h hF (f := i_c (.int (0)) 185) rfl).trans (q_c ((sm_h hF (f := i_c (.int (18)) 187) rfl).trans (q_c ((sm_h hF (f := i_w [(190, [0])] (i_cv 7 4 0 f_X7_plus 0 0 0 0 190)) rfl).trans (q_w (q_cv rfl rfl rfl (vr (ob fun _ => ob fun r1 => cT rfl (q_r0 (cg (rfl) rfl))))))))))))))))))))))
set_option maxRecDepth 20000 in
theorem e_X7_whole_96 (x0 : Nat) (x2 : Int32) (x4 : Int32) (s0 : Int32) (M : me_M) : sm T_X7_whole (96, [(0, .ref x0), (2, .int x2), (4, .int x4)], [.int s0], M, 0, 0) = if (2 : Int32) = 0 then (none) else if (s0 - s0 / (2 : Int32) * (2 : Int32)) = (1 : Int32) then (sm T_X7_whole (107, [(0, .ref x0), (2, .int x2), (4, .int x4)], [.int (1 : Int32)], M, 0, 0)) else sm T_X7_whole (107, [(0, .ref x0), (2, .int x2), (4, .int x4)], [.int (0 : Int32)], M, 0, 0) := (by have hF := sm_fx A_X7_whole; generalize sm T_X7_whole = F_ at hF ⊢; exact (sm_h hF (f := i_c (.int (2)) 97) rfl).trans (q_c ((sm_h hF (f := i_qi (fun x z => x - x / z * z) 98) rfl).trans (q_qi (vi (vi (ic (rfl) ((sm_h hF (f := i_c (.int (1)) 99) rfl).trans (q_c ((sm_h hF (f := i_zz (fun x z => x = z) 102 106) rfl).trans (q_zz (vi (vi (ic ((sm_h hF (f := i_c (.int (1)) 103) rfl).trans (q_c ((sm_h hF (f := i_w [(107, [0, 2, 4])] (i_g 107)) rfl).trans (q_w (q_g (rfl)))))) ((sm_h hF (f := i_w [(107, [0, 2, 4])] (i_c (.int (0)) 107)) rfl).trans (q_w (q_c (rfl))))))))))))))))))
set_option maxRecDepth 20000 in
theorem e_X7_whole_190 (x0 : Nat) (M : me_M) : sm T_X7_whole (190, [(0, .ref x0)], [], M, 0, 0) = (me_obj M 7 x0).bind fun f1 => (f1[3]?).bind fun w2 => (me_obj M 7 x0).bind fun f3 => (f3[2]?).bind fun w4 => (v_ref w4).bind fun a5 => (me_int M 0 a5).bind fun f6 => if (0 : Int32) < 0 ∨ f6.1 ≤ (0 : Int32).toNatClampNeg then (none) else if (f6.2 (0 : Int32).toNatClampNeg) = 0 then (sm T_X7_whole (214, [(0, .ref x0)], [.int (0 : Int32), .int (0 : Int32), w2], M, 0, 0)) else (me_obj M 7 x0).bind fun f7 => (f7[3]?).bind fun w8 => (v_ref w8).bind fun a9 => (me_int M 0 a9).bind fun f10 => if (1 : Int32) < 0 ∨ f10.1 ≤ (1 : Int32).toNatClampNeg then (none) else sm T_X7_whole (214, [(0, .ref x0)], [.int (f10.2 (1 : Int32).toNatClampNeg), .int (0 : Int32), w2], M, 0, 0) := (by have hF := sm_fx A_X7_whole; generalize sm T_X7_whole = F_ at hF ⊢; exact (sm_h hF (f := i_al 0 191) rfl).trans (q_al rfl ((sm_h hF (f := i_gf 7 3 194) rfl).trans (q_gf (vr (ob fun f1 => ob fun w2 => (sm_h hF (f := i_c (.int (0)) 195) rfl).trans (q_c ((sm_h hF (f := i_al 0 196) rfl).trans (q_al rfl ((sm_h hF (f := i_gf 7 2 199) rfl).trans (q_gf (vr (ob fun f3 => ob fun w4 => (sm_h hF (f := i_c (.int (0)) 200) rfl).trans (q_c ((sm_h hF (f := i_ia 0 201) rfl).trans (q_ia (vi (ob fun a5 => ob fun f6 => ic (rfl) ((sm_h hF (f := i_z (fun x => x = 0) 204 208) rfl).trans (q_z (vi (ic ((sm_h hF (f := i_c (.int (0)) 205) rfl).trans (q_c ((sm_h hF (f := i_w [(214, [0])] (i_g 214)) rfl).trans (q_w (q_g (rfl)))))) ((sm_h hF (f := i_al 0 209) rfl).trans (q_al rfl ((sm_h hF (f := i_gf 7 3 212) rfl).trans (q_gf (vr (ob fun f7 => ob fun w8 => (sm_h hF (f := i_c (.int (1)) 213) rfl).trans (q_c ((sm_h hF (f := i_w [(214, [0])] (i_ia 0 214)) rfl).trans (q_w (q_ia (vi (ob fun a9 => ob fun f10 => ic (rfl) (rfl)))))))))))))))))))))))))))))))))))
set_option maxRecDepth 20000 in
theorem e_X7_whole_107 (x0 : Nat) (x2 : Int32) (x4 : Int32) (s0 : Int32) (M : me_M) : sm T_X7_whole (107, [(0, .ref x0), (2, .int x2), (4, .int x4)], [.int s0], M, 0, 0) = if x2 = 0 then ((me_obj M 7 x0).bind fun f5 => (f5[3]?).bind fun w6 => (v_ref w6).bind fun a7 => (me_int M 0 a7).bind fun f8 => if (1 : Int32) < 0 ∨ f8.1 ≤ (1 : Int32).toNatClampNeg then (none) else if 0 ≤ (f8.2 (1 : Int32).toNatClampNeg) then (sm T_X7_whole (177, [(0, .ref x0)], [.int (0 : Int32)], M, 0, 0)) else sm T_X7_whole (177, [(0, .ref x0)], [.int (1 : Int32)], M, 0, 0)) else if x2 = (1 : Int32) then ((me_obj M 7 x0).bind fun f1 => (f1[3]?).bind fun w2 => (v_ref w2).bind fun a3 => (me_int M 0 a3).bind fun f4 => if (1 : Int32) < 0 ∨ f4.1 ≤ (1 : Int32).toNatClampNeg then (none) else if (f4.2 (1 : Int32).toNatClampNeg) ≤ 0 then (sm T_X7_whole (177, [(0, .ref x0)], [.int (0 : Int32)], M, 0, 0)) else sm T_X7_whole (177, [(0, .ref x0)], [.int (1 : Int32)], M, 0, 0)) else if x2 = (2 : Int32) then (if 0 < x4 then (sm T_X7_whole (172, [(0, .ref x0)], [], M, 0, 0)) else if x4 = 0 then (if s0 = 0 then (sm T_X7_whole (176, [(0, .ref x0)], [], M, 0, 0)) else sm T_X7_whole (172, [(0, .ref x0)], [], M, 0, 0)) else sm T_X7_whole (176, [(0, .ref x0)], [], M, 0, 0)) else sm T_X7_whole (176, [(0, .ref x0)], [], M, 0, 0) := (by have hF := sm_fx A_X7_whole; generalize sm T_X7_whole = F_ at hF ⊢; exact (sm_h hF (f := i_is 5 109) rfl).trans (q_is (fun x_ => [(0, .ref x0), (2, .int x2), (4, .int x4), (5, .int x_)]) (fun _ => rfl) (vi ((sm_h hF (f := i_il 2 110) rfl).trans (q_il rfl ((sm_h hF (f := i_z (fun x => x = 0) 113 130) rfl).trans (q_z (vi (ic ((sm_h hF (f := i_al 0 114) rfl).trans (q_al rfl ((sm_h hF (f := i_gf 7 3 117) rfl).trans (q_gf (vr (ob fun f5 => ob fun w6 => (sm_h hF (f := i_c (.int (1)) 118) rfl).trans (q_c ((sm_h hF (f := i_ia 0 119) rfl).trans (q_ia (vi (ob fun a7 => ob fun f8 => ic (rfl) ((sm_h hF (f := i_z (fun x => 0 ≤ x) 126 122) rfl).trans (q_z (vi (ic ((sm_h hF (f := i_c (.int (0)) 127) rfl).trans (q_c ((sm_h hF (f := i_w [(177, [0])] (i_g 177)) rfl).trans (q_w (q_g (rfl)))))) ((sm_h hF (f := i_c (.int (1)) 123) rfl).trans (q_c ((sm_h hF (f := i_w [(177, [0])] (i_g 177)) rfl).trans (q_w (q_g (rfl))))))))))))))))))))) ((sm_h hF (f := i_il 2 131) rfl).trans (q_il rfl ((sm_h hF (f := i_c (.int (1)) 132) rfl).trans (q_c ((sm_h hF (f := i_zz (fun x z => x = z) 135 152) rfl).trans (q_zz (vi (vi (ic ((sm_h hF (f := i_al 0 136) rfl).trans (q_al rfl ((sm_h hF (f := i_gf 7 3 139) rfl).trans (q_gf (vr (ob fun f1 => ob fun w2 => (sm_h hF (f := i_c (.int (1)) 140) rfl).trans (q_c ((sm_h hF (f := i_ia 0 141) rfl).trans (q_ia (vi (ob fun a3 => ob fun f4 => ic (rfl) ((sm_h hF (f := i_z (fun x => x ≤ 0) 148 144) rfl).trans (q_z (vi (ic ((sm_h hF (f := i_c (.int (0)) 149) rfl).trans (q_c ((sm_h hF (f := i_w [(177, [0])] (i_g 177)) rfl).trans (q_w (q_g (rfl)))))) ((sm_h hF (f := i_c (.int (1)) 145) rfl).trans (q_c ((sm_h hF (f := i_w [(177, [0])] (i_g 177)) rfl).trans (q_w (q_g (rfl))))))))))))))))))))) ((sm_h hF (f := i_il 2 153) rfl).trans (q_il rfl ((sm_h hF (f := i_c (.int (2)) 154) rfl).trans (q_c ((sm_h hF (f := i_w [(176, [0])] (i_zz (fun x z => x = z) 157 176)) rfl).trans (q_w (q_zz (vi (vi (ic ((sm_h hF (f := i_il 4 159) rfl).trans (q_il rfl ((sm_h hF (f := i_w [(172, [0])] (i_z (fun x => 0 < x) 172 162)) rfl).trans (q_w (q_z (vi (ic (rfl) ((sm_h hF (f := i_il 4 164) rfl).trans (q_il rfl ((sm_h hF (f := i_w [(176, [0])] (i_z (fun x => x = 0) 167 176)) rfl).trans (q_w (q_z (vi (ic ((sm_h hF (f := i_il 5 169) rfl).trans (q_il rfl ((sm_h hF (f := i_w [(172, [0]), (176, [0])] (i_z (fun x => x = 0) 176 172)) rfl).trans (q_w (q_z (vi (ic (rfl) (rfl)))))))) (rfl))))))))))))))) (rfl)))))))))))))))))))))))))))))
set_option maxRecDepth 20000 in
theorem e_X7_whole_214 (x0 : Nat) (s0 : Int32) (s1 : Int32) (s2 : Value) (M : me_M) : sm T_X7_whole (214, [(0, .ref x0)], [.int s0, .int s1, s2], M, 0, 0) = (v_ref s2).bind fun a1 => (me_int M 0 a1).bind fun f2 => if s1 < 0 ∨ f2.1 ≤ s1.toNatClampNeg then (none) else (me_obj (me_set M a1 (.inl (0, f2.1, .inl (upd f2.2 s1.toNatClampNeg s0)))) 7 x0).bind fun _ => (f_X7_put [.ref x0, .int (1 : Int32), .long (1 : Int64)] (me_set M a1 (.inl (0, f2.1, .inl (upd f2.2 s1.toNatClampNeg s0))))).bind fun r3 => cond r3.1.isNone ((me_obj r3.2 7 x0).bind fun _ => (f_X7_comes [.ref x0, .int (1 : Int32)] r3.2).bind fun r4 => r4.1.bind fun v5 => (v_int v5).bind fun y6 => if 0 ≤ 0 ∧ 0 ≤ 0 then some (some (.int y6), r4.2) else none) none := (by have hF := sm_fx A_X7_whole; generalize sm T_X7_whole = F_ at hF ⊢; exact (sm_h hF (f := i_ist 215) rfl).trans (q_ist (vi (vi (ob fun a1 => ob fun f2 => ic (rfl) ((sm_h hF (f := i_al 0 216) rfl).trans (q_al rfl ((sm_h hF (f := i_c (.int (1)) 217) rfl).trans (q_c ((sm_h hF (f := i_c (.long (1)) 218) rfl).trans (q_c ((sm_h hF (f := i_cv 7 3 0 f_X7_put 0 0 0 0 221) rfl).trans (q_cv rfl rfl rfl (vr (ob fun _ => ob fun r3 => cT rfl (q_r0 (cg ((sm_h hF (f := i_al 0 222) rfl).trans (q_al rfl ((sm_h hF (f := i_c (.int (1)) 223) rfl).trans (q_c ((sm_h hF (f := i_cv 7 2 1 f_X7_comes 0 0 0 0 226) rfl).trans (q_cv rfl rfl rfl (vr (ob fun _ => ob fun r4 => cT rfl (q_r1 (ob fun v5 => ob fun y6 => (sm_h hF (f := i_ri 0 0) rfl).trans (q_ri (vi (rfl))))))))))))) rfl)))))))))))))))))
set_option maxRecDepth 20000 in
theorem e_X7_whole_176 (x0 : Nat) (M : me_M) : sm T_X7_whole (176, [(0, .ref x0)], [], M, 0, 0) = sm T_X7_whole (177, [(0, .ref x0)], [.int (0 : Int32)], M, 0, 0) := (by have hF := sm_fx A_X7_whole; generalize sm T_X7_whole = F_ at hF ⊢; exact (sm_h hF (f := i_w [(177, [0])] (i_c (.int (0)) 177)) rfl).trans (q_w (q_c (rfl))))
set_option maxRecDepth 20000 in
theorem e_X7_whole_172 (x0 : Nat) (M : me_M) : sm T_X7_whole (172, [(0, .ref x0)], [], M, 0, 0) = sm T_X7_whole (177, [(0, .ref x0)], [.int (1 : Int32)], M, 0, 0) := (by have hF := sm_fx A_X7_whole; generalize sm T_X7_whole = F_ at hF ⊢; exact (sm_h hF (f := i_c (.int (1)) 173) rfl).trans (q_c ((sm_h hF (f := i_w [(177, [0])] (i_g 177)) rfl).trans (q_w (q_g (rfl))))))
set_option maxRecDepth 20000 in
theorem e_X7_whole_177 (x0 : Nat) (s0 : Int32) (M : me_M) : sm T_X7_whole (177, [(0, .ref x0)], [.int s0], M, 0, 0) = sm T_X7_whole (178, [(0, .ref x0), (3, .int s0)], [], M, 0, 0) := (by have hF := sm_fx A_X7_whole; generalize sm T_X7_whole = F_ at hF ⊢; exact (sm_h hF (f := i_w [(178, [0, 3])] (i_is 3 178)) rfl).trans (q_w (q_is (fun x_ => [(0, .ref x0), (3, .int x_)]) (fun _ => rfl) (vi (rfl)))))
/-! X7_compareFractions -/
abbrev rm_X7_compareFractions : Room := { frames := 3, cells := 0, slots := 0, locals := 73 }
noncomputable def T_X7_compareFractions : sm_T := [(0, i_al 0 1), (1, i_gf 7 3 4), (4, i_il 1 5), (5, i_ia 0 6), (6, i_al 0 7), (7, i_gf 7 3 10), (10, i_il 2 11), (11, i_ia 0 12), (12, i_zz (fun x z => x = z) 36 15), (15, i_al 0 16), (16, i_gf 7 3 19), (19, i_il 1 20), (20, i_ia 0 21), (21, i_al 0 22), (22, i_gf 7 3 25), (25, i_il 2 26), (26, i_ia 0 27), (27, i_zz (fun x z => z ≤ x) 34 30), (30, i_c (.int (-1)) 31), (31, i_g 35), (34, i_c (.int (1)) 35), (35, i_ri 0 0), (36, i_al 0 37), (37, i_il 1 38), (38, i_il 2 39), (39, i_cv 7 3 0 f_X7_across 0 0 0 0 42), (42, i_al 0 43), (43, i_gf 7 3 46), (46, i_il 1 47), (47, i_ia 0 48), (48, i_z (fun x => 0 ≤ x) 62 51), (51, i_al 0 52), (52, i_c (.int (11)) 54), (54, i_c (.int (10)) 56), (56, i_cv 7 3 1 f_X7_compare 0 0 0 0 59), (59, i_g 70), (62, i_al 0 63), (63, i_c (.int (10)) 65), (65, i_c (.int (11)) 67), (67, i_cv 7 3 1 f_X7_compare 0 0 0 0 70), (70, i_ri 0 0)]
set_option maxRecDepth 20000 in
theorem A_X7_compareFractions : sd_A yX7_compareFractions cX7_compareFractions 3 (some .int) rm_X7_compareFractions T_X7_compareFractions := by
  refine sd_c (pc := 0) (f := i_al 0 1) (s_aln (i := 0) dX7_compareFractions_0) ?_
  refine sd_c (pc := 1) (f := i_gf 7 3 4) (s_gf (ci := 7) (k := 3) dX7_compareFractions_1 rfl in_X7 (by decide) w781) ?_
  refine sd_c (pc := 4) (f := i_il 1 5) (s_iln (i := 1) dX7_compareFractions_4) ?_
  refine sd_c (pc := 5) (f := i_ia 0 6) (s_iald dX7_compareFractions_5) ?_
  refine sd_c (pc := 6) (f := i_al 0 7) (s_aln (i := 0) dX7_compareFractions_6) ?_
  refine sd_c (pc := 7) (f := i_gf 7 3 10) (s_gf (ci := 7) (k := 3) dX7_compareFractions_7 rfl in_X7 (by decide) w781) ?_
  refine sd_c (pc := 10) (f := i_il 2 11) (s_iln (i := 2) dX7_compareFractions_10) ?_
  refine sd_c (pc := 11) (f := i_ia 0 12) (s_iald dX7_compareFractions_11) ?_
  refine sd_c (pc := 12) (f := i_zz (fun x z => x = z) 36 15) (s_ic_eq (tgt := 36) dX7_compareFractions_12 (by decide)) ?_
  refine sd_c (pc := 15) (f := i_al 0 16) (s_aln (i := 0) dX7_compareFractions_15) ?_
  refine sd_c (pc := 16) (f := i_gf 7 3 19) (s_gf (ci := 7) (k := 3) dX7_compareFractions_16 rfl in_X7 (by decide) w781) ?_
  refine sd_c (pc := 19) (f := i_il 1 20) (s_iln (i := 1) dX7_compareFractions_19) ?_
  refine sd_c (pc := 20) (f := i_ia 0 21) (s_iald dX7_compareFractions_20) ?_
  refine sd_c (pc := 21) (f := i_al 0 22) (s_aln (i := 0) dX7_compareFractions_21) ?_
  refine sd_c (pc := 22) (f := i_gf 7 3 25) (s_gf (ci := 7) (k := 3) dX7_compareFractions_22 rfl in_X7 (by decide) w781) ?_
  refine sd_c (pc := 25) (f := i_il 2 26) (s_iln (i := 2) dX7_compareFractions_25) ?_
  refine sd_c (pc := 26) (f := i_ia 0 27) (s_iald dX7_compareFractions_26) ?_
  refine sd_c (pc := 27) (f := i_zz (fun x z => z ≤ x) 34 30) (s_ic_ge (tgt := 34) dX7_compareFractions_27 (by decide)) ?_
  refine sd_c (pc := 30) (f := i_c (.int (-1)) 31) (s_iconst dX7_compareFractions_30 (by decide)) ?_
  refine sd_c (pc := 31) (f := i_g 35) (s_goto (tgt := 35) dX7_compareFractions_31 (by decide)) ?_
  refine sd_c (pc := 34) (f := i_c (.int (1)) 35) (s_iconst dX7_compareFractions_34 (by decide)) ?_
  refine sd_c (pc := 35) (f := i_ri 0 0) (s_ri dX7_compareFractions_35 rfl) ?_
  refine sd_c (pc := 36) (f := i_al 0 37) (s_aln (i := 0) dX7_compareFractions_36) ?_
  refine sd_c (pc := 37) (f := i_il 1 38) (s_iln (i := 1) dX7_compareFractions_37) ?_
  refine sd_c (pc := 38) (f := i_il 2 39) (s_iln (i := 2) dX7_compareFractions_38) ?_
  refine sd_c (pc := 39) (f := i_cv 7 3 0 f_X7_across 0 0 0 0 42) (s_cv (np := 2) (rk := 0) (ci := 7) (rmz := rm_X7_across) dX7_compareFractions_39 V_X7_across w920 w922 wS_PlanFractionsModel_across__II_V rfl (by decide)) ?_
  refine sd_c (pc := 42) (f := i_al 0 43) (s_aln (i := 0) dX7_compareFractions_42) ?_
  refine sd_c (pc := 43) (f := i_gf 7 3 46) (s_gf (ci := 7) (k := 3) dX7_compareFractions_43 rfl in_X7 (by decide) w781) ?_
  refine sd_c (pc := 46) (f := i_il 1 47) (s_iln (i := 1) dX7_compareFractions_46) ?_
  refine sd_c (pc := 47) (f := i_ia 0 48) (s_iald dX7_compareFractions_47) ?_
  refine sd_c (pc := 48) (f := i_z (fun x => 0 ≤ x) 62 51) (s_if_ge (tgt := 62) dX7_compareFractions_48 (by decide)) ?_
  refine sd_c (pc := 51) (f := i_al 0 52) (s_aln (i := 0) dX7_compareFractions_51) ?_
  refine sd_c (pc := 52) (f := i_c (.int (11)) 54) (s_bipush dX7_compareFractions_52 (by decide)) ?_
  refine sd_c (pc := 54) (f := i_c (.int (10)) 56) (s_bipush dX7_compareFractions_54 (by decide)) ?_
  refine sd_c (pc := 56) (f := i_cv 7 3 1 f_X7_compare 0 0 0 0 59) (s_cv (np := 2) (rk := 1) (ci := 7) (rmz := rm_X7_compare) dX7_compareFractions_56 V_X7_compare w884 w886 wS_PlanFractionsModel_compare__II_I rfl (by decide)) ?_
  refine sd_c (pc := 59) (f := i_g 70) (s_goto (tgt := 70) dX7_compareFractions_59 (by decide)) ?_
  refine sd_c (pc := 62) (f := i_al 0 63) (s_aln (i := 0) dX7_compareFractions_62) ?_
  refine sd_c (pc := 63) (f := i_c (.int (10)) 65) (s_bipush dX7_compareFractions_63 (by decide)) ?_
  refine sd_c (pc := 65) (f := i_c (.int (11)) 67) (s_bipush dX7_compareFractions_65 (by decide)) ?_
  refine sd_c (pc := 67) (f := i_cv 7 3 1 f_X7_compare 0 0 0 0 70) (s_cv (np := 2) (rk := 1) (ci := 7) (rmz := rm_X7_compare) dX7_compareFractions_67 V_X7_compare w884 w886 wS_PlanFractionsModel_compare__II_I rfl (by decide)) ?_
  refine sd_c (pc := 70) (f := i_ri 0 0) (s_ri dX7_compareFractions_70 rfl) ?_
  exact sd_n
noncomputable def f_X7_compareFractions : List Value → me_M → Option sm_R := sd_f 3 T_X7_compareFractions
theorem V_X7_compareFractions : sd_V yX7_compareFractions cX7_compareFractions 3 (some .int) rm_X7_compareFractions 2 f_X7_compareFractions := ⟨sd_met A_X7_compareFractions (by decide +kernel), w979, w8, by decide +kernel⟩
set_option maxRecDepth 20000 in
theorem e_X7_compareFractions (x0 : Nat) (x1 : Int32) (x2 : Int32) (M : me_M) : f_X7_compareFractions [.ref x0, .int x1, .int x2] M = (me_obj M 7 x0).bind fun f1 => (f1[3]?).bind fun w2 => (v_ref w2).bind fun a3 => (me_int M 0 a3).bind fun f4 => if x1 < 0 ∨ f4.1 ≤ x1.toNatClampNeg then (none) else (me_obj M 7 x0).bind fun f5 => (f5[3]?).bind fun w6 => (v_ref w6).bind fun a7 => (me_int M 0 a7).bind fun f8 => if x2 < 0 ∨ f8.1 ≤ x2.toNatClampNeg then (none) else if (f4.2 x1.toNatClampNeg) = (f8.2 x2.toNatClampNeg) then ((me_obj M 7 x0).bind fun _ => (f_X7_across [.ref x0, .int x1, .int x2] M).bind fun r9 => cond r9.1.isNone ((me_obj r9.2 7 x0).bind fun f10 => (f10[3]?).bind fun w11 => (v_ref w11).bind fun a12 => (me_int r9.2 0 a12).bind fun f13 => if x1 < 0 ∨ f13.1 ≤ x1.toNatClampNeg then (none) else if 0 ≤ (f13.2 x1.toNatClampNeg) then ((me_obj r9.2 7 x0).bind fun _ => (f_X7_compare [.ref x0, .int (10 : Int32), .int (11 : Int32)] r9.2).bind fun r14 => r14.1.bind fun v15 => (v_int v15).bind fun y16 => if 0 ≤ 0 ∧ 0 ≤ 0 then some (some (.int y16), r14.2) else none) else (me_obj r9.2 7 x0).bind fun _ => (f_X7_compare [.ref x0, .int (11 : Int32), .int (10 : Int32)] r9.2).bind fun r17 => r17.1.bind fun v18 => (v_int v18).bind fun y19 => if 0 ≤ 0 ∧ 0 ≤ 0 then some (some (.int y19), r17.2) else none) none) else (me_obj M 7 x0).bind fun f20 => (f20[3]?).bind fun w21 => (v_ref w21).bind fun a22 => (me_int M 0 a22).bind fun f23 => if x1 < 0 ∨ f23.1 ≤ x1.toNatClampNeg then (none) else (me_obj M 7 x0).bind fun f24 => (f24[3]?).bind fun w25 => (v_ref w25).bind fun a26 => (me_int M 0 a26).bind fun f27 => if x2 < 0 ∨ f27.1 ≤ x2.toNatClampNeg then (none) else if (f27.2 x2.toNatClampNeg) ≤ (f23.2 x1.toNatClampNeg) then (if 0 ≤ 0 ∧ 0 ≤ 0 then some (some (.int (1 : Int32)), M) else none) else if 0 ≤ 0 ∧ 0 ≤ 0 then some (some (.int (-1 : Int32)), M) else none := (show f_X7_compareFractions [.ref x0, .int x1, .int x2] M = sm T_X7_compareFractions (0, [(0, .ref x0), (1, .int x1), (2, .int x2)], [], M, 0, 0) from rfl).trans (by have hF := sm_fx A_X7_compareFractions; generalize sm T_X7_compareFractions = F_ at hF ⊢; exact (sm_h hF (f := i_al 0 1) rfl).trans (q_al rfl ((sm_h hF (f := i_gf 7 3 4) rfl).trans (q_gf (vr (ob fun f1 => ob fun w2 => (sm_h hF (f := i_il 1 5) rfl).trans (q_il rfl ((sm_h hF (f := i_ia 0 6) rfl).trans (q_ia (vi (ob fun a3 => ob fun f4 => ic (rfl) ((sm_h hF (f := i_al 0 7) rfl).trans (q_al rfl ((sm_h hF (f := i_gf 7 3 10) rfl).trans (q_gf (vr (ob fun f5 => ob fun w6 => (sm_h hF (f := i_il 2 11) rfl).trans (q_il rfl ((sm_h hF (f := i_ia 0 12) rfl).trans (q_ia (vi (ob fun a7 => ob fun f8 => ic (rfl) ((sm_h hF (f := i_zz (fun x z => x = z) 36 15) rfl).trans (q_zz (vi (vi (ic ((sm_h hF (f := i_al 0 37) rfl).trans (q_al rfl ((sm_h hF (f := i_il 1 38) rfl).trans (q_il rfl ((sm_h hF (f := i_il 2 39) rfl).trans (q_il rfl ((sm_h hF (f := i_cv 7 3 0 f_X7_across 0 0 0 0 42) rfl).trans (q_cv rfl rfl rfl (vr (ob fun _ => ob fun r9 => cT rfl (q_r0 (cg ((sm_h hF (f := i_al 0 43) rfl).trans (q_al rfl ((sm_h hF (f := i_gf 7 3 46) rfl).trans (q_gf (vr (ob fun f10 => ob fun w11 => (sm_h hF (f := i_il 1 47) rfl).trans (q_il rfl ((sm_h hF (f := i_ia 0 48) rfl).trans (q_ia (vi (ob fun a12 => ob fun f13 => ic (rfl) ((sm_h hF (f := i_z (fun x => 0 ≤ x) 62 51) rfl).trans (q_z (vi (ic ((sm_h hF (f := i_al 0 63) rfl).trans (q_al rfl ((sm_h hF (f := i_c (.int (10)) 65) rfl).trans (q_c ((sm_h hF (f := i_c (.int (11)) 67) rfl).trans (q_c ((sm_h hF (f := i_cv 7 3 1 f_X7_compare 0 0 0 0 70) rfl).trans (q_cv rfl rfl rfl (vr (ob fun _ => ob fun r14 => cT rfl (q_r1 (ob fun v15 => ob fun y16 => (sm_h hF (f := i_ri 0 0) rfl).trans (q_ri (vi (rfl))))))))))))))) ((sm_h hF (f := i_al 0 52) rfl).trans (q_al rfl ((sm_h hF (f := i_c (.int (11)) 54) rfl).trans (q_c ((sm_h hF (f := i_c (.int (10)) 56) rfl).trans (q_c ((sm_h hF (f := i_cv 7 3 1 f_X7_compare 0 0 0 0 59) rfl).trans (q_cv rfl rfl rfl (vr (ob fun _ => ob fun r17 => cT rfl (q_r1 (ob fun v18 => ob fun y19 => (sm_h hF (f := i_g 70) rfl).trans (q_g ((sm_h hF (f := i_ri 0 0) rfl).trans (q_ri (vi (rfl)))))))))))))))))))))))))))))))) rfl)))))))))))) ((sm_h hF (f := i_al 0 16) rfl).trans (q_al rfl ((sm_h hF (f := i_gf 7 3 19) rfl).trans (q_gf (vr (ob fun f20 => ob fun w21 => (sm_h hF (f := i_il 1 20) rfl).trans (q_il rfl ((sm_h hF (f := i_ia 0 21) rfl).trans (q_ia (vi (ob fun a22 => ob fun f23 => ic (rfl) ((sm_h hF (f := i_al 0 22) rfl).trans (q_al rfl ((sm_h hF (f := i_gf 7 3 25) rfl).trans (q_gf (vr (ob fun f24 => ob fun w25 => (sm_h hF (f := i_il 2 26) rfl).trans (q_il rfl ((sm_h hF (f := i_ia 0 27) rfl).trans (q_ia (vi (ob fun a26 => ob fun f27 => ic (rfl) ((sm_h hF (f := i_zz (fun x z => z ≤ x) 34 30) rfl).trans (q_zz (vi (vi (ic ((sm_h hF (f := i_c (.int (1)) 35) rfl).trans (q_c ((sm_h hF (f := i_ri 0 0) rfl).trans (q_ri (vi (rfl)))))) ((sm_h hF (f := i_c (.int (-1)) 31) rfl).trans (q_c ((sm_h hF (f := i_g 35) rfl).trans (q_g ((sm_h hF (f := i_ri 0 0) rfl).trans (q_ri (vi (rfl))))))))))))))))))))))))))))))))))))))))))))))))))))))))))))))
