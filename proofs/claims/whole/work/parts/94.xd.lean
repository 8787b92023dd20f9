set_option maxRecDepth 4000
theorem xw_k0 : Cond.classLink "PlanFractions" 38 xe_C0 ∈ me_w := me_in3 161 rfl rfl
theorem xw_i0 : Cond.initialized xe_C0 ∈ me_w := me_in1 12 rfl rfl
theorem xw_k1 : Cond.classLink "PlanFractions" 111 xe_C1 ∈ me_w := me_in3 195 rfl rfl
theorem xw_i1 : Cond.initialized xe_C1 ∈ me_w := me_in1 16 rfl rfl
theorem xw_k2 : Cond.classLink "PlanFractions" 130 xe_C2 ∈ me_w := me_in4 4 rfl rfl
theorem xw_i2 : Cond.initialized xe_C2 ∈ me_w := me_in1 18 rfl rfl
theorem w750 : Cond.code yJ9_floorDiv_f86c9 cJ9_floorDiv_f86c9 6 (some .long) ∈ me_w := me_in4 30 rfl rfl
theorem w744 : Cond.code yJ9_floorMod_f86c9 cJ9_floorMod_f86c9 6 (some .long) ∈ me_w := me_in4 24 rfl rfl
theorem w753 : Cond.code yX6_exactSum cX6_exactSum 6 (some .long) ∈ me_w := me_in4 33 rfl rfl
theorem w757 : Cond.code yX6_exactDifference cX6_exactDifference 6 (some .long) ∈ me_w := me_in4 37 rfl rfl
theorem w746 : Cond.constantLong RX6 251 (-1) ∈ me_w := me_in4 26 rfl rfl
theorem w745 : Cond.constantLong RX6 255 (-9223372036854775808) ∈ me_w := me_in4 25 rfl rfl
theorem w761 : Cond.code yX6_exactProduct cX6_exactProduct 6 (some .long) ∈ me_w := me_in4 41 rfl rfl
theorem w742 : Cond.methodLink RX6 259 yJ9_floorMod_f86c9 ∈ me_w := me_in4 22 rfl rfl
theorem w743 : Cond.static yJ9_floorMod_f86c9 ∈ me_w := me_in4 23 rfl rfl
theorem w748 : Cond.methodLink RX6 264 yJ9_floorDiv_f86c9 ∈ me_w := me_in4 28 rfl rfl
theorem w749 : Cond.static yJ9_floorDiv_f86c9 ∈ me_w := me_in4 29 rfl rfl
theorem w741 : Cond.code yX6_exactDivision cX6_exactDivision 5 (some .long) ∈ me_w := me_in4 21 rfl rfl
theorem w765 : Cond.code yX6_exactInt cX6_exactInt 2 (some .long) ∈ me_w := me_in4 45 rfl rfl
theorem w739 : Cond.methodLink RX6 141 yX6_exactDivision ∈ me_w := me_in4 19 rfl rfl
theorem w740 : Cond.static yX6_exactDivision ∈ me_w := me_in4 20 rfl rfl
theorem w751 : Cond.methodLink RX6 145 yX6_exactSum ∈ me_w := me_in4 31 rfl rfl
theorem w752 : Cond.static yX6_exactSum ∈ me_w := me_in4 32 rfl rfl
theorem w755 : Cond.methodLink RX6 149 yX6_exactDifference ∈ me_w := me_in4 35 rfl rfl
theorem w756 : Cond.static yX6_exactDifference ∈ me_w := me_in4 36 rfl rfl
theorem w759 : Cond.methodLink RX6 152 yX6_exactProduct ∈ me_w := me_in4 39 rfl rfl
theorem w760 : Cond.static yX6_exactProduct ∈ me_w := me_in4 40 rfl rfl
theorem w763 : Cond.methodLink RX6 155 yX6_exactInt ∈ me_w := me_in4 43 rfl rfl
theorem w764 : Cond.static yX6_exactInt ∈ me_w := me_in4 44 rfl rfl
theorem w737 : Cond.code yX6_exact cX6_exact 6 (some .long) ∈ me_w := me_in4 17 rfl rfl
theorem w644 : Cond.methodLink RX6 49 yX3_fromLongs ∈ me_w := me_in3 164 rfl rfl
theorem w645 : Cond.instanceMethod yX3_fromLongs ∈ me_w := me_in3 165 rfl rfl
theorem w646 : Cond.selects RX3 yX3_fromLongs yX3_fromLongs ∈ me_w := me_in3 166 rfl rfl
theorem w640 : Cond.code yX6_value cX6_value 5 (some .int) ∈ me_w := me_in3 160 rfl rfl
theorem w654 : Cond.code yX6_over cX6_over 3 (some .int) ∈ me_w := me_in3 174 rfl rfl
theorem w663 : Cond.methodLink RX6 78 yX3_remainder ∈ me_w := me_in3 183 rfl rfl
theorem w664 : Cond.instanceMethod yX3_remainder ∈ me_w := me_in3 184 rfl rfl
theorem w665 : Cond.selects RX3 yX3_remainder yX3_remainder ∈ me_w := me_in3 185 rfl rfl
theorem w662 : Cond.code yX6_rest cX6_rest 3 (some .int) ∈ me_w := me_in3 182 rfl rfl
theorem w691 : Cond.methodLink RX6 116 yX2_side ∈ me_w := me_in3 211 rfl rfl
theorem w692 : Cond.instanceMethod yX2_side ∈ me_w := me_in3 212 rfl rfl
theorem w693 : Cond.selects RX2 yX2_side yX2_side ∈ me_w := me_in3 213 rfl rfl
theorem w695 : Cond.methodLink RX6 120 yX5_fitsLong ∈ me_w := me_in3 215 rfl rfl
theorem w697 : Cond.methodLink RX6 126 yX5_lowLong ∈ me_w := me_in3 217 rfl rfl
theorem w674 : Cond.code yX6_part cX6_part 5 (some .long) ∈ me_w := me_in3 194 rfl rfl
theorem w727 : Cond.methodLink RX6 135 yX5_word ∈ me_w := me_in4 7 rfl rfl
theorem w728 : Cond.instanceMethod yX5_word ∈ me_w := me_in4 8 rfl rfl
theorem w729 : Cond.selects RX5 yX5_word yX5_word ∈ me_w := me_in4 9 rfl rfl
theorem w723 : Cond.code yX6_limb cX6_limb 5 (some .int) ∈ me_w := me_in4 3 rfl rfl
/-! J9_floorDiv_f86c9 -/
abbrev rm_J9_floorDiv_f86c9 : Room := { frames := 0, cells := 0, slots := 0, locals := 0 }
noncomputable def T_J9_floorDiv_f86c9 : sm_T := [(0, i_ll 0 1), (1, i_ll 2 2), (2, i_ql (fun x z => x / z) 3), (3, i_ls 4 5), (5, i_ll 0 6), (6, i_ll 2 7), (7, i_bl (fun x z => x ^^^ z) 8), (8, i_c (.long (0)) 9), (9, i_lc 10), (10, i_z (fun x => 0 ≤ x) 27 13), (13, i_ll 4 15), (15, i_ll 2 16), (16, i_bl (fun x z => x * z) 17), (17, i_ll 0 18), (18, i_lc 19), (19, i_z (fun x => x = 0) 27 22), (22, i_ll 4 24), (24, i_c (.long (1)) 25), (25, i_bl (fun x z => x - z) 26), (26, i_rl 0 0), (27, i_ll 4 29), (29, i_rl 0 0)]
set_option maxRecDepth 20000 in
theorem A_J9_floorDiv_f86c9 : sd_A yJ9_floorDiv_f86c9 cJ9_floorDiv_f86c9 6 (some .long) rm_J9_floorDiv_f86c9 T_J9_floorDiv_f86c9 := by
  refine sd_c (pc := 0) (f := i_ll 0 1) (s_lln (i := 0) dJ9_floorDiv_f86c9_0) ?_
  refine sd_c (pc := 1) (f := i_ll 2 2) (s_lln (i := 2) dJ9_floorDiv_f86c9_1) ?_
  refine sd_c (pc := 2) (f := i_ql (fun x z => x / z) 3) (s_ldiv dJ9_floorDiv_f86c9_2) ?_
  refine sd_c (pc := 3) (f := i_ls 4 5) (s_ls (i := 4) dJ9_floorDiv_f86c9_3 (by decide)) ?_
  refine sd_c (pc := 5) (f := i_ll 0 6) (s_lln (i := 0) dJ9_floorDiv_f86c9_5) ?_
  refine sd_c (pc := 6) (f := i_ll 2 7) (s_lln (i := 2) dJ9_floorDiv_f86c9_6) ?_
  refine sd_c (pc := 7) (f := i_bl (fun x z => x ^^^ z) 8) (s_lxor dJ9_floorDiv_f86c9_7) ?_
  refine sd_c (pc := 8) (f := i_c (.long (0)) 9) (s_lconst dJ9_floorDiv_f86c9_8 (by decide)) ?_
  refine sd_c (pc := 9) (f := i_lc 10) (s_lcmp dJ9_floorDiv_f86c9_9) ?_
  refine sd_c (pc := 10) (f := i_z (fun x => 0 ≤ x) 27 13) (s_if_ge (tgt := 27) dJ9_floorDiv_f86c9_10 (by decide)) ?_
  refine sd_c (pc := 13) (f := i_ll 4 15) (s_ll dJ9_floorDiv_f86c9_13) ?_
  refine sd_c (pc := 15) (f := i_ll 2 16) (s_lln (i := 2) dJ9_floorDiv_f86c9_15) ?_
  refine sd_c (pc := 16) (f := i_bl (fun x z => x * z) 17) (s_lmul dJ9_floorDiv_f86c9_16) ?_
  refine sd_c (pc := 17) (f := i_ll 0 18) (s_lln (i := 0) dJ9_floorDiv_f86c9_17) ?_
  refine sd_c (pc := 18) (f := i_lc 19) (s_lcmp dJ9_floorDiv_f86c9_18) ?_
  refine sd_c (pc := 19) (f := i_z (fun x => x = 0) 27 22) (s_if_eq (tgt := 27) dJ9_floorDiv_f86c9_19 (by decide)) ?_
  refine sd_c (pc := 22) (f := i_ll 4 24) (s_ll dJ9_floorDiv_f86c9_22) ?_
  refine sd_c (pc := 24) (f := i_c (.long (1)) 25) (s_lconst dJ9_floorDiv_f86c9_24 (by decide)) ?_
  refine sd_c (pc := 25) (f := i_bl (fun x z => x - z) 26) (s_lsub dJ9_floorDiv_f86c9_25) ?_
  refine sd_c (pc := 26) (f := i_rl 0 0) (s_rl dJ9_floorDiv_f86c9_26 rfl) ?_
  refine sd_c (pc := 27) (f := i_ll 4 29) (s_ll dJ9_floorDiv_f86c9_27) ?_
  refine sd_c (pc := 29) (f := i_rl 0 0) (s_rl dJ9_floorDiv_f86c9_29 rfl) ?_
  exact sd_n
noncomputable def f_J9_floorDiv_f86c9 : List Value → me_M → Option sm_R := sd_f 6 T_J9_floorDiv_f86c9
theorem V_J9_floorDiv_f86c9 : sd_V yJ9_floorDiv_f86c9 cJ9_floorDiv_f86c9 6 (some .long) rm_J9_floorDiv_f86c9 2 f_J9_floorDiv_f86c9 := ⟨sd_metF A_J9_floorDiv_f86c9 (by decide +kernel), w750, w5, by decide +kernel⟩
set_option maxRecDepth 20000 in
theorem e_J9_floorDiv_f86c9 (x0 : Int64) (x2 : Int64) (M : me_M) : f_J9_floorDiv_f86c9 [.long x0, .long x2] M = if x2 = 0 then (none) else if 0 ≤ (lg_cmp (x0 ^^^ x2) (0 : Int64)) then (if 0 ≤ 0 ∧ 0 ≤ 0 then some (some (.long (x0 / x2)), M) else none) else if (lg_cmp ((x0 / x2) * x2) x0) = 0 then (if 0 ≤ 0 ∧ 0 ≤ 0 then some (some (.long (x0 / x2)), M) else none) else if 0 ≤ 0 ∧ 0 ≤ 0 then some (some (.long ((x0 / x2) - (1 : Int64))), M) else none := (show f_J9_floorDiv_f86c9 [.long x0, .long x2] M = sm T_J9_floorDiv_f86c9 (0, [(0, .long x0), (2, .long x2)], [], M, 0, 0) from rfl).trans (by have hF := sm_fx A_J9_floorDiv_f86c9; generalize sm T_J9_floorDiv_f86c9 = F_ at hF ⊢; exact (sm_h hF (f := i_ll 0 1) rfl).trans (q_ll rfl ((sm_h hF (f := i_ll 2 2) rfl).trans (q_ll rfl ((sm_h hF (f := i_ql (fun x z => x / z) 3) rfl).trans (q_ql (vl (vl (ic (rfl) ((sm_h hF (f := i_ls 4 5) rfl).trans (q_ls (fun x_ => [(0, .long x0), (2, .long x2), (4, .long x_)]) (fun _ => rfl) (vl ((sm_h hF (f := i_ll 0 6) rfl).trans (q_ll rfl ((sm_h hF (f := i_ll 2 7) rfl).trans (q_ll rfl ((sm_h hF (f := i_bl (fun x z => x ^^^ z) 8) rfl).trans (q_bl (vl (vl ((sm_h hF (f := i_c (.long (0)) 9) rfl).trans (q_c ((sm_h hF (f := i_lc 10) rfl).trans (q_lc (vl (vl ((sm_h hF (f := i_z (fun x => 0 ≤ x) 27 13) rfl).trans (q_z (vi (ic ((sm_h hF (f := i_ll 4 29) rfl).trans (q_ll rfl ((sm_h hF (f := i_rl 0 0) rfl).trans (q_rl (vl (rfl)))))) ((sm_h hF (f := i_ll 4 15) rfl).trans (q_ll rfl ((sm_h hF (f := i_ll 2 16) rfl).trans (q_ll rfl ((sm_h hF (f := i_bl (fun x z => x * z) 17) rfl).trans (q_bl (vl (vl ((sm_h hF (f := i_ll 0 18) rfl).trans (q_ll rfl ((sm_h hF (f := i_lc 19) rfl).trans (q_lc (vl (vl ((sm_h hF (f := i_z (fun x => x = 0) 27 22) rfl).trans (q_z (vi (ic ((sm_h hF (f := i_ll 4 29) rfl).trans (q_ll rfl ((sm_h hF (f := i_rl 0 0) rfl).trans (q_rl (vl (rfl)))))) ((sm_h hF (f := i_ll 4 24) rfl).trans (q_ll rfl ((sm_h hF (f := i_c (.long (1)) 25) rfl).trans (q_c ((sm_h hF (f := i_bl (fun x z => x - z) 26) rfl).trans (q_bl (vl (vl ((sm_h hF (f := i_rl 0 0) rfl).trans (q_rl (vl (rfl))))))))))))))))))))))))))))))))))))))))))))))))))))))))))))
/-! J9_floorMod_f86c9 -/
abbrev rm_J9_floorMod_f86c9 : Room := { frames := 0, cells := 0, slots := 0, locals := 0 }
noncomputable def T_J9_floorMod_f86c9 : sm_T := [(0, i_ll 0 1), (1, i_ll 2 2), (2, i_ql (fun x z => x - x / z * z) 3), (3, i_ls 4 5), (5, i_ll 0 6), (6, i_ll 2 7), (7, i_bl (fun x z => x ^^^ z) 8), (8, i_c (.long (0)) 9), (9, i_lc 10), (10, i_z (fun x => 0 ≤ x) 25 13), (13, i_ll 4 15), (15, i_c (.long (0)) 16), (16, i_lc 17), (17, i_z (fun x => x = 0) 25 20), (20, i_ll 4 22), (22, i_ll 2 23), (23, i_bl (fun x z => x + z) 24), (24, i_rl 0 0), (25, i_ll 4 27), (27, i_rl 0 0)]
set_option maxRecDepth 20000 in
theorem A_J9_floorMod_f86c9 : sd_A yJ9_floorMod_f86c9 cJ9_floorMod_f86c9 6 (some .long) rm_J9_floorMod_f86c9 T_J9_floorMod_f86c9 := by
  refine sd_c (pc := 0) (f := i_ll 0 1) (s_lln (i := 0) dJ9_floorMod_f86c9_0) ?_
  refine sd_c (pc := 1) (f := i_ll 2 2) (s_lln (i := 2) dJ9_floorMod_f86c9_1) ?_
  refine sd_c (pc := 2) (f := i_ql (fun x z => x - x / z * z) 3) (s_lrem dJ9_floorMod_f86c9_2) ?_
  refine sd_c (pc := 3) (f := i_ls 4 5) (s_ls (i := 4) dJ9_floorMod_f86c9_3 (by decide)) ?_
  refine sd_c (pc := 5) (f := i_ll 0 6) (s_lln (i := 0) dJ9_floorMod_f86c9_5) ?_
  refine sd_c (pc := 6) (f := i_ll 2 7) (s_lln (i := 2) dJ9_floorMod_f86c9_6) ?_
  refine sd_c (pc := 7) (f := i_bl (fun x z => x ^^^ z) 8) (s_lxor dJ9_floorMod_f86c9_7) ?_
  refine sd_c (pc := 8) (f := i_c (.long (0)) 9) (s_lconst dJ9_floorMod_f86c9_8 (by decide)) ?_
  refine sd_c (pc := 9) (f := i_lc 10) (s_lcmp dJ9_floorMod_f86c9_9) ?_
  refine sd_c (pc := 10) (f := i_z (fun x => 0 ≤ x) 25 13) (s_if_ge (tgt := 25) dJ9_floorMod_f86c9_10 (by decide)) ?_
  refine sd_c (pc := 13) (f := i_ll 4 15) (s_ll dJ9_floorMod_f86c9_13) ?_
  refine sd_c (pc := 15) (f := i_c (.long (0)) 16) (s_lconst dJ9_floorMod_f86c9_15 (by decide)) ?_
  refine sd_c (pc := 16) (f := i_lc 17) (s_lcmp dJ9_floorMod_f86c9_16) ?_
  refine sd_c (pc := 17) (f := i_z (fun x => x = 0) 25 20) (s_if_eq (tgt := 25) dJ9_floorMod_f86c9_17 (by decide)) ?_
  refine sd_c (pc := 20) (f := i_ll 4 22) (s_ll dJ9_floorMod_f86c9_20) ?_
  refine sd_c (pc := 22) (f := i_ll 2 23) (s_lln (i := 2) dJ9_floorMod_f86c9_22) ?_
  refine sd_c (pc := 23) (f := i_bl (fun x z => x + z) 24) (s_ladd dJ9_floorMod_f86c9_23) ?_
  refine sd_c (pc := 24) (f := i_rl 0 0) (s_rl dJ9_floorMod_f86c9_24 rfl) ?_
  refine sd_c (pc := 25) (f := i_ll 4 27) (s_ll dJ9_floorMod_f86c9_25) ?_
  refine sd_c (pc := 27) (f := i_rl 0 0) (s_rl dJ9_floorMod_f86c9_27 rfl) ?_
  exact sd_n
noncomputable def f_J9_floorMod_f86c9 : List Value → me_M → Option sm_R := sd_f 6 T_J9_floorMod_f86c9
theorem V_J9_floorMod_f86c9 : sd_V yJ9_floorMod_f86c9 cJ9_floorMod_f86c9 6 (some .long) rm_J9_floorMod_f86c9 2 f_J9_floorMod_f86c9 := ⟨sd_metF A_J9_floorMod_f86c9 (by decide +kernel), w744, w5, by decide +kernel⟩
set_option maxRecDepth 20000 in
theorem e_J9_floorMod_f86c9 (x0 : Int64) (x2 : Int64) (M : me_M) : f_J9_floorMod_f86c9 [.long x0, .long x2] M = if x2 = 0 then (none) else if 0 ≤ (lg_cmp (x0 ^^^ x2) (0 : Int64)) then (if 0 ≤ 0 ∧ 0 ≤ 0 then some (some (.long (x0 - x0 / x2 * x2)), M) else none) else if (lg_cmp (x0 - x0 / x2 * x2) (0 : Int64)) = 0 then (if 0 ≤ 0 ∧ 0 ≤ 0 then some (some (.long (x0 - x0 / x2 * x2)), M) else none) else if 0 ≤ 0 ∧ 0 ≤ 0 then some (some (.long ((x0 - x0 / x2 * x2) + x2)), M) else none := (show f_J9_floorMod_f86c9 [.long x0, .long x2] M = sm T_J9_floorMod_f86c9 (0, [(0, .long x0), (2, .long x2)], [], M, 0, 0) from rfl).trans (by have hF := sm_fx A_J9_floorMod_f86c9; generalize sm T_J9_floorMod_f86c9 = F_ at hF ⊢; exact (sm_h hF (f := i_ll 0 1) rfl).trans (q_ll rfl ((sm_h hF (f := i_ll 2 2) rfl).trans (q_ll rfl ((sm_h hF (f := i_ql (fun x z => x - x / z * z) 3) rfl).trans (q_ql (vl (vl (ic (rfl) ((sm_h hF (f := i_ls 4 5) rfl).trans (q_ls (fun x_ => [(0, .long x0), (2, .long x2), (4, .long x_)]) (fun _ => rfl) (vl ((sm_h hF (f := i_ll 0 6) rfl).trans (q_ll rfl ((sm_h hF (f := i_ll 2 7) rfl).trans (q_ll rfl ((sm_h hF (f := i_bl (fun x z => x ^^^ z) 8) rfl).trans (q_bl (vl (vl ((sm_h hF (f := i_c (.long (0)) 9) rfl).trans (q_c ((sm_h hF (f := i_lc 10) rfl).trans (q_lc (vl (vl ((sm_h hF (f := i_z (fun x => 0 ≤ x) 25 13) rfl).trans (q_z (vi (ic ((sm_h hF (f := i_ll 4 27) rfl).trans (q_ll rfl ((sm_h hF (f := i_rl 0 0) rfl).trans (q_rl (vl (rfl)))))) ((sm_h hF (f := i_ll 4 15) rfl).trans (q_ll rfl ((sm_h hF (f := i_c (.long (0)) 16) rfl).trans (q_c ((sm_h hF (f := i_lc 17) rfl).trans (q_lc (vl (vl ((sm_h hF (f := i_z (fun x => x = 0) 25 20) rfl).trans (q_z (vi (ic ((sm_h hF (f := i_ll 4 27) rfl).trans (q_ll rfl ((sm_h hF (f := i_rl 0 0) rfl).trans (q_rl (vl (rfl)))))) ((sm_h hF (f := i_ll 4 22) rfl).trans (q_ll rfl ((sm_h hF (f := i_ll 2 23) rfl).trans (q_ll rfl ((sm_h hF (f := i_bl (fun x z => x + z) 24) rfl).trans (q_bl (vl (vl ((sm_h hF (f := i_rl 0 0) rfl).trans (q_rl (vl (rfl))))))))))))))))))))))))))))))))))))))))))))))))))))))
/-! X6_exactSum -/
abbrev rm_X6_exactSum : Room := { frames := 6, cells := 1, slots := 6, locals := 90 }
noncomputable def T_X6_exactSum : sm_T := [(0, i_ll 0 1), (1, i_ll 2 2), (2, i_bl (fun x z => x + z) 3), (3, i_ls 4 5), (5, i_ll 0 6), (6, i_ll 4 8), (8, i_bl (fun x z => x ^^^ z) 9), (9, i_ll 2 10), (10, i_ll 4 12), (12, i_bl (fun x z => x ^^^ z) 13), (13, i_bl (fun x z => x &&& z) 14), (14, i_c (.long (0)) 15), (15, i_lc 16), (16, i_z (fun x => 0 ≤ x) 29 19), (19, i_th 0 1 6), (29, i_ll 4 31), (31, i_rl 1 6)]
set_option maxRecDepth 20000 in
theorem A_X6_exactSum : xd_A yX6_exactSum cX6_exactSum 6 (some .long) rm_X6_exactSum T_X6_exactSum := by
  refine xd_c (pc := 0) (f := i_ll 0 1) (y_of (x_lln (i := 0) dX6_exactSum_0)) ?_
  refine xd_c (pc := 1) (f := i_ll 2 2) (y_of (x_lln (i := 2) dX6_exactSum_1)) ?_
  refine xd_c (pc := 2) (f := i_bl (fun x z => x + z) 3) (y_of (x_ladd dX6_exactSum_2)) ?_
  refine xd_c (pc := 3) (f := i_ls 4 5) (y_of (x_ls (i := 4) dX6_exactSum_3 (by decide))) ?_
  refine xd_c (pc := 5) (f := i_ll 0 6) (y_of (x_lln (i := 0) dX6_exactSum_5)) ?_
  refine xd_c (pc := 6) (f := i_ll 4 8) (y_of (x_ll dX6_exactSum_6)) ?_
  refine xd_c (pc := 8) (f := i_bl (fun x z => x ^^^ z) 9) (y_of (x_lxor dX6_exactSum_8)) ?_
  refine xd_c (pc := 9) (f := i_ll 2 10) (y_of (x_lln (i := 2) dX6_exactSum_9)) ?_
  refine xd_c (pc := 10) (f := i_ll 4 12) (y_of (x_ll dX6_exactSum_10)) ?_
  refine xd_c (pc := 12) (f := i_bl (fun x z => x ^^^ z) 13) (y_of (x_lxor dX6_exactSum_12)) ?_
  refine xd_c (pc := 13) (f := i_bl (fun x z => x &&& z) 14) (y_of (x_land dX6_exactSum_13)) ?_
  refine xd_c (pc := 14) (f := i_c (.long (0)) 15) (y_of (x_lconst dX6_exactSum_14 (by decide))) ?_
  refine xd_c (pc := 15) (f := i_lc 16) (y_of (x_lcmp dX6_exactSum_15)) ?_
  refine xd_c (pc := 16) (f := i_z (fun x => 0 ≤ x) 29 19) (y_of (x_if_ge (tgt := 29) dX6_exactSum_16 (by decide))) ?_
  refine xd_c (pc := 19) (f := i_th 0 1 6) (y_th (kx := 0) (cls := xe_C0) (names := xe_A) (by decide +kernel) (by decide +kernel) (by decide +kernel) (by decide +kernel) xw_k0 xw_i0 (text := "the sum is no long") (by decide +kernel) xe_g0 xe_n0 xe_o0 dX6_exactSum_19 dX6_exactSum_22 (Or.inl ⟨dX6_exactSum_23, dX6_exactSum_25, dX6_exactSum_28⟩) (by decide)) ?_
  refine xd_c (pc := 29) (f := i_ll 4 31) (y_of (x_ll dX6_exactSum_29)) ?_
  refine xd_c (pc := 31) (f := i_rl 1 6) (y_rl (s_rl dX6_exactSum_31 rfl)) ?_
  exact xd_n
noncomputable def f_X6_exactSum : List Value → me_M → Option sm_R := sd_f 6 T_X6_exactSum
theorem V_X6_exactSum : xd_V yX6_exactSum cX6_exactSum 6 (some .long) rm_X6_exactSum 2 f_X6_exactSum := ⟨xd_met A_X6_exactSum (by decide +kernel), w753, w1, by decide +kernel⟩
set_option maxRecDepth 20000 in
theorem e_X6_exactSum (x0 : Int64) (x2 : Int64) (M : me_M) : f_X6_exactSum [.long x0, .long x2] M = if 0 ≤ (lg_cmp ((x0 ^^^ (x0 + x2)) &&& (x2 ^^^ (x0 + x2))) (0 : Int64)) then (if 0 ≤ 1 ∧ 0 ≤ 6 then some (some (.long (x0 + x2)), M) else none) else some (some (.float 0), M) := (show f_X6_exactSum [.long x0, .long x2] M = sm T_X6_exactSum (0, [(0, .long x0), (2, .long x2)], [], M, 0, 0) from rfl).trans (by have hF := xm_fx A_X6_exactSum; generalize sm T_X6_exactSum = F_ at hF ⊢; exact (sm_h hF (f := i_ll 0 1) rfl).trans (q_ll rfl ((sm_h hF (f := i_ll 2 2) rfl).trans (q_ll rfl ((sm_h hF (f := i_bl (fun x z => x + z) 3) rfl).trans (q_bl (vl (vl ((sm_h hF (f := i_ls 4 5) rfl).trans (q_ls (fun x_ => [(0, .long x0), (2, .long x2), (4, .long x_)]) (fun _ => rfl) (vl ((sm_h hF (f := i_ll 0 6) rfl).trans (q_ll rfl ((sm_h hF (f := i_ll 4 8) rfl).trans (q_ll rfl ((sm_h hF (f := i_bl (fun x z => x ^^^ z) 9) rfl).trans (q_bl (vl (vl ((sm_h hF (f := i_ll 2 10) rfl).trans (q_ll rfl ((sm_h hF (f := i_ll 4 12) rfl).trans (q_ll rfl ((sm_h hF (f := i_bl (fun x z => x ^^^ z) 13) rfl).trans (q_bl (vl (vl ((sm_h hF (f := i_bl (fun x z => x &&& z) 14) rfl).trans (q_bl (vl (vl ((sm_h hF (f := i_c (.long (0)) 15) rfl).trans (q_c ((sm_h hF (f := i_lc 16) rfl).trans (q_lc (vl (vl ((sm_h hF (f := i_z (fun x => 0 ≤ x) 29 19) rfl).trans (q_z (vi (ic ((sm_h hF (f := i_ll 4 31) rfl).trans (q_ll rfl ((sm_h hF (f := i_rl 1 6) rfl).trans (q_rl (vl (rfl)))))) ((sm_h hF (f := i_th 0 1 6) rfl).trans (q_th rfl (rfl))))))))))))))))))))))))))))))))))))))))))))
/-! X6_exactDifference -/
abbrev rm_X6_exactDifference : Room := { frames := 6, cells := 1, slots := 6, locals := 90 }
noncomputable def T_X6_exactDifference : sm_T := [(0, i_ll 0 1), (1, i_ll 2 2), (2, i_bl (fun x z => x - z) 3), (3, i_ls 4 5), (5, i_ll 0 6), (6, i_ll 2 7), (7, i_bl (fun x z => x ^^^ z) 8), (8, i_ll 0 9), (9, i_ll 4 11), (11, i_bl (fun x z => x ^^^ z) 12), (12, i_bl (fun x z => x &&& z) 13), (13, i_c (.long (0)) 14), (14, i_lc 15), (15, i_z (fun x => 0 ≤ x) 28 18), (18, i_th 0 1 6), (28, i_ll 4 30), (30, i_rl 1 6)]
set_option maxRecDepth 20000 in
theorem A_X6_exactDifference : xd_A yX6_exactDifference cX6_exactDifference 6 (some .long) rm_X6_exactDifference T_X6_exactDifference := by
  refine xd_c (pc := 0) (f := i_ll 0 1) (y_of (x_lln (i := 0) dX6_exactDifference_0)) ?_
  refine xd_c (pc := 1) (f := i_ll 2 2) (y_of (x_lln (i := 2) dX6_exactDifference_1)) ?_
  refine xd_c (pc := 2) (f := i_bl (fun x z => x - z) 3) (y_of (x_lsub dX6_exactDifference_2)) ?_
  refine xd_c (pc := 3) (f := i_ls 4 5) (y_of (x_ls (i := 4) dX6_exactDifference_3 (by decide))) ?_
  refine xd_c (pc := 5) (f := i_ll 0 6) (y_of (x_lln (i := 0) dX6_exactDifference_5)) ?_
  refine xd_c (pc := 6) (f := i_ll 2 7) (y_of (x_lln (i := 2) dX6_exactDifference_6)) ?_
  refine xd_c (pc := 7) (f := i_bl (fun x z => x ^^^ z) 8) (y_of (x_lxor dX6_exactDifference_7)) ?_
  refine xd_c (pc := 8) (f := i_ll 0 9) (y_of (x_lln (i := 0) dX6_exactDifference_8)) ?_
  refine xd_c (pc := 9) (f := i_ll 4 11) (y_of (x_ll dX6_exactDifference_9)) ?_
  refine xd_c (pc := 11) (f := i_bl (fun x z => x ^^^ z) 12) (y_of (x_lxor dX6_exactDifference_11)) ?_
  refine xd_c (pc := 12) (f := i_bl (fun x z => x &&& z) 13) (y_of (x_land dX6_exactDifference_12)) ?_
  refine xd_c (pc := 13) (f := i_c (.long (0)) 14) (y_of (x_lconst dX6_exactDifference_13 (by decide))) ?_
  refine xd_c (pc := 14) (f := i_lc 15) (y_of (x_lcmp dX6_exactDifference_14)) ?_
  refine xd_c (pc := 15) (f := i_z (fun x => 0 ≤ x) 28 18) (y_of (x_if_ge (tgt := 28) dX6_exactDifference_15 (by decide))) ?_
  refine xd_c (pc := 18) (f := i_th 0 1 6) (y_th (kx := 0) (cls := xe_C0) (names := xe_A) (by decide +kernel) (by decide +kernel) (by decide +kernel) (by decide +kernel) xw_k0 xw_i0 (text := "the difference is no long") (by decide +kernel) xe_g0 xe_n0 xe_o0 dX6_exactDifference_18 dX6_exactDifference_21 (Or.inl ⟨dX6_exactDifference_22, dX6_exactDifference_24, dX6_exactDifference_27⟩) (by decide)) ?_
  refine xd_c (pc := 28) (f := i_ll 4 30) (y_of (x_ll dX6_exactDifference_28)) ?_
  refine xd_c (pc := 30) (f := i_rl 1 6) (y_rl (s_rl dX6_exactDifference_30 rfl)) ?_
  exact xd_n
noncomputable def f_X6_exactDifference : List Value → me_M → Option sm_R := sd_f 6 T_X6_exactDifference
theorem V_X6_exactDifference : xd_V yX6_exactDifference cX6_exactDifference 6 (some .long) rm_X6_exactDifference 2 f_X6_exactDifference := ⟨xd_met A_X6_exactDifference (by decide +kernel), w757, w1, by decide +kernel⟩
set_option maxRecDepth 20000 in
theorem e_X6_exactDifference (x0 : Int64) (x2 : Int64) (M : me_M) : f_X6_exactDifference [.long x0, .long x2] M = if 0 ≤ (lg_cmp ((x0 ^^^ x2) &&& (x0 ^^^ (x0 - x2))) (0 : Int64)) then (if 0 ≤ 1 ∧ 0 ≤ 6 then some (some (.long (x0 - x2)), M) else none) else some (some (.float 0), M) := (show f_X6_exactDifference [.long x0, .long x2] M = sm T_X6_exactDifference (0, [(0, .long x0), (2, .long x2)], [], M, 0, 0) from rfl).trans (by have hF := xm_fx A_X6_exactDifference; generalize sm T_X6_exactDifference = F_ at hF ⊢; exact (sm_h hF (f := i_ll 0 1) rfl).trans (q_ll rfl ((sm_h hF (f := i_ll 2 2) rfl).trans (q_ll rfl ((sm_h hF (f := i_bl (fun x z => x - z) 3) rfl).trans (q_bl (vl (vl ((sm_h hF (f := i_ls 4 5) rfl).trans (q_ls (fun x_ => [(0, .long x0), (2, .long x2), (4, .long x_)]) (fun _ => rfl) (vl ((sm_h hF (f := i_ll 0 6) rfl).trans (q_ll rfl ((sm_h hF (f := i_ll 2 7) rfl).trans (q_ll rfl ((sm_h hF (f := i_bl (fun x z => x ^^^ z) 8) rfl).trans (q_bl (vl (vl ((sm_h hF (f := i_ll 0 9) rfl).trans (q_ll rfl ((sm_h hF (f := i_ll 4 11) rfl).trans (q_ll rfl ((sm_h hF (f := i_bl (fun x z => x ^^^ z) 12) rfl).trans (q_bl (vl (vl ((sm_h hF (f := i_bl (fun x z => x &&& z) 13) rfl).trans (q_bl (vl (vl ((sm_h hF (f := i_c (.long (0)) 14) rfl).trans (q_c ((sm_h hF (f := i_lc 15) rfl).trans (q_lc (vl (vl ((sm_h hF (f := i_z (fun x => 0 ≤ x) 28 18) rfl).trans (q_z (vi (ic ((sm_h hF (f := i_ll 4 30) rfl).trans (q_ll rfl ((sm_h hF (f := i_rl 1 6) rfl).trans (q_rl (vl (rfl)))))) ((sm_h hF (f := i_th 0 1 6) rfl).trans (q_th rfl (rfl))))))))))))))))))))))))))))))))))))))))))))
/-! X6_exactProduct -/
abbrev rm_X6_exactProduct : Room := { frames := 6, cells := 1, slots := 6, locals := 90 }
noncomputable def T_X6_exactProduct : sm_T := [(0, i_ll 0 1), (1, i_c (.long (0)) 2), (2, i_lc 3), (3, i_z (fun x => x = 0) 6 8), (6, i_c (.long (0)) 7), (7, i_rl 1 6), (8, i_ll 0 9), (9, i_ll 2 10), (10, i_bl (fun x z => x * z) 11), (11, i_ls 4 13), (13, i_ll 4 15), (15, i_ll 0 16), (16, i_ql (fun x z => x / z) 17), (17, i_ll 2 18), (18, i_lc 19), (19, i_z (fun x => x = 0) 22 38), (22, i_ll 0 23), (23, i_c (.long (-1)) 26), (26, i_lc 27), (27, i_z (fun x => x = 0) 30 49), (30, i_ll 2 31), (31, i_c (.long (-9223372036854775808)) 34), (34, i_lc 35), (35, i_z (fun x => x = 0) 38 49), (38, i_th 0 1 6), (49, i_ll 4 51), (51, i_rl 1 6)]
set_option maxRecDepth 20000 in
theorem A_X6_exactProduct : xd_A yX6_exactProduct cX6_exactProduct 6 (some .long) rm_X6_exactProduct T_X6_exactProduct := by
  refine xd_c (pc := 0) (f := i_ll 0 1) (y_of (x_lln (i := 0) dX6_exactProduct_0)) ?_
  refine xd_c (pc := 1) (f := i_c (.long (0)) 2) (y_of (x_lconst dX6_exactProduct_1 (by decide))) ?_
  refine xd_c (pc := 2) (f := i_lc 3) (y_of (x_lcmp dX6_exactProduct_2)) ?_
  refine xd_c (pc := 3) (f := i_z (fun x => x = 0) 6 8) (y_of (x_if_ne (tgt := 8) dX6_exactProduct_3 (by decide))) ?_
  refine xd_c (pc := 6) (f := i_c (.long (0)) 7) (y_of (x_lconst dX6_exactProduct_6 (by decide))) ?_
  refine xd_c (pc := 7) (f := i_rl 1 6) (y_rl (s_rl dX6_exactProduct_7 rfl)) ?_
  refine xd_c (pc := 8) (f := i_ll 0 9) (y_of (x_lln (i := 0) dX6_exactProduct_8)) ?_
  refine xd_c (pc := 9) (f := i_ll 2 10) (y_of (x_lln (i := 2) dX6_exactProduct_9)) ?_
  refine xd_c (pc := 10) (f := i_bl (fun x z => x * z) 11) (y_of (x_lmul dX6_exactProduct_10)) ?_
  refine xd_c (pc := 11) (f := i_ls 4 13) (y_of (x_ls (i := 4) dX6_exactProduct_11 (by decide))) ?_
  refine xd_c (pc := 13) (f := i_ll 4 15) (y_of (x_ll dX6_exactProduct_13)) ?_
  refine xd_c (pc := 15) (f := i_ll 0 16) (y_of (x_lln (i := 0) dX6_exactProduct_15)) ?_
  refine xd_c (pc := 16) (f := i_ql (fun x z => x / z) 17) (y_of (x_ldiv dX6_exactProduct_16)) ?_
  refine xd_c (pc := 17) (f := i_ll 2 18) (y_of (x_lln (i := 2) dX6_exactProduct_17)) ?_
  refine xd_c (pc := 18) (f := i_lc 19) (y_of (x_lcmp dX6_exactProduct_18)) ?_
  refine xd_c (pc := 19) (f := i_z (fun x => x = 0) 22 38) (y_of (x_if_ne (tgt := 38) dX6_exactProduct_19 (by decide))) ?_
  refine xd_c (pc := 22) (f := i_ll 0 23) (y_of (x_lln (i := 0) dX6_exactProduct_22)) ?_
  refine xd_c (pc := 23) (f := i_c (.long (-1)) 26) (y_of (x_ldc2 dX6_exactProduct_23 w746)) ?_
  refine xd_c (pc := 26) (f := i_lc 27) (y_of (x_lcmp dX6_exactProduct_26)) ?_
  refine xd_c (pc := 27) (f := i_z (fun x => x = 0) 30 49) (y_of (x_if_ne (tgt := 49) dX6_exactProduct_27 (by decide))) ?_
  refine xd_c (pc := 30) (f := i_ll 2 31) (y_of (x_lln (i := 2) dX6_exactProduct_30)) ?_
  refine xd_c (pc := 31) (f := i_c (.long (-9223372036854775808)) 34) (y_of (x_ldc2 dX6_exactProduct_31 w745)) ?_
  refine xd_c (pc := 34) (f := i_lc 35) (y_of (x_lcmp dX6_exactProduct_34)) ?_
  refine xd_c (pc := 35) (f := i_z (fun x => x = 0) 38 49) (y_of (x_if_ne (tgt := 49) dX6_exactProduct_35 (by decide))) ?_
  refine xd_c (pc := 38) (f := i_th 0 1 6) (y_th (kx := 0) (cls := xe_C0) (names := xe_A) (by decide +kernel) (by decide +kernel) (by decide +kernel) (by decide +kernel) xw_k0 xw_i0 (text := "the product is no long") (by decide +kernel) xe_g0 xe_n0 xe_o0 dX6_exactProduct_38 dX6_exactProduct_41 (Or.inr ⟨dX6_exactProduct_42, dX6_exactProduct_45, dX6_exactProduct_48⟩) (by decide)) ?_
  refine xd_c (pc := 49) (f := i_ll 4 51) (y_of (x_ll dX6_exactProduct_49)) ?_
  refine xd_c (pc := 51) (f := i_rl 1 6) (y_rl (s_rl dX6_exactProduct_51 rfl)) ?_
  exact xd_n
noncomputable def f_X6_exactProduct : List Value → me_M → Option sm_R := sd_f 6 T_X6_exactProduct
theorem V_X6_exactProduct : xd_V yX6_exactProduct cX6_exactProduct 6 (some .long) rm_X6_exactProduct 2 f_X6_exactProduct := ⟨xd_met A_X6_exactProduct (by decide +kernel), w761, w1, by decide +kernel⟩
set_option maxRecDepth 20000 in
theorem e_X6_exactProduct (x0 : Int64) (x2 : Int64) (M : me_M) : f_X6_exactProduct [.long x0, .long x2] M = if (lg_cmp x0 (0 : Int64)) = 0 then (if 0 ≤ 1 ∧ 0 ≤ 6 then some (some (.long (0 : Int64)), M) else none) else if x0 = 0 then (none) else if (lg_cmp ((x0 * x2) / x0) x2) = 0 then (if (lg_cmp x0 (-1 : Int64)) = 0 then (if (lg_cmp x2 (-9223372036854775808 : Int64)) = 0 then (some (some (.float 0), M)) else if 0 ≤ 1 ∧ 0 ≤ 6 then some (some (.long (x0 * x2)), M) else none) else if 0 ≤ 1 ∧ 0 ≤ 6 then some (some (.long (x0 * x2)), M) else none) else some (some (.float 0), M) := (show f_X6_exactProduct [.long x0, .long x2] M = sm T_X6_exactProduct (0, [(0, .long x0), (2, .long x2)], [], M, 0, 0) from rfl).trans (by have hF := xm_fx A_X6_exactProduct; generalize sm T_X6_exactProduct = F_ at hF ⊢; exact (sm_h hF (f := i_ll 0 1) rfl).trans (q_ll rfl ((sm_h hF (f := i_c (.long (0)) 2) rfl).trans (q_c ((sm_h hF (f := i_lc 3) rfl).trans (q_lc (vl (vl ((sm_h hF (f := i_z (fun x => x = 0) 6 8) rfl).trans (q_z (vi (ic ((sm_h hF (f := i_c (.long (0)) 7) rfl).trans (q_c ((sm_h hF (f := i_rl 1 6) rfl).trans (q_rl (vl (rfl)))))) ((sm_h hF (f := i_ll 0 9) rfl).trans (q_ll rfl ((sm_h hF (f := i_ll 2 10) rfl).trans (q_ll rfl ((sm_h hF (f := i_bl (fun x z => x * z) 11) rfl).trans (q_bl (vl (vl ((sm_h hF (f := i_ls 4 13) rfl).trans (q_ls (fun x_ => [(0, .long x0), (2, .long x2), (4, .long x_)]) (fun _ => rfl) (vl ((sm_h hF (f := i_ll 4 15) rfl).trans (q_ll rfl ((sm_h hF (f := i_ll 0 16) rfl).trans (q_ll rfl ((sm_h hF (f := i_ql (fun x z => x / z) 17) rfl).trans (q_ql (vl (vl (ic (rfl) ((sm_h hF (f := i_ll 2 18) rfl).trans (q_ll rfl ((sm_h hF (f := i_lc 19) rfl).trans (q_lc (vl (vl ((sm_h hF (f := i_z (fun x => x = 0) 22 38) rfl).trans (q_z (vi (ic ((sm_h hF (f := i_ll 0 23) rfl).trans (q_ll rfl ((sm_h hF (f := i_c (.long (-1)) 26) rfl).trans (q_c ((sm_h hF (f := i_lc 27) rfl).trans (q_lc (vl (vl ((sm_h hF (f := i_z (fun x => x = 0) 30 49) rfl).trans (q_z (vi (ic ((sm_h hF (f := i_ll 2 31) rfl).trans (q_ll rfl ((sm_h hF (f := i_c (.long (-9223372036854775808)) 34) rfl).trans (q_c ((sm_h hF (f := i_lc 35) rfl).trans (q_lc (vl (vl ((sm_h hF (f := i_z (fun x => x = 0) 38 49) rfl).trans (q_z (vi (ic ((sm_h hF (f := i_th 0 1 6) rfl).trans (q_th rfl (rfl))) ((sm_h hF (f := i_ll 4 51) rfl).trans (q_ll rfl ((sm_h hF (f := i_rl 1 6) rfl).trans (q_rl (vl (rfl)))))))))))))))))) ((sm_h hF (f := i_ll 4 51) rfl).trans (q_ll rfl ((sm_h hF (f := i_rl 1 6) rfl).trans (q_rl (vl (rfl)))))))))))))))))) ((sm_h hF (f := i_th 0 1 6) rfl).trans (q_th rfl (rfl)))))))))))))))))))))))))))))))))))))))))))))
/-! X6_exactDivision -/
abbrev rm_X6_exactDivision : Room := { frames := 6, cells := 2, slots := 12, locals := 90 }
noncomputable def T_X6_exactDivision : sm_T := [(0, i_ll 3 1), (1, i_c (.long (0)) 2), (2, i_lc 3), (3, i_z (fun x => x = 0) 6 16), (6, i_th 0 2 12), (16, i_il 0 17), (17, i_c (.int (4)) 18), (18, i_zz (fun x z => x = z) 21 25), (21, i_ll 1 22), (22, i_ll 3 23), (23, i_ql (fun x z => x - x / z * z) 24), (24, i_rl 2 12), (25, i_il 0 26), (26, i_c (.int (6)) 28), (28, i_zz (fun x z => x = z) 31 37), (31, i_ll 1 32), (32, i_ll 3 33), (33, i_cs 2 2 f_J9_floorMod_f86c9 0 0 2 12 36), (36, i_rl 2 12), (37, i_ll 1 38), (38, i_c (.long (-9223372036854775808)) 41), (41, i_lc 42), (42, i_w [(64, [0, 1, 3])] (i_z (fun x => x = 0) 45 64)), (45, i_ll 3 46), (46, i_c (.long (-1)) 49), (49, i_lc 50), (50, i_w [(64, [0, 1, 3])] (i_z (fun x => x = 0) 53 64)), (53, i_th 0 2 12), (64, i_il 0 65), (65, i_c (.int (3)) 66), (66, i_zz (fun x z => x = z) 69 75), (69, i_ll 1 70), (70, i_ll 3 71), (71, i_ql (fun x z => x / z) 72), (72, i_g 80), (75, i_ll 1 76), (76, i_ll 3 77), (77, i_cs 2 2 f_J9_floorDiv_f86c9 0 0 2 12 80), (80, i_rl 2 12)]
set_option maxRecDepth 20000 in
theorem A_X6_exactDivision : xd_A yX6_exactDivision cX6_exactDivision 5 (some .long) rm_X6_exactDivision T_X6_exactDivision := by
  refine xd_c (pc := 0) (f := i_ll 3 1) (y_of (x_lln (i := 3) dX6_exactDivision_0)) ?_
  refine xd_c (pc := 1) (f := i_c (.long (0)) 2) (y_of (x_lconst dX6_exactDivision_1 (by decide))) ?_
  refine xd_c (pc := 2) (f := i_lc 3) (y_of (x_lcmp dX6_exactDivision_2)) ?_
  refine xd_c (pc := 3) (f := i_z (fun x => x = 0) 6 16) (y_of (x_if_ne (tgt := 16) dX6_exactDivision_3 (by decide))) ?_
  refine xd_c (pc := 6) (f := i_th 0 2 12) (y_th (kx := 0) (cls := xe_C0) (names := xe_A) (by decide +kernel) (by decide +kernel) (by decide +kernel) (by decide +kernel) xw_k0 xw_i0 (text := "b is 0") (by decide +kernel) xe_g0 xe_n0 xe_o0 dX6_exactDivision_6 dX6_exactDivision_9 (Or.inl ⟨dX6_exactDivision_10, dX6_exactDivision_12, dX6_exactDivision_15⟩) (by decide)) ?_
  refine xd_c (pc := 16) (f := i_il 0 17) (y_of (x_iln (i := 0) dX6_exactDivision_16)) ?_
  refine xd_c (pc := 17) (f := i_c (.int (4)) 18) (y_of (x_iconst dX6_exactDivision_17 (by decide))) ?_
  refine xd_c (pc := 18) (f := i_zz (fun x z => x = z) 21 25) (y_of (x_ic_ne (tgt := 25) dX6_exactDivision_18 (by decide))) ?_
  refine xd_c (pc := 21) (f := i_ll 1 22) (y_of (x_lln (i := 1) dX6_exactDivision_21)) ?_
  refine xd_c (pc := 22) (f := i_ll 3 23) (y_of (x_lln (i := 3) dX6_exactDivision_22)) ?_
  refine xd_c (pc := 23) (f := i_ql (fun x z => x - x / z * z) 24) (y_of (x_lrem dX6_exactDivision_23)) ?_
  refine xd_c (pc := 24) (f := i_rl 2 12) (y_rl (s_rl dX6_exactDivision_24 rfl)) ?_
  refine xd_c (pc := 25) (f := i_il 0 26) (y_of (x_iln (i := 0) dX6_exactDivision_25)) ?_
  refine xd_c (pc := 26) (f := i_c (.int (6)) 28) (y_of (x_bipush dX6_exactDivision_26 (by decide))) ?_
  refine xd_c (pc := 28) (f := i_zz (fun x z => x = z) 31 37) (y_of (x_ic_ne (tgt := 37) dX6_exactDivision_28 (by decide))) ?_
  refine xd_c (pc := 31) (f := i_ll 1 32) (y_of (x_lln (i := 1) dX6_exactDivision_31)) ?_
  refine xd_c (pc := 32) (f := i_ll 3 33) (y_of (x_lln (i := 3) dX6_exactDivision_32)) ?_
  refine xd_c (pc := 33) (f := i_cs 2 2 f_J9_floorMod_f86c9 0 0 2 12 36) (y_of (x_cs (np := 2) (rk := 2) (rmz := rm_J9_floorMod_f86c9) dX6_exactDivision_33 V_J9_floorMod_f86c9 w742 w743 (by decide))) ?_
  refine xd_c (pc := 36) (f := i_rl 2 12) (y_rl (s_rl dX6_exactDivision_36 rfl)) ?_
  refine xd_c (pc := 37) (f := i_ll 1 38) (y_of (x_lln (i := 1) dX6_exactDivision_37)) ?_
  refine xd_c (pc := 38) (f := i_c (.long (-9223372036854775808)) 41) (y_of (x_ldc2 dX6_exactDivision_38 w745)) ?_
  refine xd_c (pc := 41) (f := i_lc 42) (y_of (x_lcmp dX6_exactDivision_41)) ?_
  refine xd_c (pc := 42) (f := i_w [(64, [0, 1, 3])] (i_z (fun x => x = 0) 45 64)) (y_of (x_w (x_if_ne (tgt := 64) dX6_exactDivision_42 (by decide)))) ?_
  refine xd_c (pc := 45) (f := i_ll 3 46) (y_of (x_lln (i := 3) dX6_exactDivision_45)) ?_
  refine xd_c (pc := 46) (f := i_c (.long (-1)) 49) (y_of (x_ldc2 dX6_exactDivision_46 w746)) ?_
  refine xd_c (pc := 49) (f := i_lc 50) (y_of (x_lcmp dX6_exactDivision_49)) ?_
  refine xd_c (pc := 50) (f := i_w [(64, [0, 1, 3])] (i_z (fun x => x = 0) 53 64)) (y_of (x_w (x_if_ne (tgt := 64) dX6_exactDivision_50 (by decide)))) ?_
  refine xd_c (pc := 53) (f := i_th 0 2 12) (y_th (kx := 0) (cls := xe_C0) (names := xe_A) (by decide +kernel) (by decide +kernel) (by decide +kernel) (by decide +kernel) xw_k0 xw_i0 (text := "the quotient is no long") (by decide +kernel) xe_g0 xe_n0 xe_o0 dX6_exactDivision_53 dX6_exactDivision_56 (Or.inr ⟨dX6_exactDivision_57, dX6_exactDivision_60, dX6_exactDivision_63⟩) (by decide)) ?_
  refine xd_c (pc := 64) (f := i_il 0 65) (y_of (x_iln (i := 0) dX6_exactDivision_64)) ?_
  refine xd_c (pc := 65) (f := i_c (.int (3)) 66) (y_of (x_iconst dX6_exactDivision_65 (by decide))) ?_
  refine xd_c (pc := 66) (f := i_zz (fun x z => x = z) 69 75) (y_of (x_ic_ne (tgt := 75) dX6_exactDivision_66 (by decide))) ?_
  refine xd_c (pc := 69) (f := i_ll 1 70) (y_of (x_lln (i := 1) dX6_exactDivision_69)) ?_
  refine xd_c (pc := 70) (f := i_ll 3 71) (y_of (x_lln (i := 3) dX6_exactDivision_70)) ?_
  refine xd_c (pc := 71) (f := i_ql (fun x z => x / z) 72) (y_of (x_ldiv dX6_exactDivision_71)) ?_
  refine xd_c (pc := 72) (f := i_g 80) (y_of (x_goto (tgt := 80) dX6_exactDivision_72 (by decide))) ?_
  refine xd_c (pc := 75) (f := i_ll 1 76) (y_of (x_lln (i := 1) dX6_exactDivision_75)) ?_
  refine xd_c (pc := 76) (f := i_ll 3 77) (y_of (x_lln (i := 3) dX6_exactDivision_76)) ?_
  refine xd_c (pc := 77) (f := i_cs 2 2 f_J9_floorDiv_f86c9 0 0 2 12 80) (y_of (x_cs (np := 2) (rk := 2) (rmz := rm_J9_floorDiv_f86c9) dX6_exactDivision_77 V_J9_floorDiv_f86c9 w748 w749 (by decide))) ?_
  refine xd_c (pc := 80) (f := i_rl 2 12) (y_rl (s_rl dX6_exactDivision_80 rfl)) ?_
  exact xd_n
noncomputable def f_X6_exactDivision : List Value → me_M → Option sm_R := sd_f 5 T_X6_exactDivision
theorem V_X6_exactDivision : xd_V yX6_exactDivision cX6_exactDivision 5 (some .long) rm_X6_exactDivision 3 f_X6_exactDivision := ⟨xd_met A_X6_exactDivision (by decide +kernel), w741, w1, by decide +kernel⟩
set_option maxRecDepth 20000 in
theorem e_X6_exactDivision (x0 : Int32) (x1 : Int64) (x3 : Int64) (M : me_M) : f_X6_exactDivision [.int x0, .long x1, .long x3] M = if (lg_cmp x3 (0 : Int64)) = 0 then (some (some (.float 0), M)) else if x0 = (4 : Int32) then (if x3 = 0 then (none) else if 0 ≤ 2 ∧ 0 ≤ 12 then some (some (.long (x1 - x1 / x3 * x3)), M) else none) else if x0 = (6 : Int32) then ((f_J9_floorMod_f86c9 [.long x1, .long x3] M).bind fun r1 => r1.1.bind fun v2 => (v_long v2).bind fun y3 => if 0 ≤ 2 ∧ 0 ≤ 12 then some (some (.long y3), r1.2) else none) else if (lg_cmp x1 (-9223372036854775808 : Int64)) = 0 then (if (lg_cmp x3 (-1 : Int64)) = 0 then (some (some (.float 0), M)) else sm T_X6_exactDivision (64, [(0, .int x0), (1, .long x1), (3, .long x3)], [], M, 0, 0)) else sm T_X6_exactDivision (64, [(0, .int x0), (1, .long x1), (3, .long x3)], [], M, 0, 0) := (show f_X6_exactDivision [.int x0, .long x1, .long x3] M = sm T_X6_exactDivision (0, [(0, .int x0), (1, .long x1), (3, .long x3)], [], M, 0, 0) from rfl).trans (by have hF := xm_fx A_X6_exactDivision; generalize sm T_X6_exactDivision = F_ at hF ⊢; exact (sm_h hF (f := i_ll 3 1) rfl).trans (q_ll rfl ((sm_h hF (f := i_c (.long (0)) 2) rfl).trans (q_c ((sm_h hF (f := i_lc 3) rfl).trans (q_lc (vl (vl ((sm_h hF (f := i_z (fun x => x = 0) 6 16) rfl).trans (q_z (vi (ic ((sm_h hF (f := i_th 0 2 12) rfl).trans (q_th rfl (rfl))) ((sm_h hF (f := i_il 0 17) rfl).trans (q_il rfl ((sm_h hF (f := i_c (.int (4)) 18) rfl).trans (q_c ((sm_h hF (f := i_zz (fun x z => x = z) 21 25) rfl).trans (q_zz (vi (vi (ic ((sm_h hF (f := i_ll 1 22) rfl).trans (q_ll rfl ((sm_h hF (f := i_ll 3 23) rfl).trans (q_ll rfl ((sm_h hF (f := i_ql (fun x z => x - x / z * z) 24) rfl).trans (q_ql (vl (vl (ic (rfl) ((sm_h hF (f := i_rl 2 12) rfl).trans (q_rl (vl (rfl))))))))))))) ((sm_h hF (f := i_il 0 26) rfl).trans (q_il rfl ((sm_h hF (f := i_c (.int (6)) 28) rfl).trans (q_c ((sm_h hF (f := i_zz (fun x z => x = z) 31 37) rfl).trans (q_zz (vi (vi (ic ((sm_h hF (f := i_ll 1 32) rfl).trans (q_ll rfl ((sm_h hF (f := i_ll 3 33) rfl).trans (q_ll rfl ((sm_h hF (f := i_cs 2 2 f_J9_floorMod_f86c9 0 0 2 12 36) rfl).trans (q_cs rfl rfl rfl (ob fun r1 => cT rfl (q_r2 (ob fun v2 => ob fun y3 => (sm_h hF (f := i_rl 2 12) rfl).trans (q_rl (vl (rfl)))))))))))) ((sm_h hF (f := i_ll 1 38) rfl).trans (q_ll rfl ((sm_h hF (f := i_c (.long (-9223372036854775808)) 41) rfl).trans (q_c ((sm_h hF (f := i_lc 42) rfl).trans (q_lc (vl (vl ((sm_h hF (f := i_w [(64, [0, 1, 3])] (i_z (fun x => x = 0) 45 64)) rfl).trans (q_w (q_z (vi (ic ((sm_h hF (f := i_ll 3 46) rfl).trans (q_ll rfl ((sm_h hF (f := i_c (.long (-1)) 49) rfl).trans (q_c ((sm_h hF (f := i_lc 50) rfl).trans (q_lc (vl (vl ((sm_h hF (f := i_w [(64, [0, 1, 3])] (i_z (fun x => x = 0) 53 64)) rfl).trans (q_w (q_z (vi (ic ((sm_h hF (f := i_th 0 2 12) rfl).trans (q_th rfl (rfl))) (rfl)))))))))))))) (rfl))))))))))))))))))))))))))))))))))))))))))))
set_option maxRecDepth 20000 in
theorem e_X6_exactDivision_64 (x0 : Int32) (x1 : Int64) (x3 : Int64) (M : me_M) (c n : Nat) : sm T_X6_exactDivision (64, [(0, .int x0), (1, .long x1), (3, .long x3)], [], M, c, n) = if x0 = (3 : Int32) then (if x3 = 0 then (none) else if c ≤ 2 ∧ n ≤ 12 then some (some (.long (x1 / x3)), M) else none) else (f_J9_floorDiv_f86c9 [.long x1, .long x3] M).bind fun r1 => cond (Nat.ble (c + 0) 2 && Nat.ble (n + 0) 12) (r1.1.bind fun v2 => (v_long v2).bind fun y3 => if (c + 0) ≤ 2 ∧ (n + 0) ≤ 12 then some (some (.long y3), r1.2) else none) none := (by have hF := xm_fx A_X6_exactDivision; generalize sm T_X6_exactDivision = F_ at hF ⊢; exact (sm_h hF (f := i_il 0 65) rfl).trans (q_il rfl ((sm_h hF (f := i_c (.int (3)) 66) rfl).trans (q_c ((sm_h hF (f := i_zz (fun x z => x = z) 69 75) rfl).trans (q_zz (vi (vi (ic ((sm_h hF (f := i_ll 1 70) rfl).trans (q_ll rfl ((sm_h hF (f := i_ll 3 71) rfl).trans (q_ll rfl ((sm_h hF (f := i_ql (fun x z => x / z) 72) rfl).trans (q_ql (vl (vl (ic (rfl) ((sm_h hF (f := i_g 80) rfl).trans (q_g ((sm_h hF (f := i_rl 2 12) rfl).trans (q_rl (vl (rfl))))))))))))))) ((sm_h hF (f := i_ll 1 76) rfl).trans (q_ll rfl ((sm_h hF (f := i_ll 3 77) rfl).trans (q_ll rfl ((sm_h hF (f := i_cs 2 2 f_J9_floorDiv_f86c9 0 0 2 12 80) rfl).trans (q_cs rfl rfl rfl (ob fun r1 => cg (q_r2 (ob fun v2 => ob fun y3 => (sm_h hF (f := i_rl 2 12) rfl).trans (q_rl (vl (rfl))))) rfl))))))))))))))))
/-! X6_exactInt -/
abbrev rm_X6_exactInt : Room := { frames := 6, cells := 1, slots := 6, locals := 90 }
noncomputable def T_X6_exactInt : sm_T := [(0, i_ll 0 1), (1, i_ll 0 2), (2, i_u21 (fun x => x.toInt32) 3), (3, i_u12 (fun x => x.toInt64) 4), (4, i_lc 5), (5, i_z (fun x => x = 0) 19 8), (8, i_th 0 1 6), (19, i_ll 0 20), (20, i_rl 1 6)]
set_option maxRecDepth 20000 in
theorem A_X6_exactInt : xd_A yX6_exactInt cX6_exactInt 2 (some .long) rm_X6_exactInt T_X6_exactInt := by
  refine xd_c (pc := 0) (f := i_ll 0 1) (y_of (x_lln (i := 0) dX6_exactInt_0)) ?_
  refine xd_c (pc := 1) (f := i_ll 0 2) (y_of (x_lln (i := 0) dX6_exactInt_1)) ?_
  refine xd_c (pc := 2) (f := i_u21 (fun x => x.toInt32) 3) (y_of (x_l2i dX6_exactInt_2)) ?_
  refine xd_c (pc := 3) (f := i_u12 (fun x => x.toInt64) 4) (y_of (x_i2l dX6_exactInt_3)) ?_
  refine xd_c (pc := 4) (f := i_lc 5) (y_of (x_lcmp dX6_exactInt_4)) ?_
  refine xd_c (pc := 5) (f := i_z (fun x => x = 0) 19 8) (y_of (x_if_eq (tgt := 19) dX6_exactInt_5 (by decide))) ?_
  refine xd_c (pc := 8) (f := i_th 0 1 6) (y_th (kx := 0) (cls := xe_C0) (names := xe_A) (by decide +kernel) (by decide +kernel) (by decide +kernel) (by decide +kernel) xw_k0 xw_i0 (text := "it is no int") (by decide +kernel) xe_g0 xe_n0 xe_o0 dX6_exactInt_8 dX6_exactInt_11 (Or.inr ⟨dX6_exactInt_12, dX6_exactInt_15, dX6_exactInt_18⟩) (by decide)) ?_
  refine xd_c (pc := 19) (f := i_ll 0 20) (y_of (x_lln (i := 0) dX6_exactInt_19)) ?_
  refine xd_c (pc := 20) (f := i_rl 1 6) (y_rl (s_rl dX6_exactInt_20 rfl)) ?_
  exact xd_n
noncomputable def f_X6_exactInt : List Value → me_M → Option sm_R := sd_f 2 T_X6_exactInt
theorem V_X6_exactInt : xd_V yX6_exactInt cX6_exactInt 2 (some .long) rm_X6_exactInt 1 f_X6_exactInt := ⟨xd_met A_X6_exactInt (by decide +kernel), w765, w1, by decide +kernel⟩
set_option maxRecDepth 20000 in
theorem e_X6_exactInt (x0 : Int64) (M : me_M) : f_X6_exactInt [.long x0] M = if (lg_cmp x0 x0.toInt32.toInt64) = 0 then (if 0 ≤ 1 ∧ 0 ≤ 6 then some (some (.long x0), M) else none) else some (some (.float 0), M) := (show f_X6_exactInt [.long x0] M = sm T_X6_exactInt (0, [(0, .long x0)], [], M, 0, 0) from rfl).trans (by have hF := xm_fx A_X6_exactInt; generalize sm T_X6_exactInt = F_ at hF ⊢; exact (sm_h hF (f := i_ll 0 1) rfl).trans (q_ll rfl ((sm_h hF (f := i_ll 0 2) rfl).trans (q_ll rfl ((sm_h hF (f := i_u21 (fun x => x.toInt32) 3) rfl).trans (q_u21 (vl ((sm_h hF (f := i_u12 (fun x => x.toInt64) 4) rfl).trans (q_u12 (vi ((sm_h hF (f := i_lc 5) rfl).trans (q_lc (vl (vl ((sm_h hF (f := i_z (fun x => x = 0) 19 8) rfl).trans (q_z (vi (ic ((sm_h hF (f := i_ll 0 20) rfl).trans (q_ll rfl ((sm_h hF (f := i_rl 1 6) rfl).trans (q_rl (vl (rfl)))))) ((sm_h hF (f := i_th 0 1 6) rfl).trans (q_th rfl (rfl)))))))))))))))))))))
/-! X6_exact -/
abbrev rm_X6_exact : Room := { frames := 7, cells := 9, slots := 54, locals := 115 }
noncomputable def T_X6_exact : sm_T := [(0, i_il 1 1), (1, i_z (fun x => x < 0) 10 4), (4, i_il 1 5), (5, i_c (.int (9)) 7), (7, i_zz (fun x z => x ≤ z) 20 10), (10, i_th 1 9 54), (20, i_il 1 21), (21, i_c (.int (3)) 22), (22, i_w [(39, [1, 2, 4])] (i_zz (fun x z => x < z) 39 25)), (25, i_il 1 26), (26, i_c (.int (6)) 28), (28, i_w [(39, [1, 2, 4])] (i_zz (fun x z => z < x) 39 31)), (31, i_il 1 32), (32, i_ll 2 33), (33, i_ll 4 35), (35, i_xs 3 2 f_X6_exactDivision 2 12 9 54 38), (38, i_rl 9 54), (39, i_w [(40, [2, 4])] (i_il 1 40)), (40, i_ts 0 8 [92, 99, 106, 124, 124, 124, 124, 113, 119] 124), (92, i_ll 2 93), (93, i_ll 4 95), (95, i_xs 2 2 f_X6_exactSum 1 6 9 54 98), (98, i_rl 9 54), (99, i_ll 2 100), (100, i_ll 4 102), (102, i_xs 2 2 f_X6_exactDifference 1 6 9 54 105), (105, i_rl 9 54), (106, i_ll 2 107), (107, i_ll 4 109), (109, i_xs 2 2 f_X6_exactProduct 1 6 9 54 112), (112, i_rl 9 54), (113, i_c (.long (0)) 114), (114, i_ll 2 115), (115, i_xs 2 2 f_X6_exactDifference 1 6 9 54 118), (118, i_rl 9 54), (119, i_ll 2 120), (120, i_xs 1 2 f_X6_exactInt 1 6 9 54 123), (123, i_rl 9 54), (124, i_ll 2 125), (125, i_c (.long (0)) 126), (126, i_lc 127), (127, i_z (fun x => 0 ≤ x) 138 130), (130, i_c (.long (0)) 131), (131, i_ll 2 132), (132, i_xs 2 2 f_X6_exactDifference 1 6 9 54 135), (135, i_g 139), (138, i_ll 2 139), (139, i_rl 9 54)]
set_option maxRecDepth 20000 in
theorem A_X6_exact : xd_A yX6_exact cX6_exact 6 (some .long) rm_X6_exact T_X6_exact := by
  refine xd_c (pc := 0) (f := i_il 1 1) (y_of (x_iln (i := 1) dX6_exact_0)) ?_
  refine xd_c (pc := 1) (f := i_z (fun x => x < 0) 10 4) (y_of (x_if_lt (tgt := 10) dX6_exact_1 (by decide))) ?_
  refine xd_c (pc := 4) (f := i_il 1 5) (y_of (x_iln (i := 1) dX6_exact_4)) ?_
  refine xd_c (pc := 5) (f := i_c (.int (9)) 7) (y_of (x_bipush dX6_exact_5 (by decide))) ?_
  refine xd_c (pc := 7) (f := i_zz (fun x z => x ≤ z) 20 10) (y_of (x_ic_le (tgt := 20) dX6_exact_7 (by decide))) ?_
  refine xd_c (pc := 10) (f := i_th 1 9 54) (y_th (kx := 1) (cls := xe_C1) (names := xe_A) (by decide +kernel) (by decide +kernel) (by decide +kernel) (by decide +kernel) xw_k1 xw_i1 (text := "no such op") (by decide +kernel) xe_g1 xe_n1 xe_o1 dX6_exact_10 dX6_exact_13 (Or.inl ⟨dX6_exact_14, dX6_exact_16, dX6_exact_19⟩) (by decide)) ?_
  refine xd_c (pc := 20) (f := i_il 1 21) (y_of (x_iln (i := 1) dX6_exact_20)) ?_
  refine xd_c (pc := 21) (f := i_c (.int (3)) 22) (y_of (x_iconst dX6_exact_21 (by decide))) ?_
  refine xd_c (pc := 22) (f := i_w [(39, [1, 2, 4])] (i_zz (fun x z => x < z) 39 25)) (y_of (x_w (x_ic_lt (tgt := 39) dX6_exact_22 (by decide)))) ?_
  refine xd_c (pc := 25) (f := i_il 1 26) (y_of (x_iln (i := 1) dX6_exact_25)) ?_
  refine xd_c (pc := 26) (f := i_c (.int (6)) 28) (y_of (x_bipush dX6_exact_26 (by decide))) ?_
  refine xd_c (pc := 28) (f := i_w [(39, [1, 2, 4])] (i_zz (fun x z => z < x) 39 31)) (y_of (x_w (x_ic_gt (tgt := 39) dX6_exact_28 (by decide)))) ?_
  refine xd_c (pc := 31) (f := i_il 1 32) (y_of (x_iln (i := 1) dX6_exact_31)) ?_
  refine xd_c (pc := 32) (f := i_ll 2 33) (y_of (x_lln (i := 2) dX6_exact_32)) ?_
  refine xd_c (pc := 33) (f := i_ll 4 35) (y_of (x_ll dX6_exact_33)) ?_
  refine xd_c (pc := 35) (f := i_xs 3 2 f_X6_exactDivision 2 12 9 54 38) (y_xs (np := 3) (rk := 2) (rmz := rm_X6_exactDivision) dX6_exact_35 V_X6_exactDivision w739 w740 (by decide)) ?_
  refine xd_c (pc := 38) (f := i_rl 9 54) (y_rl (s_rl dX6_exact_38 rfl)) ?_
  refine xd_c (pc := 39) (f := i_w [(40, [2, 4])] (i_il 1 40)) (y_of (x_w (x_iln (i := 1) dX6_exact_39))) ?_
  refine xd_c (pc := 40) (f := i_ts 0 8 [92, 99, 106, 124, 124, 124, 124, 113, 119] 124) (y_of (x_ts dX6_exact_40 (by decide) (by decide))) ?_
  refine xd_c (pc := 92) (f := i_ll 2 93) (y_of (x_lln (i := 2) dX6_exact_92)) ?_
  refine xd_c (pc := 93) (f := i_ll 4 95) (y_of (x_ll dX6_exact_93)) ?_
  refine xd_c (pc := 95) (f := i_xs 2 2 f_X6_exactSum 1 6 9 54 98) (y_xs (np := 2) (rk := 2) (rmz := rm_X6_exactSum) dX6_exact_95 V_X6_exactSum w751 w752 (by decide)) ?_
  refine xd_c (pc := 98) (f := i_rl 9 54) (y_rl (s_rl dX6_exact_98 rfl)) ?_
  refine xd_c (pc := 99) (f := i_ll 2 100) (y_of (x_lln (i := 2) dX6_exact_99)) ?_
  refine xd_c (pc := 100) (f := i_ll 4 102) (y_of (x_ll dX6_exact_100)) ?_
  refine xd_c (pc := 102) (f := i_xs 2 2 f_X6_exactDifference 1 6 9 54 105) (y_xs (np := 2) (rk := 2) (rmz := rm_X6_exactDifference) dX6_exact_102 V_X6_exactDifference w755 w756 (by decide)) ?_
  refine xd_c (pc := 105) (f := i_rl 9 54) (y_rl (s_rl dX6_exact_105 rfl)) ?_
  refine xd_c (pc := 106) (f := i_ll 2 107) (y_of (x_lln (i := 2) dX6_exact_106)) ?_
  refine xd_c (pc := 107) (f := i_ll 4 109) (y_of (x_ll dX6_exact_107)) ?_
  refine xd_c (pc := 109) (f := i_xs 2 2 f_X6_exactProduct 1 6 9 54 112) (y_xs (np := 2) (rk := 2) (rmz := rm_X6_exactProduct) dX6_exact_109 V_X6_exactProduct w759 w760 (by decide)) ?_
  refine xd_c (pc := 112) (f := i_rl 9 54) (y_rl (s_rl dX6_exact_112 rfl)) ?_
  refine xd_c (pc := 113) (f := i_c (.long (0)) 114) (y_of (x_lconst dX6_exact_113 (by decide))) ?_
  refine xd_c (pc := 114) (f := i_ll 2 115) (y_of (x_lln (i := 2) dX6_exact_114)) ?_
  refine xd_c (pc := 115) (f := i_xs 2 2 f_X6_exactDifference 1 6 9 54 118) (y_xs (np := 2) (rk := 2) (rmz := rm_X6_exactDifference) dX6_exact_115 V_X6_exactDifference w755 w756 (by decide)) ?_
  refine xd_c (pc := 118) (f := i_rl 9 54) (y_rl (s_rl dX6_exact_118 rfl)) ?_
  refine xd_c (pc := 119) (f := i_ll 2 120) (y_of (x_lln (i := 2) dX6_exact_119)) ?_
  refine xd_c (pc := 120) (f := i_xs 1 2 f_X6_exactInt 1 6 9 54 123) (y_xs (np := 1) (rk := 2) (rmz := rm_X6_exactInt) dX6_exact_120 V_X6_exactInt w763 w764 (by decide)) ?_
  refine xd_c (pc := 123) (f := i_rl 9 54) (y_rl (s_rl dX6_exact_123 rfl)) ?_
  refine xd_c (pc := 124) (f := i_ll 2 125) (y_of (x_lln (i := 2) dX6_exact_124)) ?_
  refine xd_c (pc := 125) (f := i_c (.long (0)) 126) (y_of (x_lconst dX6_exact_125 (by decide))) ?_
  refine xd_c (pc := 126) (f := i_lc 127) (y_of (x_lcmp dX6_exact_126)) ?_
  refine xd_c (pc := 127) (f := i_z (fun x => 0 ≤ x) 138 130) (y_of (x_if_ge (tgt := 138) dX6_exact_127 (by decide))) ?_
  refine xd_c (pc := 130) (f := i_c (.long (0)) 131) (y_of (x_lconst dX6_exact_130 (by decide))) ?_
  refine xd_c (pc := 131) (f := i_ll 2 132) (y_of (x_lln (i := 2) dX6_exact_131)) ?_
  refine xd_c (pc := 132) (f := i_xs 2 2 f_X6_exactDifference 1 6 9 54 135) (y_xs (np := 2) (rk := 2) (rmz := rm_X6_exactDifference) dX6_exact_132 V_X6_exactDifference w755 w756 (by decide)) ?_
  refine xd_c (pc := 135) (f := i_g 139) (y_of (x_goto (tgt := 139) dX6_exact_135 (by decide))) ?_
  refine xd_c (pc := 138) (f := i_ll 2 139) (y_of (x_lln (i := 2) dX6_exact_138)) ?_
  refine xd_c (pc := 139) (f := i_rl 9 54) (y_rl (s_rl dX6_exact_139 rfl)) ?_
  exact xd_n
noncomputable def f_X6_exact : List Value → me_M → Option sm_R := sd_f 6 T_X6_exact
theorem V_X6_exact : xd_V yX6_exact cX6_exact 6 (some .long) rm_X6_exact 3 f_X6_exact := ⟨xd_met A_X6_exact (by decide +kernel), w737, w1, by decide +kernel⟩
set_option maxRecDepth 20000 in
theorem e_X6_exact (x0 : Nat) (x1 : Int32) (x2 : Int64) (x4 : Int64) (M : me_M) : f_X6_exact [.ref x0, .int x1, .long x2, .long x4] M = if x1 < 0 then (some (some (.float 1), M)) else if x1 ≤ (9 : Int32) then (if x1 < (3 : Int32) then (sm T_X6_exact (39, [(1, .int x1), (2, .long x2), (4, .long x4)], [], M, 0, 0)) else if (6 : Int32) < x1 then (sm T_X6_exact (39, [(1, .int x1), (2, .long x2), (4, .long x4)], [], M, 0, 0)) else (f_X6_exactDivision [.int x1, .long x2, .long x4] M).bind fun r1 => xk r1.1 (fun k_ => some (some (.float k_), r1.2)) (r1.1.bind fun v2 => (v_long v2).bind fun y3 => if 2 ≤ 9 ∧ 12 ≤ 54 then some (some (.long y3), r1.2) else none)) else some (some (.float 1), M) := (show f_X6_exact [.ref x0, .int x1, .long x2, .long x4] M = sm T_X6_exact (0, [(0, .ref x0), (1, .int x1), (2, .long x2), (4, .long x4)], [], M, 0, 0) from rfl).trans (by have hF := xm_fx A_X6_exact; generalize sm T_X6_exact = F_ at hF ⊢; exact (sm_h hF (f := i_il 1 1) rfl).trans (q_il rfl ((sm_h hF (f := i_z (fun x => x < 0) 10 4) rfl).trans (q_z (vi (ic ((sm_h hF (f := i_th 1 9 54) rfl).trans (q_th rfl (rfl))) ((sm_h hF (f := i_il 1 5) rfl).trans (q_il rfl ((sm_h hF (f := i_c (.int (9)) 7) rfl).trans (q_c ((sm_h hF (f := i_zz (fun x z => x ≤ z) 20 10) rfl).trans (q_zz (vi (vi (ic ((sm_h hF (f := i_il 1 21) rfl).trans (q_il rfl ((sm_h hF (f := i_c (.int (3)) 22) rfl).trans (q_c ((sm_h hF (f := i_w [(39, [1, 2, 4])] (i_zz (fun x z => x < z) 39 25)) rfl).trans (q_w (q_zz (vi (vi (ic (rfl) ((sm_h hF (f := i_il 1 26) rfl).trans (q_il rfl ((sm_h hF (f := i_c (.int (6)) 28) rfl).trans (q_c ((sm_h hF (f := i_w [(39, [1, 2, 4])] (i_zz (fun x z => z < x) 39 31)) rfl).trans (q_w (q_zz (vi (vi (ic (rfl) ((sm_h hF (f := i_il 1 32) rfl).trans (q_il rfl ((sm_h hF (f := i_ll 2 33) rfl).trans (q_ll rfl ((sm_h hF (f := i_ll 4 35) rfl).trans (q_ll rfl ((sm_h hF (f := i_xs 3 2 f_X6_exactDivision 2 12 9 54 38) rfl).trans (q_xs rfl rfl rfl (ob fun r1 => cT rfl (q_xk (q_r2 (ob fun v2 => ob fun y3 => (sm_h hF (f := i_rl 9 54) rfl).trans (q_rl (vl (rfl))))))))))))))))))))))))))))))))))) ((sm_h hF (f := i_th 1 9 54) rfl).trans (q_th rfl (rfl))))))))))))))))))
set_option maxRecDepth 20000 in
theorem e_X6_exact_39 (x1 : Int32) (x2 : Int64) (x4 : Int64) (M : me_M) (c n : Nat) : sm T_X6_exact (39, [(1, .int x1), (2, .long x2), (4, .long x4)], [], M, c, n) = sm T_X6_exact (40, [(2, .long x2), (4, .long x4)], [.int x1], M, c, n) := (by have hF := xm_fx A_X6_exact; generalize sm T_X6_exact = F_ at hF ⊢; exact (sm_h hF (f := i_w [(40, [2, 4])] (i_il 1 40)) rfl).trans (q_w (q_il rfl (rfl))))
set_option maxRecDepth 20000 in
theorem e_X6_exact_40 (x2 : Int64) (x4 : Int64) (s0 : Int32) (M : me_M) (c n : Nat) : sm T_X6_exact (40, [(2, .long x2), (4, .long x4)], [.int s0], M, c, n) = if s0.toInt < 0 ∨ 8 < s0.toInt then (sm T_X6_exact (124, [(2, .long x2), (4, .long x4)], [], M, c, n)) else ([92, 99, 106, 124, 124, 124, 124, 113, 119][(s0.toInt - 0).toNat]?).bind fun q1 => sm T_X6_exact (q1, [(2, .long x2), (4, .long x4)], [], M, c, n) := (by have hF := xm_fx A_X6_exact; generalize sm T_X6_exact = F_ at hF ⊢; exact (sm_h hF (f := i_ts 0 8 [92, 99, 106, 124, 124, 124, 124, 113, 119] 124) rfl).trans (q_ts (vi (ic (rfl) (ob fun q1 => rfl)))))
set_option maxRecDepth 20000 in
theorem e_X6_exact_99 (x2 : Int64) (x4 : Int64) (M : me_M) (c n : Nat) : sm T_X6_exact (99, [(2, .long x2), (4, .long x4)], [], M, c, n) = (f_X6_exactDifference [.long x2, .long x4] M).bind fun r1 => cond (Nat.ble (c + 1) 9 && Nat.ble (n + 6) 54) (xk r1.1 (fun k_ => some (some (.float k_), r1.2)) (r1.1.bind fun v2 => (v_long v2).bind fun y3 => if (c + 1) ≤ 9 ∧ (n + 6) ≤ 54 then some (some (.long y3), r1.2) else none)) none := (by have hF := xm_fx A_X6_exact; generalize sm T_X6_exact = F_ at hF ⊢; exact (sm_h hF (f := i_ll 2 100) rfl).trans (q_ll rfl ((sm_h hF (f := i_ll 4 102) rfl).trans (q_ll rfl ((sm_h hF (f := i_xs 2 2 f_X6_exactDifference 1 6 9 54 105) rfl).trans (q_xs rfl rfl rfl (ob fun r1 => cg (q_xk (q_r2 (ob fun v2 => ob fun y3 => (sm_h hF (f := i_rl 9 54) rfl).trans (q_rl (vl (rfl)))))) rfl)))))))
set_option maxRecDepth 20000 in
theorem e_X6_exact_106 (x2 : Int64) (x4 : Int64) (M : me_M) (c n : Nat) : sm T_X6_exact (106, [(2, .long x2), (4, .long x4)], [], M, c, n) = (f_X6_exactProduct [.long x2, .long x4] M).bind fun r1 => cond (Nat.ble (c + 1) 9 && Nat.ble (n + 6) 54) (xk r1.1 (fun k_ => some (some (.float k_), r1.2)) (r1.1.bind fun v2 => (v_long v2).bind fun y3 => if (c + 1) ≤ 9 ∧ (n + 6) ≤ 54 then some (some (.long y3), r1.2) else none)) none := (by have hF := xm_fx A_X6_exact; generalize sm T_X6_exact = F_ at hF ⊢; exact (sm_h hF (f := i_ll 2 107) rfl).trans (q_ll rfl ((sm_h hF (f := i_ll 4 109) rfl).trans (q_ll rfl ((sm_h hF (f := i_xs 2 2 f_X6_exactProduct 1 6 9 54 112) rfl).trans (q_xs rfl rfl rfl (ob fun r1 => cg (q_xk (q_r2 (ob fun v2 => ob fun y3 => (sm_h hF (f := i_rl 9 54) rfl).trans (q_rl (vl (rfl)))))) rfl)))))))
set_option maxRecDepth 20000 in
theorem e_X6_exact_92 (x2 : Int64) (x4 : Int64) (M : me_M) (c n : Nat) : sm T_X6_exact (92, [(2, .long x2), (4, .long x4)], [], M, c, n) = (f_X6_exactSum [.long x2, .long x4] M).bind fun r1 => cond (Nat.ble (c + 1) 9 && Nat.ble (n + 6) 54) (xk r1.1 (fun k_ => some (some (.float k_), r1.2)) (r1.1.bind fun v2 => (v_long v2).bind fun y3 => if (c + 1) ≤ 9 ∧ (n + 6) ≤ 54 then some (some (.long y3), r1.2) else none)) none := (by have hF := xm_fx A_X6_exact; generalize sm T_X6_exact = F_ at hF ⊢; exact (sm_h hF (f := i_ll 2 93) rfl).trans (q_ll rfl ((sm_h hF (f := i_ll 4 95) rfl).trans (q_ll rfl ((sm_h hF (f := i_xs 2 2 f_X6_exactSum 1 6 9 54 98) rfl).trans (q_xs rfl rfl rfl (ob fun r1 => cg (q_xk (q_r2 (ob fun v2 => ob fun y3 => (sm_h hF (f := i_rl 9 54) rfl).trans (q_rl (vl (rfl)))))) rfl)))))))
set_option maxRecDepth 20000 in
theorem e_X6_exact_113 (x2 : Int64) (x4 : Int64) (M : me_M) (c n : Nat) : sm T_X6_exact (113, [(2, .long x2), (4, .long x4)], [], M, c, n) = (f_X6_exactDifference [.long (0 : Int64), .long x2] M).bind fun r1 => cond (Nat.ble (c + 1) 9 && Nat.ble (n + 6) 54) (xk r1.1 (fun k_ => some (some (.float k_), r1.2)) (r1.1.bind fun v2 => (v_long v2).bind fun y3 => if (c + 1) ≤ 9 ∧ (n + 6) ≤ 54 then some (some (.long y3), r1.2) else none)) none := (by have hF := xm_fx A_X6_exact; generalize sm T_X6_exact = F_ at hF ⊢; exact (sm_h hF (f := i_c (.long (0)) 114) rfl).trans (q_c ((sm_h hF (f := i_ll 2 115) rfl).trans (q_ll rfl ((sm_h hF (f := i_xs 2 2 f_X6_exactDifference 1 6 9 54 118) rfl).trans (q_xs rfl rfl rfl (ob fun r1 => cg (q_xk (q_r2 (ob fun v2 => ob fun y3 => (sm_h hF (f := i_rl 9 54) rfl).trans (q_rl (vl (rfl)))))) rfl)))))))
set_option maxRecDepth 20000 in
theorem e_X6_exact_119 (x2 : Int64) (x4 : Int64) (M : me_M) (c n : Nat) : sm T_X6_exact (119, [(2, .long x2), (4, .long x4)], [], M, c, n) = (f_X6_exactInt [.long x2] M).bind fun r1 => cond (Nat.ble (c + 1) 9 && Nat.ble (n + 6) 54) (xk r1.1 (fun k_ => some (some (.float k_), r1.2)) (r1.1.bind fun v2 => (v_long v2).bind fun y3 => if (c + 1) ≤ 9 ∧ (n + 6) ≤ 54 then some (some (.long y3), r1.2) else none)) none := (by have hF := xm_fx A_X6_exact; generalize sm T_X6_exact = F_ at hF ⊢; exact (sm_h hF (f := i_ll 2 120) rfl).trans (q_ll rfl ((sm_h hF (f := i_xs 1 2 f_X6_exactInt 1 6 9 54 123) rfl).trans (q_xs rfl rfl rfl (ob fun r1 => cg (q_xk (q_r2 (ob fun v2 => ob fun y3 => (sm_h hF (f := i_rl 9 54) rfl).trans (q_rl (vl (rfl)))))) rfl)))))
set_option maxRecDepth 20000 in
theorem e_X6_exact_124 (x2 : Int64) (x4 : Int64) (M : me_M) (c n : Nat) : sm T_X6_exact (124, [(2, .long x2), (4, .long x4)], [], M, c, n) = if 0 ≤ (lg_cmp x2 (0 : Int64)) then (if c ≤ 9 ∧ n ≤ 54 then some (some (.long x2), M) else none) else (f_X6_exactDifference [.long (0 : Int64), .long x2] M).bind fun r1 => cond (Nat.ble (c + 1) 9 && Nat.ble (n + 6) 54) (xk r1.1 (fun k_ => some (some (.float k_), r1.2)) (r1.1.bind fun v2 => (v_long v2).bind fun y3 => if (c + 1) ≤ 9 ∧ (n + 6) ≤ 54 then some (some (.long y3), r1.2) else none)) none := (by have hF := xm_fx A_X6_exact; generalize sm T_X6_exact = F_ at hF ⊢; exact (sm_h hF (f := i_ll 2 125) rfl).trans (q_ll rfl ((sm_h hF (f := i_c (.long (0)) 126) rfl).trans (q_c ((sm_h hF (f := i_lc 127) rfl).trans (q_lc (vl (vl ((sm_h hF (f := i_z (fun x => 0 ≤ x) 138 130) rfl).trans (q_z (vi (ic ((sm_h hF (f := i_ll 2 139) rfl).trans (q_ll rfl ((sm_h hF (f := i_rl 9 54) rfl).trans (q_rl (vl (rfl)))))) ((sm_h hF (f := i_c (.long (0)) 131) rfl).trans (q_c ((sm_h hF (f := i_ll 2 132) rfl).trans (q_ll rfl ((sm_h hF (f := i_xs 2 2 f_X6_exactDifference 1 6 9 54 135) rfl).trans (q_xs rfl rfl rfl (ob fun r1 => cg (q_xk (q_r2 (ob fun v2 => ob fun y3 => (sm_h hF (f := i_g 139) rfl).trans (q_g ((sm_h hF (f := i_rl 9 54) rfl).trans (q_rl (vl (rfl)))))))) rfl)))))))))))))))))))
/-! X6_value -/
abbrev rm_X6_value : Room := { frames := 6, cells := 6, slots := 157, locals := 162 }
noncomputable def T_X6_value : sm_T := [(0, i_ll 3 1), (1, i_c (.long (0)) 2), (2, i_lc 3), (3, i_z (fun x => x = 0) 6 16), (6, i_th 0 6 157), (16, i_al 0 17), (17, i_cv 6 1 1 f_X6_isFull 0 0 6 157 20), (20, i_z (fun x => x = 0) 26 23), (23, i_c (.int (-3)) 25), (25, i_ri 6 157), (26, i_al 0 27), (27, i_al 0 28), (28, i_gf 6 0 31), (31, i_ll 1 32), (32, i_ll 3 33), (33, i_cv 3 3 3 f_X3_fromLongs 5 151 6 157 36), (36, i_cv 6 2 1 f_X6_keep 0 0 6 157 39), (39, i_ri 6 157)]
set_option maxRecDepth 20000 in
theorem A_X6_value : xd_A yX6_value cX6_value 5 (some .int) rm_X6_value T_X6_value := by
  refine xd_c (pc := 0) (f := i_ll 3 1) (y_of (x_lln (i := 3) dX6_value_0)) ?_
  refine xd_c (pc := 1) (f := i_c (.long (0)) 2) (y_of (x_lconst dX6_value_1 (by decide))) ?_
  refine xd_c (pc := 2) (f := i_lc 3) (y_of (x_lcmp dX6_value_2)) ?_
  refine xd_c (pc := 3) (f := i_z (fun x => x = 0) 6 16) (y_of (x_if_ne (tgt := 16) dX6_value_3 (by decide))) ?_
  refine xd_c (pc := 6) (f := i_th 0 6 157) (y_th (kx := 0) (cls := xe_C0) (names := xe_A) (by decide +kernel) (by decide +kernel) (by decide +kernel) (by decide +kernel) xw_k0 xw_i0 (text := "below is 0") (by decide +kernel) xe_g0 xe_n0 xe_o0 dX6_value_6 dX6_value_9 (Or.inl ⟨dX6_value_10, dX6_value_12, dX6_value_15⟩) (by decide)) ?_
  refine xd_c (pc := 16) (f := i_al 0 17) (y_of (x_aln (i := 0) dX6_value_16)) ?_
  refine xd_c (pc := 17) (f := i_cv 6 1 1 f_X6_isFull 0 0 6 157 20) (y_of (x_cv (np := 0) (rk := 1) (ci := 6) (rmz := rm_X6_isFull) dX6_value_17 V_X6_isFull w217 w219 wS_PlanFractions_isFull___Z rfl (by decide))) ?_
  refine xd_c (pc := 20) (f := i_z (fun x => x = 0) 26 23) (y_of (x_if_eq (tgt := 26) dX6_value_20 (by decide))) ?_
  refine xd_c (pc := 23) (f := i_c (.int (-3)) 25) (y_of (x_bipush dX6_value_23 (by decide))) ?_
  refine xd_c (pc := 25) (f := i_ri 6 157) (y_ri (s_ri dX6_value_25 rfl)) ?_
  refine xd_c (pc := 26) (f := i_al 0 27) (y_of (x_aln (i := 0) dX6_value_26)) ?_
  refine xd_c (pc := 27) (f := i_al 0 28) (y_of (x_aln (i := 0) dX6_value_27)) ?_
  refine xd_c (pc := 28) (f := i_gf 6 0 31) (y_of (x_gf (ci := 6) (k := 0) dX6_value_28 rfl in_X6 (by decide) w178)) ?_
  refine xd_c (pc := 31) (f := i_ll 1 32) (y_of (x_lln (i := 1) dX6_value_31)) ?_
  refine xd_c (pc := 32) (f := i_ll 3 33) (y_of (x_lln (i := 3) dX6_value_32)) ?_
  refine xd_c (pc := 33) (f := i_cv 3 3 3 f_X3_fromLongs 5 151 6 157 36) (y_of (x_cv (np := 2) (rk := 3) (ci := 3) (rmz := rm_X3_fromLongs) dX6_value_33 V_X3_fromLongs w644 w645 w646 rfl (by decide))) ?_
  refine xd_c (pc := 36) (f := i_cv 6 2 1 f_X6_keep 0 0 6 157 39) (y_of (x_cv (np := 1) (rk := 1) (ci := 6) (rmz := rm_X6_keep) dX6_value_36 V_X6_keep w349 w351 wS_PlanFractions_keep__LPlanFractions_Fraction__I rfl (by decide))) ?_
  refine xd_c (pc := 39) (f := i_ri 6 157) (y_ri (s_ri dX6_value_39 rfl)) ?_
  exact xd_n
noncomputable def f_X6_value : List Value → me_M → Option sm_R := sd_f 5 T_X6_value
theorem V_X6_value : xd_V yX6_value cX6_value 5 (some .int) rm_X6_value 2 f_X6_value := ⟨xd_met A_X6_value (by decide +kernel), w640, w1, by decide +kernel⟩
set_option maxRecDepth 20000 in
theorem e_X6_value (x0 : Nat) (x1 : Int64) (x3 : Int64) (M : me_M) : f_X6_value [.ref x0, .long x1, .long x3] M = if (lg_cmp x3 (0 : Int64)) = 0 then (some (some (.float 0), M)) else (me_obj M 6 x0).bind fun _ => (f_X6_isFull [.ref x0] M).bind fun r1 => r1.1.bind fun v2 => (v_int v2).bind fun y3 => if y3 = 0 then ((me_obj r1.2 6 x0).bind fun f4 => (f4[0]?).bind fun w5 => (v_ref w5).bind fun a6 => (me_obj r1.2 3 a6).bind fun _ => (f_X3_fromLongs [.ref a6, .long x1, .long x3] r1.2).bind fun r7 => r7.1.bind fun v8 => (v_rn v8).bind fun _ => (me_obj r7.2 6 x0).bind fun _ => (f_X6_keep [.ref x0, v8] r7.2).bind fun r10 => r10.1.bind fun v11 => (v_int v11).bind fun y12 => if 5 ≤ 6 ∧ 151 ≤ 157 then some (some (.int y12), r10.2) else none) else if 0 ≤ 6 ∧ 0 ≤ 157 then some (some (.int (-3 : Int32)), r1.2) else none := (show f_X6_value [.ref x0, .long x1, .long x3] M = sm T_X6_value (0, [(0, .ref x0), (1, .long x1), (3, .long x3)], [], M, 0, 0) from rfl).trans (by have hF := xm_fx A_X6_value; generalize sm T_X6_value = F_ at hF ⊢; exact (sm_h hF (f := i_ll 3 1) rfl).trans (q_ll rfl ((sm_h hF (f := i_c (.long (0)) 2) rfl).trans (q_c ((sm_h hF (f := i_lc 3) rfl).trans (q_lc (vl (vl ((sm_h hF (f := i_z (fun x => x = 0) 6 16) rfl).trans (q_z (vi (ic ((sm_h hF (f := i_th 0 6 157) rfl).trans (q_th rfl (rfl))) ((sm_h hF (f := i_al 0 17) rfl).trans (q_al rfl ((sm_h hF (f := i_cv 6 1 1 f_X6_isFull 0 0 6 157 20) rfl).trans (q_cv rfl rfl rfl (vr (ob fun _ => ob fun r1 => cT rfl (q_r1 (ob fun v2 => ob fun y3 => (sm_h hF (f := i_z (fun x => x = 0) 26 23) rfl).trans (q_z (vi (ic ((sm_h hF (f := i_al 0 27) rfl).trans (q_al rfl ((sm_h hF (f := i_al 0 28) rfl).trans (q_al rfl ((sm_h hF (f := i_gf 6 0 31) rfl).trans (q_gf (vr (ob fun f4 => ob fun w5 => (sm_h hF (f := i_ll 1 32) rfl).trans (q_ll rfl ((sm_h hF (f := i_ll 3 33) rfl).trans (q_ll rfl ((sm_h hF (f := i_cv 3 3 3 f_X3_fromLongs 5 151 6 157 36) rfl).trans (q_cv rfl rfl rfl (ob fun a6 => ob fun _ => ob fun r7 => cT rfl (q_r3 (ob fun v8 => ob fun _ => (sm_h hF (f := i_cv 6 2 1 f_X6_keep 0 0 6 157 39) rfl).trans (q_cv rfl rfl rfl (vr (ob fun _ => ob fun r10 => cT rfl (q_r1 (ob fun v11 => ob fun y12 => (sm_h hF (f := i_ri 6 157) rfl).trans (q_ri (vi (rfl)))))))))))))))))))))))) ((sm_h hF (f := i_c (.int (-3)) 25) rfl).trans (q_c ((sm_h hF (f := i_ri 6 157) rfl).trans (q_ri (vi (rfl)))))))))))))))))))))))))))))
/-! X6_over -/
abbrev rm_X6_over : Room := { frames := 6, cells := 6, slots := 157, locals := 184 }
noncomputable def T_X6_over : sm_T := [(0, i_al 0 1), (1, i_il 1 2), (2, i_cv 6 2 1 f_X6_isValue 0 0 6 157 5), (5, i_z (fun x => x = 0) 16 8), (8, i_al 0 9), (9, i_il 2 10), (10, i_cv 6 2 1 f_X6_isValue 0 0 6 157 13), (13, i_z (fun x => x = 0) 16 19), (16, i_c (.int (-2)) 18), (18, i_ri 6 157), (19, i_al 0 20), (20, i_gf 6 2 23), (23, i_il 2 24), (24, i_aa 3 25), (25, i_gf 2 0 28), (28, i_z (fun x => x = 0) 31 41), (31, i_th 0 6 157), (41, i_al 0 42), (42, i_cv 6 1 1 f_X6_isFull 0 0 6 157 45), (45, i_z (fun x => x = 0) 51 48), (48, i_c (.int (-3)) 50), (50, i_ri 6 157), (51, i_al 0 52), (52, i_al 0 53), (53, i_gf 6 0 56), (56, i_al 0 57), (57, i_gf 6 2 60), (60, i_il 1 61), (61, i_aa 3 62), (62, i_al 0 63), (63, i_gf 6 2 66), (66, i_il 2 67), (67, i_aa 3 68), (68, i_w [(71, [])] (i_cv 3 3 3 f_X3_quotient 5 151 6 157 71)), (71, i_cv 6 2 1 f_X6_keep 0 0 6 157 74), (74, i_ri 6 157)]
set_option maxRecDepth 20000 in
theorem A_X6_over : xd_A yX6_over cX6_over 3 (some .int) rm_X6_over T_X6_over := by
  refine xd_c (pc := 0) (f := i_al 0 1) (y_of (x_aln (i := 0) dX6_over_0)) ?_
  refine xd_c (pc := 1) (f := i_il 1 2) (y_of (x_iln (i := 1) dX6_over_1)) ?_
  refine xd_c (pc := 2) (f := i_cv 6 2 1 f_X6_isValue 0 0 6 157 5) (y_of (x_cv (np := 1) (rk := 1) (ci := 6) (rmz := rm_X6_isValue) dX6_over_2 V_X6_isValue w213 w215 wS_PlanFractions_isValue__I_Z rfl (by decide))) ?_
  refine xd_c (pc := 5) (f := i_z (fun x => x = 0) 16 8) (y_of (x_if_eq (tgt := 16) dX6_over_5 (by decide))) ?_
  refine xd_c (pc := 8) (f := i_al 0 9) (y_of (x_aln (i := 0) dX6_over_8)) ?_
  refine xd_c (pc := 9) (f := i_il 2 10) (y_of (x_iln (i := 2) dX6_over_9)) ?_
  refine xd_c (pc := 10) (f := i_cv 6 2 1 f_X6_isValue 0 0 6 157 13) (y_of (x_cv (np := 1) (rk := 1) (ci := 6) (rmz := rm_X6_isValue) dX6_over_10 V_X6_isValue w213 w215 wS_PlanFractions_isValue__I_Z rfl (by decide))) ?_
  refine xd_c (pc := 13) (f := i_z (fun x => x = 0) 16 19) (y_of (x_if_ne (tgt := 19) dX6_over_13 (by decide))) ?_
  refine xd_c (pc := 16) (f := i_c (.int (-2)) 18) (y_of (x_bipush dX6_over_16 (by decide))) ?_
  refine xd_c (pc := 18) (f := i_ri 6 157) (y_ri (s_ri dX6_over_18 rfl)) ?_
  refine xd_c (pc := 19) (f := i_al 0 20) (y_of (x_aln (i := 0) dX6_over_19)) ?_
  refine xd_c (pc := 20) (f := i_gf 6 2 23) (y_of (x_gf (ci := 6) (k := 2) dX6_over_20 rfl in_X6 (by decide) w180)) ?_
  refine xd_c (pc := 23) (f := i_il 2 24) (y_of (x_iln (i := 2) dX6_over_23)) ?_
  refine xd_c (pc := 24) (f := i_aa 3 25) (y_of (x_aald (kd := 3) dX6_over_24 (Or.inl rfl))) ?_
  refine xd_c (pc := 25) (f := i_gf 2 0 28) (y_of (x_gf (ci := 2) (k := 0) dX6_over_25 rfl in_X2 (by decide) w103)) ?_
  refine xd_c (pc := 28) (f := i_z (fun x => x = 0) 31 41) (y_of (x_if_ne (tgt := 41) dX6_over_28 (by decide))) ?_
  refine xd_c (pc := 31) (f := i_th 0 6 157) (y_th (kx := 0) (cls := xe_C0) (names := xe_A) (by decide +kernel) (by decide +kernel) (by decide +kernel) (by decide +kernel) xw_k0 xw_i0 (text := "b is 0") (by decide +kernel) xe_g0 xe_n0 xe_o0 dX6_over_31 dX6_over_34 (Or.inl ⟨dX6_over_35, dX6_over_37, dX6_over_40⟩) (by decide)) ?_
  refine xd_c (pc := 41) (f := i_al 0 42) (y_of (x_aln (i := 0) dX6_over_41)) ?_
  refine xd_c (pc := 42) (f := i_cv 6 1 1 f_X6_isFull 0 0 6 157 45) (y_of (x_cv (np := 0) (rk := 1) (ci := 6) (rmz := rm_X6_isFull) dX6_over_42 V_X6_isFull w217 w219 wS_PlanFractions_isFull___Z rfl (by decide))) ?_
  refine xd_c (pc := 45) (f := i_z (fun x => x = 0) 51 48) (y_of (x_if_eq (tgt := 51) dX6_over_45 (by decide))) ?_
  refine xd_c (pc := 48) (f := i_c (.int (-3)) 50) (y_of (x_bipush dX6_over_48 (by decide))) ?_
  refine xd_c (pc := 50) (f := i_ri 6 157) (y_ri (s_ri dX6_over_50 rfl)) ?_
  refine xd_c (pc := 51) (f := i_al 0 52) (y_of (x_aln (i := 0) dX6_over_51)) ?_
  refine xd_c (pc := 52) (f := i_al 0 53) (y_of (x_aln (i := 0) dX6_over_52)) ?_
  refine xd_c (pc := 53) (f := i_gf 6 0 56) (y_of (x_gf (ci := 6) (k := 0) dX6_over_53 rfl in_X6 (by decide) w178)) ?_
  refine xd_c (pc := 56) (f := i_al 0 57) (y_of (x_aln (i := 0) dX6_over_56)) ?_
  refine xd_c (pc := 57) (f := i_gf 6 2 60) (y_of (x_gf (ci := 6) (k := 2) dX6_over_57 rfl in_X6 (by decide) w180)) ?_
  refine xd_c (pc := 60) (f := i_il 1 61) (y_of (x_iln (i := 1) dX6_over_60)) ?_
  refine xd_c (pc := 61) (f := i_aa 3 62) (y_of (x_aald (kd := 3) dX6_over_61 (Or.inl rfl))) ?_
  refine xd_c (pc := 62) (f := i_al 0 63) (y_of (x_aln (i := 0) dX6_over_62)) ?_
  refine xd_c (pc := 63) (f := i_gf 6 2 66) (y_of (x_gf (ci := 6) (k := 2) dX6_over_63 rfl in_X6 (by decide) w180)) ?_
  refine xd_c (pc := 66) (f := i_il 2 67) (y_of (x_iln (i := 2) dX6_over_66)) ?_
  refine xd_c (pc := 67) (f := i_aa 3 68) (y_of (x_aald (kd := 3) dX6_over_67 (Or.inl rfl))) ?_
  refine xd_c (pc := 68) (f := i_w [(71, [])] (i_cv 3 3 3 f_X3_quotient 5 151 6 157 71)) (y_of (x_w (x_cv (np := 2) (rk := 3) (ci := 3) (rmz := rm_X3_quotient) dX6_over_68 V_X3_quotient w485 w486 w487 rfl (by decide)))) ?_
  refine xd_c (pc := 71) (f := i_cv 6 2 1 f_X6_keep 0 0 6 157 74) (y_of (x_cv (np := 1) (rk := 1) (ci := 6) (rmz := rm_X6_keep) dX6_over_71 V_X6_keep w349 w351 wS_PlanFractions_keep__LPlanFractions_Fraction__I rfl (by decide))) ?_
  refine xd_c (pc := 74) (f := i_ri 6 157) (y_ri (s_ri dX6_over_74 rfl)) ?_
  exact xd_n
noncomputable def f_X6_over : List Value → me_M → Option sm_R := sd_f 3 T_X6_over
theorem V_X6_over : xd_V yX6_over cX6_over 3 (some .int) rm_X6_over 2 f_X6_over := ⟨xd_met A_X6_over (by decide +kernel), w654, w1, by decide +kernel⟩
set_option maxRecDepth 20000 in
theorem e_X6_over (x0 : Nat) (x1 : Int32) (x2 : Int32) (M : me_M) : f_X6_over [.ref x0, .int x1, .int x2] M = (me_obj M 6 x0).bind fun _ => (f_X6_isValue [.ref x0, .int x1] M).bind fun r1 => r1.1.bind fun v2 => (v_int v2).bind fun y3 => if y3 = 0 then (if 0 ≤ 6 ∧ 0 ≤ 157 then some (some (.int (-2 : Int32)), r1.2) else none) else (me_obj r1.2 6 x0).bind fun _ => (f_X6_isValue [.ref x0, .int x2] r1.2).bind fun r4 => r4.1.bind fun v5 => (v_int v5).bind fun y6 => if y6 = 0 then (if 0 ≤ 6 ∧ 0 ≤ 157 then some (some (.int (-2 : Int32)), r4.2) else none) else (me_obj r4.2 6 x0).bind fun f7 => (f7[2]?).bind fun w8 => (v_ref w8).bind fun a9 => (me_ref r4.2 3 a9).bind fun f10 => if x2 < 0 ∨ f10.1 ≤ x2.toNatClampNeg then (none) else (v_ref (va_rf (f10.2 x2.toNatClampNeg))).bind fun a11 => (me_obj r4.2 2 a11).bind fun f12 => (f12[0]?).bind fun w13 => (v_int w13).bind fun y14 => if y14 = 0 then (some (some (.float 0), r4.2)) else (me_obj r4.2 6 x0).bind fun _ => (f_X6_isFull [.ref x0] r4.2).bind fun r15 => r15.1.bind fun v16 => (v_int v16).bind fun y17 => if y17 = 0 then ((me_obj r15.2 6 x0).bind fun f18 => (f18[0]?).bind fun w19 => (me_obj r15.2 6 x0).bind fun f20 => (f20[2]?).bind fun w21 => (v_ref w21).bind fun a22 => (me_ref r15.2 3 a22).bind fun f23 => if x1 < 0 ∨ f23.1 ≤ x1.toNatClampNeg then (none) else (me_obj r15.2 6 x0).bind fun f24 => (f24[2]?).bind fun w25 => (v_ref w25).bind fun a26 => (me_ref r15.2 3 a26).bind fun f27 => if x2 < 0 ∨ f27.1 ≤ x2.toNatClampNeg then (none) else (v_ref w19).bind fun a28 => (me_obj r15.2 3 a28).bind fun _ => (f_X3_quotient [.ref a28, (va_rf (f23.2 x1.toNatClampNeg)), (va_rf (f27.2 x2.toNatClampNeg))] r15.2).bind fun r29 => r29.1.bind fun v30 => (v_rn v30).bind fun _ => sm T_X6_over (71, [], [v30, .ref x0], r29.2, 5, 151)) else if 0 ≤ 6 ∧ 0 ≤ 157 then some (some (.int (-3 : Int32)), r15.2) else none := (show f_X6_over [.ref x0, .int x1, .int x2] M = sm T_X6_over (0, [(0, .ref x0), (1, .int x1), (2, .int x2)], [], M, 0, 0) from rfl).trans (by have hF := xm_fx A_X6_over; generalize sm T_X6_over = F_ at hF ⊢; exact (sm_h hF (f := i_al 0 1) rfl).trans (q_al rfl ((sm_h hF (f := i_il 1 2) rfl).trans (q_il rfl ((sm_h hF (f := i_cv 6 2 1 f_X6_isValue 0 0 6 157 5) rfl).trans (q_cv rfl rfl rfl (vr (ob fun _ => ob fun r1 => cT rfl (q_r1 (ob fun v2 => ob fun y3 => (sm_h hF (f := i_z (fun x => x = 0) 16 8) rfl).trans (q_z (vi (ic ((sm_h hF (f := i_c (.int (-2)) 18) rfl).trans (q_c ((sm_h hF (f := i_ri 6 157) rfl).trans (q_ri (vi (rfl)))))) ((sm_h hF (f := i_al 0 9) rfl).trans (q_al rfl ((sm_h hF (f := i_il 2 10) rfl).trans (q_il rfl ((sm_h hF (f := i_cv 6 2 1 f_X6_isValue 0 0 6 157 13) rfl).trans (q_cv rfl rfl rfl (vr (ob fun _ => ob fun r4 => cT rfl (q_r1 (ob fun v5 => ob fun y6 => (sm_h hF (f := i_z (fun x => x = 0) 16 19) rfl).trans (q_z (vi (ic ((sm_h hF (f := i_c (.int (-2)) 18) rfl).trans (q_c ((sm_h hF (f := i_ri 6 157) rfl).trans (q_ri (vi (rfl)))))) ((sm_h hF (f := i_al 0 20) rfl).trans (q_al rfl ((sm_h hF (f := i_gf 6 2 23) rfl).trans (q_gf (vr (ob fun f7 => ob fun w8 => (sm_h hF (f := i_il 2 24) rfl).trans (q_il rfl ((sm_h hF (f := i_aa 3 25) rfl).trans (q_aa (vi (ob fun a9 => ob fun f10 => ic (rfl) ((sm_h hF (f := i_gf 2 0 28) rfl).trans (q_gf (ob fun a11 => ob fun f12 => ob fun w13 => (sm_h hF (f := i_z (fun x => x = 0) 31 41) rfl).trans (q_z (ob fun y14 => ic ((sm_h hF (f := i_th 0 6 157) rfl).trans (q_th rfl (rfl))) ((sm_h hF (f := i_al 0 42) rfl).trans (q_al rfl ((sm_h hF (f := i_cv 6 1 1 f_X6_isFull 0 0 6 157 45) rfl).trans (q_cv rfl rfl rfl (vr (ob fun _ => ob fun r15 => cT rfl (q_r1 (ob fun v16 => ob fun y17 => (sm_h hF (f := i_z (fun x => x = 0) 51 48) rfl).trans (q_z (vi (ic ((sm_h hF (f := i_al 0 52) rfl).trans (q_al rfl ((sm_h hF (f := i_al 0 53) rfl).trans (q_al rfl ((sm_h hF (f := i_gf 6 0 56) rfl).trans (q_gf (vr (ob fun f18 => ob fun w19 => (sm_h hF (f := i_al 0 57) rfl).trans (q_al rfl ((sm_h hF (f := i_gf 6 2 60) rfl).trans (q_gf (vr (ob fun f20 => ob fun w21 => (sm_h hF (f := i_il 1 61) rfl).trans (q_il rfl ((sm_h hF (f := i_aa 3 62) rfl).trans (q_aa (vi (ob fun a22 => ob fun f23 => ic (rfl) ((sm_h hF (f := i_al 0 63) rfl).trans (q_al rfl ((sm_h hF (f := i_gf 6 2 66) rfl).trans (q_gf (vr (ob fun f24 => ob fun w25 => (sm_h hF (f := i_il 2 67) rfl).trans (q_il rfl ((sm_h hF (f := i_aa 3 68) rfl).trans (q_aa (vi (ob fun a26 => ob fun f27 => ic (rfl) ((sm_h hF (f := i_w [(71, [])] (i_cv 3 3 3 f_X3_quotient 5 151 6 157 71)) rfl).trans (q_w (q_cv rfl rfl rfl (ob fun a28 => ob fun _ => ob fun r29 => cT rfl (q_r3 (ob fun v30 => ob fun _ => rfl))))))))))))))))))))))))))))))))))) ((sm_h hF (f := i_c (.int (-3)) 50) rfl).trans (q_c ((sm_h hF (f := i_ri 6 157) rfl).trans (q_ri (vi (rfl)))))))))))))))))))))))))))))))))))))))))))))))))))))))))))
set_option maxRecDepth 20000 in
theorem e_X6_over_71 (s0 : Value) (s1 : Nat) (M : me_M) (c n : Nat) : sm T_X6_over (71, [], [s0, .ref s1], M, c, n) = (me_obj M 6 s1).bind fun _ => (f_X6_keep [.ref s1, s0] M).bind fun r1 => cond (Nat.ble (c + 0) 6 && Nat.ble (n + 0) 157) (r1.1.bind fun v2 => (v_int v2).bind fun y3 => if (c + 0) ≤ 6 ∧ (n + 0) ≤ 157 then some (some (.int y3), r1.2) else none) none := (by have hF := xm_fx A_X6_over; generalize sm T_X6_over = F_ at hF ⊢; exact (sm_h hF (f := i_cv 6 2 1 f_X6_keep 0 0 6 157 74) rfl).trans (q_cv rfl rfl rfl (vr (ob fun _ => ob fun r1 => cg (q_r1 (ob fun v2 => ob fun y3 => (sm_h hF (f := i_ri 6 157) rfl).trans (q_ri (vi (rfl))))) rfl))))
/-! X6_rest -/
abbrev rm_X6_rest : Room := { frames := 6, cells := 6, slots := 157, locals := 184 }
noncomputable def T_X6_rest : sm_T := [(0, i_al 0 1), (1, i_il 1 2), (2, i_cv 6 2 1 f_X6_isValue 0 0 6 157 5), (5, i_z (fun x => x = 0) 16 8), (8, i_al 0 9), (9, i_il 2 10), (10, i_cv 6 2 1 f_X6_isValue 0 0 6 157 13), (13, i_z (fun x => x = 0) 16 19), (16, i_c (.int (-2)) 18), (18, i_ri 6 157), (19, i_al 0 20), (20, i_gf 6 2 23), (23, i_il 2 24), (24, i_aa 3 25), (25, i_gf 2 0 28), (28, i_z (fun x => x = 0) 31 41), (31, i_th 0 6 157), (41, i_al 0 42), (42, i_cv 6 1 1 f_X6_isFull 0 0 6 157 45), (45, i_z (fun x => x = 0) 51 48), (48, i_c (.int (-3)) 50), (50, i_ri 6 157), (51, i_al 0 52), (52, i_al 0 53), (53, i_gf 6 0 56), (56, i_al 0 57), (57, i_gf 6 2 60), (60, i_il 1 61), (61, i_aa 3 62), (62, i_al 0 63), (63, i_gf 6 2 66), (66, i_il 2 67), (67, i_aa 3 68), (68, i_w [(71, [])] (i_cv 3 3 3 f_X3_remainder 5 151 6 157 71)), (71, i_cv 6 2 1 f_X6_keep 0 0 6 157 74), (74, i_ri 6 157)]
set_option maxRecDepth 20000 in
theorem A_X6_rest : xd_A yX6_rest cX6_rest 3 (some .int) rm_X6_rest T_X6_rest := by
  refine xd_c (pc := 0) (f := i_al 0 1) (y_of (x_aln (i := 0) dX6_rest_0)) ?_
  refine xd_c (pc := 1) (f := i_il 1 2) (y_of (x_iln (i := 1) dX6_rest_1)) ?_
  refine xd_c (pc := 2) (f := i_cv 6 2 1 f_X6_isValue 0 0 6 157 5) (y_of (x_cv (np := 1) (rk := 1) (ci := 6) (rmz := rm_X6_isValue) dX6_rest_2 V_X6_isValue w213 w215 wS_PlanFractions_isValue__I_Z rfl (by decide))) ?_
  refine xd_c (pc := 5) (f := i_z (fun x => x = 0) 16 8) (y_of (x_if_eq (tgt := 16) dX6_rest_5 (by decide))) ?_
  refine xd_c (pc := 8) (f := i_al 0 9) (y_of (x_aln (i := 0) dX6_rest_8)) ?_
  refine xd_c (pc := 9) (f := i_il 2 10) (y_of (x_iln (i := 2) dX6_rest_9)) ?_
  refine xd_c (pc := 10) (f := i_cv 6 2 1 f_X6_isValue 0 0 6 157 13) (y_of (x_cv (np := 1) (rk := 1) (ci := 6) (rmz := rm_X6_isValue) dX6_rest_10 V_X6_isValue w213 w215 wS_PlanFractions_isValue__I_Z rfl (by decide))) ?_
  refine xd_c (pc := 13) (f := i_z (fun x => x = 0) 16 19) (y_of (x_if_ne (tgt := 19) dX6_rest_13 (by decide))) ?_
  refine xd_c (pc := 16) (f := i_c (.int (-2)) 18) (y_of (x_bipush dX6_rest_16 (by decide))) ?_
  refine xd_c (pc := 18) (f := i_ri 6 157) (y_ri (s_ri dX6_rest_18 rfl)) ?_
  refine xd_c (pc := 19) (f := i_al 0 20) (y_of (x_aln (i := 0) dX6_rest_19)) ?_
  refine xd_c (pc := 20) (f := i_gf 6 2 23) (y_of (x_gf (ci := 6) (k := 2) dX6_rest_20 rfl in_X6 (by decide) w180)) ?_
  refine xd_c (pc := 23) (f := i_il 2 24) (y_of (x_iln (i := 2) dX6_rest_23)) ?_
  refine xd_c (pc := 24) (f := i_aa 3 25) (y_of (x_aald (kd := 3) dX6_rest_24 (Or.inl rfl))) ?_
  refine xd_c (pc := 25) (f := i_gf 2 0 28) (y_of (x_gf (ci := 2) (k := 0) dX6_rest_25 rfl in_X2 (by decide) w103)) ?_
  refine xd_c (pc := 28) (f := i_z (fun x => x = 0) 31 41) (y_of (x_if_ne (tgt := 41) dX6_rest_28 (by decide))) ?_
  refine xd_c (pc := 31) (f := i_th 0 6 157) (y_th (kx := 0) (cls := xe_C0) (names := xe_A) (by decide +kernel) (by decide +kernel) (by decide +kernel) (by decide +kernel) xw_k0 xw_i0 (text := "b is 0") (by decide +kernel) xe_g0 xe_n0 xe_o0 dX6_rest_31 dX6_rest_34 (Or.inl ⟨dX6_rest_35, dX6_rest_37, dX6_rest_40⟩) (by decide)) ?_
  refine xd_c (pc := 41) (f := i_al 0 42) (y_of (x_aln (i := 0) dX6_rest_41)) ?_
  refine xd_c (pc := 42) (f := i_cv 6 1 1 f_X6_isFull 0 0 6 157 45) (y_of (x_cv (np := 0) (rk := 1) (ci := 6) (rmz := rm_X6_isFull) dX6_rest_42 V_X6_isFull w217 w219 wS_PlanFractions_isFull___Z rfl (by decide))) ?_
  refine xd_c (pc := 45) (f := i_z (fun x => x = 0) 51 48) (y_of (x_if_eq (tgt := 51) dX6_rest_45 (by decide))) ?_
  refine xd_c (pc := 48) (f := i_c (.int (-3)) 50) (y_of (x_bipush dX6_rest_48 (by decide))) ?_
  refine xd_c (pc := 50) (f := i_ri 6 157) (y_ri (s_ri dX6_rest_50 rfl)) ?_
  refine xd_c (pc := 51) (f := i_al 0 52) (y_of (x_aln (i := 0) dX6_rest_51)) ?_
  refine xd_c (pc := 52) (f := i_al 0 53) (y_of (x_aln (i := 0) dX6_rest_52)) ?_
  refine xd_c (pc := 53) (f := i_gf 6 0 56) (y_of (x_gf (ci := 6) (k := 0) dX6_rest_53 rfl in_X6 (by decide) w178)) ?_
  refine xd_c (pc := 56) (f := i_al 0 57) (y_of (x_aln (i := 0) dX6_rest_56)) ?_
  refine xd_c (pc := 57) (f := i_gf 6 2 60) (y_of (x_gf (ci := 6) (k := 2) dX6_rest_57 rfl in_X6 (by decide) w180)) ?_
  refine xd_c (pc := 60) (f := i_il 1 61) (y_of (x_iln (i := 1) dX6_rest_60)) ?_
  refine xd_c (pc := 61) (f := i_aa 3 62) (y_of (x_aald (kd := 3) dX6_rest_61 (Or.inl rfl))) ?_
  refine xd_c (pc := 62) (f := i_al 0 63) (y_of (x_aln (i := 0) dX6_rest_62)) ?_
  refine xd_c (pc := 63) (f := i_gf 6 2 66) (y_of (x_gf (ci := 6) (k := 2) dX6_rest_63 rfl in_X6 (by decide) w180)) ?_
  refine xd_c (pc := 66) (f := i_il 2 67) (y_of (x_iln (i := 2) dX6_rest_66)) ?_
  refine xd_c (pc := 67) (f := i_aa 3 68) (y_of (x_aald (kd := 3) dX6_rest_67 (Or.inl rfl))) ?_
  refine xd_c (pc := 68) (f := i_w [(71, [])] (i_cv 3 3 3 f_X3_remainder 5 151 6 157 71)) (y_of (x_w (x_cv (np := 2) (rk := 3) (ci := 3) (rmz := rm_X3_remainder) dX6_rest_68 V_X3_remainder w663 w664 w665 rfl (by decide)))) ?_
  refine xd_c (pc := 71) (f := i_cv 6 2 1 f_X6_keep 0 0 6 157 74) (y_of (x_cv (np := 1) (rk := 1) (ci := 6) (rmz := rm_X6_keep) dX6_rest_71 V_X6_keep w349 w351 wS_PlanFractions_keep__LPlanFractions_Fraction__I rfl (by decide))) ?_
  refine xd_c (pc := 74) (f := i_ri 6 157) (y_ri (s_ri dX6_rest_74 rfl)) ?_
  exact xd_n
noncomputable def f_X6_rest : List Value → me_M → Option sm_R := sd_f 3 T_X6_rest
theorem V_X6_rest : xd_V yX6_rest cX6_rest 3 (some .int) rm_X6_rest 2 f_X6_rest := ⟨xd_met A_X6_rest (by decide +kernel), w662, w1, by decide +kernel⟩
set_option maxRecDepth 20000 in
theorem e_X6_rest (x0 : Nat) (x1 : Int32) (x2 : Int32) (M : me_M) : f_X6_rest [.ref x0, .int x1, .int x2] M = (me_obj M 6 x0).bind fun _ => (f_X6_isValue [.ref x0, .int x1] M).bind fun r1 => r1.1.bind fun v2 => (v_int v2).bind fun y3 => if y3 = 0 then (if 0 ≤ 6 ∧ 0 ≤ 157 then some (some (.int (-2 : Int32)), r1.2) else none) else (me_obj r1.2 6 x0).bind fun _ => (f_X6_isValue [.ref x0, .int x2] r1.2).bind fun r4 => r4.1.bind fun v5 => (v_int v5).bind fun y6 => if y6 = 0 then (if 0 ≤ 6 ∧ 0 ≤ 157 then some (some (.int (-2 : Int32)), r4.2) else none) else (me_obj r4.2 6 x0).bind fun f7 => (f7[2]?).bind fun w8 => (v_ref w8).bind fun a9 => (me_ref r4.2 3 a9).bind fun f10 => if x2 < 0 ∨ f10.1 ≤ x2.toNatClampNeg then (none) else (v_ref (va_rf (f10.2 x2.toNatClampNeg))).bind fun a11 => (me_obj r4.2 2 a11).bind fun f12 => (f12[0]?).bind fun w13 => (v_int w13).bind fun y14 => if y14 = 0 then (some (some (.float 0), r4.2)) else (me_obj r4.2 6 x0).bind fun _ => (f_X6_isFull [.ref x0] r4.2).bind fun r15 => r15.1.bind fun v16 => (v_int v16).bind fun y17 => if y17 = 0 then ((me_obj r15.2 6 x0).bind fun f18 => (f18[0]?).bind fun w19 => (me_obj r15.2 6 x0).bind fun f20 => (f20[2]?).bind fun w21 => (v_ref w21).bind fun a22 => (me_ref r15.2 3 a22).bind fun f23 => if x1 < 0 ∨ f23.1 ≤ x1.toNatClampNeg then (none) else (me_obj r15.2 6 x0).bind fun f24 => (f24[2]?).bind fun w25 => (v_ref w25).bind fun a26 => (me_ref r15.2 3 a26).bind fun f27 => if x2 < 0 ∨ f27.1 ≤ x2.toNatClampNeg then (none) else (v_ref w19).bind fun a28 => (me_obj r15.2 3 a28).bind fun _ => (f_X3_remainder [.ref a28, (va_rf (f23.2 x1.toNatClampNeg)), (va_rf (f27.2 x2.toNatClampNeg))] r15.2).bind fun r29 => r29.1.bind fun v30 => (v_rn v30).bind fun _ => sm T_X6_rest (71, [], [v30, .ref x0], r29.2, 5, 151)) else if 0 ≤ 6 ∧ 0 ≤ 157 then some (some (.int (-3 : Int32)), r15.2) else none := (show f_X6_rest [.ref x0, .int x1, .int x2] M = sm T_X6_rest (0, [(0, .ref x0), (1, .int x1), (2, .int x2)], [], M, 0, 0) from rfl).trans (by have hF := xm_fx A_X6_rest; generalize sm T_X6_rest = F_ at hF ⊢; exact (sm_h hF (f := i_al 0 1) rfl).trans (q_al rfl ((sm_h hF (f := i_il 1 2) rfl).trans (q_il rfl ((sm_h hF (f := i_cv 6 2 1 f_X6_isValue 0 0 6 157 5) rfl).trans (q_cv rfl rfl rfl (vr (ob fun _ => ob fun r1 => cT rfl (q_r1 (ob fun v2 => ob fun y3 => (sm_h hF (f := i_z (fun x => x = 0) 16 8) rfl).trans (q_z (vi (ic ((sm_h hF (f := i_c (.int (-2)) 18) rfl).trans (q_c ((sm_h hF (f := i_ri 6 157) rfl).trans (q_ri (vi (rfl)))))) ((sm_h hF (f := i_al 0 9) rfl).trans (q_al rfl ((sm_h hF (f := i_il 2 10) rfl).trans (q_il rfl ((sm_h hF (f := i_cv 6 2 1 f_X6_isValue 0 0 6 157 13) rfl).trans (q_cv rfl rfl rfl (vr (ob fun _ => ob fun r4 => cT rfl (q_r1 (ob fun v5 => ob fun y6 => (sm_h hF (f := i_z (fun x => x = 0) 16 19) rfl).trans (q_z (vi (ic ((sm_h hF (f := i_c (.int (-2)) 18) rfl).trans (q_c ((sm_h hF (f := i_ri 6 157) rfl).trans (q_ri (vi (rfl)))))) ((sm_h hF (f := i_al 0 20) rfl).trans (q_al rfl ((sm_h hF (f := i_gf 6 2 23) rfl).trans (q_gf (vr (ob fun f7 => ob fun w8 => (sm_h hF (f := i_il 2 24) rfl).trans (q_il rfl ((sm_h hF (f := i_aa 3 25) rfl).trans (q_aa (vi (ob fun a9 => ob fun f10 => ic (rfl) ((sm_h hF (f := i_gf 2 0 28) rfl).trans (q_gf (ob fun a11 => ob fun f12 => ob fun w13 => (sm_h hF (f := i_z (fun x => x = 0) 31 41) rfl).trans (q_z (ob fun y14 => ic ((sm_h hF (f := i_th 0 6 157) rfl).trans (q_th rfl (rfl))) ((sm_h hF (f := i_al 0 42) rfl).trans (q_al rfl ((sm_h hF (f := i_cv 6 1 1 f_X6_isFull 0 0 6 157 45) rfl).trans (q_cv rfl rfl rfl (vr (ob fun _ => ob fun r15 => cT rfl (q_r1 (ob fun v16 => ob fun y17 => (sm_h hF (f := i_z (fun x => x = 0) 51 48) rfl).trans (q_z (vi (ic ((sm_h hF (f := i_al 0 52) rfl).trans (q_al rfl ((sm_h hF (f := i_al 0 53) rfl).trans (q_al rfl ((sm_h hF (f := i_gf 6 0 56) rfl).trans (q_gf (vr (ob fun f18 => ob fun w19 => (sm_h hF (f := i_al 0 57) rfl).trans (q_al rfl ((sm_h hF (f := i_gf 6 2 60) rfl).trans (q_gf (vr (ob fun f20 => ob fun w21 => (sm_h hF (f := i_il 1 61) rfl).trans (q_il rfl ((sm_h hF (f := i_aa 3 62) rfl).trans (q_aa (vi (ob fun a22 => ob fun f23 => ic (rfl) ((sm_h hF (f := i_al 0 63) rfl).trans (q_al rfl ((sm_h hF (f := i_gf 6 2 66) rfl).trans (q_gf (vr (ob fun f24 => ob fun w25 => (sm_h hF (f := i_il 2 67) rfl).trans (q_il rfl ((sm_h hF (f := i_aa 3 68) rfl).trans (q_aa (vi (ob fun a26 => ob fun f27 => ic (rfl) ((sm_h hF (f := i_w [(71, [])] (i_cv 3 3 3 f_X3_remainder 5 151 6 157 71)) rfl).trans (q_w (q_cv rfl rfl rfl (ob fun a28 => ob fun _ => ob fun r29 => cT rfl (q_r3 (ob fun v30 => ob fun _ => rfl))))))))))))))))))))))))))))))))))) ((sm_h hF (f := i_c (.int (-3)) 50) rfl).trans (q_c ((sm_h hF (f := i_ri 6 157) rfl).trans (q_ri (vi (rfl)))))))))))))))))))))))))))))))))))))))))))))))))))))))))))
set_option maxRecDepth 20000 in
theorem e_X6_rest_71 (s0 : Value) (s1 : Nat) (M : me_M) (c n : Nat) : sm T_X6_rest (71, [], [s0, .ref s1], M, c, n) = (me_obj M 6 s1).bind fun _ => (f_X6_keep [.ref s1, s0] M).bind fun r1 => cond (Nat.ble (c + 0) 6 && Nat.ble (n + 0) 157) (r1.1.bind fun v2 => (v_int v2).bind fun y3 => if (c + 0) ≤ 6 ∧ (n + 0) ≤ 157 then some (some (.int y3), r1.2) else none) none := (by have hF := xm_fx A_X6_rest; generalize sm T_X6_rest = F_ at hF ⊢; exact (sm_h hF (f := i_cv 6 2 1 f_X6_keep 0 0 6 157 74) rfl).trans (q_cv rfl rfl rfl (vr (ob fun _ => ob fun r1 => cg (q_r1 (ob fun v2 => ob fun y3 => (sm_h hF (f := i_ri 6 157) rfl).trans (q_ri (vi (rfl))))) rfl))))
/-! X6_part -/
abbrev rm_X6_part : Room := { frames := 6, cells := 2, slots := 12, locals := 90 }
noncomputable def T_X6_part : sm_T := [(0, i_al 0 1), (1, i_il 1 2), (2, i_cv 6 2 1 f_X6_isValue 0 0 2 12 5), (5, i_z (fun x => x = 0) 17 8), (8, i_il 2 9), (9, i_z (fun x => x < 0) 17 12), (12, i_il 2 13), (13, i_c (.int (1)) 14), (14, i_zz (fun x z => x ≤ z) 27 17), (17, i_th 1 2 12), (27, i_al 0 28), (28, i_gf 6 2 31), (31, i_il 1 32), (32, i_aa 3 33), (33, i_il 2 34), (34, i_cv 2 2 3 f_X2_side 0 0 2 12 37), (37, i_as 3 38), (38, i_il 2 39), (39, i_w [(58, [3])] (i_z (fun x => x = 0) 42 58)), (42, i_al 0 43), (43, i_gf 6 2 46), (46, i_il 1 47), (47, i_aa 3 48), (48, i_gf 2 0 51), (51, i_w [(58, [3])] (i_z (fun x => 0 ≤ x) 58 54)), (54, i_c (.int (1)) 55), (55, i_w [(59, [3])] (i_g 59)), (58, i_w [(59, [3])] (i_c (.int (0)) 59)), (59, i_is 4 61), (61, i_al 3 62), (62, i_il 4 64), (64, i_cv 5 2 1 f_X5_fitsLong 0 0 2 12 67), (67, i_z (fun x => x = 0) 70 80), (70, i_th 0 2 12), (80, i_il 4 82), (82, i_z (fun x => x = 0) 93 85), (85, i_al 3 86), (86, i_cv 5 1 2 f_X5_lowLong 0 0 2 12 89), (89, i_u22 (fun x => -x) 90), (90, i_g 97), (93, i_al 3 94), (94, i_cv 5 1 2 f_X5_lowLong 0 0 2 12 97), (97, i_rl 2 12)]
set_option maxRecDepth 20000 in
theorem A_X6_part : xd_A yX6_part cX6_part 5 (some .long) rm_X6_part T_X6_part := by
  refine xd_c (pc := 0) (f := i_al 0 1) (y_of (x_aln (i := 0) dX6_part_0)) ?_
  refine xd_c (pc := 1) (f := i_il 1 2) (y_of (x_iln (i := 1) dX6_part_1)) ?_
  refine xd_c (pc := 2) (f := i_cv 6 2 1 f_X6_isValue 0 0 2 12 5) (y_of (x_cv (np := 1) (rk := 1) (ci := 6) (rmz := rm_X6_isValue) dX6_part_2 V_X6_isValue w213 w215 wS_PlanFractions_isValue__I_Z rfl (by decide))) ?_
  refine xd_c (pc := 5) (f := i_z (fun x => x = 0) 17 8) (y_of (x_if_eq (tgt := 17) dX6_part_5 (by decide))) ?_
  refine xd_c (pc := 8) (f := i_il 2 9) (y_of (x_iln (i := 2) dX6_part_8)) ?_
  refine xd_c (pc := 9) (f := i_z (fun x => x < 0) 17 12) (y_of (x_if_lt (tgt := 17) dX6_part_9 (by decide))) ?_
  refine xd_c (pc := 12) (f := i_il 2 13) (y_of (x_iln (i := 2) dX6_part_12)) ?_
  refine xd_c (pc := 13) (f := i_c (.int (1)) 14) (y_of (x_iconst dX6_part_13 (by decide))) ?_
  refine xd_c (pc := 14) (f := i_zz (fun x z => x ≤ z) 27 17) (y_of (x_ic_le (tgt := 27) dX6_part_14 (by decide))) ?_
  refine xd_c (pc := 17) (f := i_th 1 2 12) (y_th (kx := 1) (cls := xe_C1) (names := xe_A) (by decide +kernel) (by decide +kernel) (by decide +kernel) (by decide +kernel) xw_k1 xw_i1 (text := "no such VALUE or part") (by decide +kernel) xe_g1 xe_n1 xe_o1 dX6_part_17 dX6_part_20 (Or.inl ⟨dX6_part_21, dX6_part_23, dX6_part_26⟩) (by decide)) ?_
  refine xd_c (pc := 27) (f := i_al 0 28) (y_of (x_aln (i := 0) dX6_part_27)) ?_
  refine xd_c (pc := 28) (f := i_gf 6 2 31) (y_of (x_gf (ci := 6) (k := 2) dX6_part_28 rfl in_X6 (by decide) w180)) ?_
  refine xd_c (pc := 31) (f := i_il 1 32) (y_of (x_iln (i := 1) dX6_part_31)) ?_
  refine xd_c (pc := 32) (f := i_aa 3 33) (y_of (x_aald (kd := 3) dX6_part_32 (Or.inl rfl))) ?_
  refine xd_c (pc := 33) (f := i_il 2 34) (y_of (x_iln (i := 2) dX6_part_33)) ?_
  refine xd_c (pc := 34) (f := i_cv 2 2 3 f_X2_side 0 0 2 12 37) (y_of (x_cv (np := 1) (rk := 3) (ci := 2) (rmz := rm_X2_side) dX6_part_34 V_X2_side w691 w692 w693 rfl (by decide))) ?_
  refine xd_c (pc := 37) (f := i_as 3 38) (y_of (x_asn (i := 3) dX6_part_37 (by decide))) ?_
  refine xd_c (pc := 38) (f := i_il 2 39) (y_of (x_iln (i := 2) dX6_part_38)) ?_
  refine xd_c (pc := 39) (f := i_w [(58, [3])] (i_z (fun x => x = 0) 42 58)) (y_of (x_w (x_if_ne (tgt := 58) dX6_part_39 (by decide)))) ?_
  refine xd_c (pc := 42) (f := i_al 0 43) (y_of (x_aln (i := 0) dX6_part_42)) ?_
  refine xd_c (pc := 43) (f := i_gf 6 2 46) (y_of (x_gf (ci := 6) (k := 2) dX6_part_43 rfl in_X6 (by decide) w180)) ?_
  refine xd_c (pc := 46) (f := i_il 1 47) (y_of (x_iln (i := 1) dX6_part_46)) ?_
  refine xd_c (pc := 47) (f := i_aa 3 48) (y_of (x_aald (kd := 3) dX6_part_47 (Or.inl rfl))) ?_
  refine xd_c (pc := 48) (f := i_gf 2 0 51) (y_of (x_gf (ci := 2) (k := 0) dX6_part_48 rfl in_X2 (by decide) w103)) ?_
  refine xd_c (pc := 51) (f := i_w [(58, [3])] (i_z (fun x => 0 ≤ x) 58 54)) (y_of (x_w (x_if_ge (tgt := 58) dX6_part_51 (by decide)))) ?_
  refine xd_c (pc := 54) (f := i_c (.int (1)) 55) (y_of (x_iconst dX6_part_54 (by decide))) ?_
  refine xd_c (pc := 55) (f := i_w [(59, [3])] (i_g 59)) (y_of (x_w (x_goto (tgt := 59) dX6_part_55 (by decide)))) ?_
  refine xd_c (pc := 58) (f := i_w [(59, [3])] (i_c (.int (0)) 59)) (y_of (x_w (x_iconst dX6_part_58 (by decide)))) ?_
  refine xd_c (pc := 59) (f := i_is 4 61) (y_of (x_is (i := 4) dX6_part_59 (by decide))) ?_
  refine xd_c (pc := 61) (f := i_al 3 62) (y_of (x_aln (i := 3) dX6_part_61)) ?_
  refine xd_c (pc := 62) (f := i_il 4 64) (y_of (x_il dX6_part_62)) ?_
  refine xd_c (pc := 64) (f := i_cv 5 2 1 f_X5_fitsLong 0 0 2 12 67) (y_of (x_cv (np := 1) (rk := 1) (ci := 5) (rmz := rm_X5_fitsLong) dX6_part_64 V_X5_fitsLong w695 w362 w363 rfl (by decide))) ?_
  refine xd_c (pc := 67) (f := i_z (fun x => x = 0) 70 80) (y_of (x_if_ne (tgt := 80) dX6_part_67 (by decide))) ?_
  refine xd_c (pc := 70) (f := i_th 0 2 12) (y_th (kx := 0) (cls := xe_C0) (names := xe_A) (by decide +kernel) (by decide +kernel) (by decide +kernel) (by decide +kernel) xw_k0 xw_i0 (text := "it is no long") (by decide +kernel) xe_g0 xe_n0 xe_o0 dX6_part_70 dX6_part_73 (Or.inl ⟨dX6_part_74, dX6_part_76, dX6_part_79⟩) (by decide)) ?_
  refine xd_c (pc := 80) (f := i_il 4 82) (y_of (x_il dX6_part_80)) ?_
  refine xd_c (pc := 82) (f := i_z (fun x => x = 0) 93 85) (y_of (x_if_eq (tgt := 93) dX6_part_82 (by decide))) ?_
  refine xd_c (pc := 85) (f := i_al 3 86) (y_of (x_aln (i := 3) dX6_part_85)) ?_
  refine xd_c (pc := 86) (f := i_cv 5 1 2 f_X5_lowLong 0 0 2 12 89) (y_of (x_cv (np := 0) (rk := 2) (ci := 5) (rmz := rm_X5_lowLong) dX6_part_86 V_X5_lowLong w697 w305 w306 rfl (by decide))) ?_
  refine xd_c (pc := 89) (f := i_u22 (fun x => -x) 90) (y_of (x_lneg dX6_part_89)) ?_
  refine xd_c (pc := 90) (f := i_g 97) (y_of (x_goto (tgt := 97) dX6_part_90 (by decide))) ?_
  refine xd_c (pc := 93) (f := i_al 3 94) (y_of (x_aln (i := 3) dX6_part_93)) ?_
  refine xd_c (pc := 94) (f := i_cv 5 1 2 f_X5_lowLong 0 0 2 12 97) (y_of (x_cv (np := 0) (rk := 2) (ci := 5) (rmz := rm_X5_lowLong) dX6_part_94 V_X5_lowLong w697 w305 w306 rfl (by decide))) ?_
  refine xd_c (pc := 97) (f := i_rl 2 12) (y_rl (s_rl dX6_part_97 rfl)) ?_
  exact xd_n
noncomputable def f_X6_part : List Value → me_M → Option sm_R := sd_f 5 T_X6_part
theorem V_X6_part : xd_V yX6_part cX6_part 5 (some .long) rm_X6_part 2 f_X6_part := ⟨xd_met A_X6_part (by decide +kernel), w674, w1, by decide +kernel⟩
set_option maxRecDepth 20000 in
theorem e_X6_part (x0 : Nat) (x1 : Int32) (x2 : Int32) (M : me_M) : f_X6_part [.ref x0, .int x1, .int x2] M = (me_obj M 6 x0).bind fun _ => (f_X6_isValue [.ref x0, .int x1] M).bind fun r1 => r1.1.bind fun v2 => (v_int v2).bind fun y3 => if y3 = 0 then (some (some (.float 1), r1.2)) else if x2 < 0 then (some (some (.float 1), r1.2)) else if x2 ≤ (1 : Int32) then ((me_obj r1.2 6 x0).bind fun f4 => (f4[2]?).bind fun w5 => (v_ref w5).bind fun a6 => (me_ref r1.2 3 a6).bind fun f7 => if x1 < 0 ∨ f7.1 ≤ x1.toNatClampNeg then (none) else (v_ref (va_rf (f7.2 x1.toNatClampNeg))).bind fun a8 => (me_obj r1.2 2 a8).bind fun _ => (f_X2_side [.ref a8, .int x2] r1.2).bind fun r9 => r9.1.bind fun v10 => (v_rn v10).bind fun _ => (v_ref v10).bind fun a12 => if x2 = 0 then ((me_obj r9.2 6 x0).bind fun f13 => (f13[2]?).bind fun w14 => (v_ref w14).bind fun a15 => (me_ref r9.2 3 a15).bind fun f16 => if x1 < 0 ∨ f16.1 ≤ x1.toNatClampNeg then (none) else (v_ref (va_rf (f16.2 x1.toNatClampNeg))).bind fun a17 => (me_obj r9.2 2 a17).bind fun f18 => (f18[0]?).bind fun w19 => (v_int w19).bind fun y20 => if 0 ≤ y20 then (sm T_X6_part (58, [(3, .ref a12)], [], r9.2, 0, 0)) else sm T_X6_part (59, [(3, .ref a12)], [.int (1 : Int32)], r9.2, 0, 0)) else sm T_X6_part (58, [(3, .ref a12)], [], r9.2, 0, 0)) else some (some (.float 1), r1.2) := (show f_X6_part [.ref x0, .int x1, .int x2] M = sm T_X6_part (0, [(0, .ref x0), (1, .int x1), (2, .int x2)], [], M, 0, 0) from rfl).trans (by have hF := xm_fx A_X6_part; generalize sm T_X6_part = F_ at hF ⊢; exact (sm_h hF (f := i_al 0 1) rfl).trans (q_al rfl ((sm_h hF (f := i_il 1 2) rfl).trans (q_il rfl ((sm_h hF (f := i_cv 6 2 1 f_X6_isValue 0 0 2 12 5) rfl).trans (q_cv rfl rfl rfl (vr (ob fun _ => ob fun r1 => cT rfl (q_r1 (ob fun v2 => ob fun y3 => (sm_h hF (f := i_z (fun x => x = 0) 17 8) rfl).trans (q_z (vi (ic ((sm_h hF (f := i_th 1 2 12) rfl).trans (q_th rfl (rfl))) ((sm_h hF (f := i_il 2 9) rfl).trans (q_il rfl ((sm_h hF (f := i_z (fun x => x < 0) 17 12) rfl).trans (q_z (vi (ic ((sm_h hF (f := i_th 1 2 12) rfl).trans (q_th rfl (rfl))) ((sm_h hF (f := i_il 2 13) rfl).trans (q_il rfl ((sm_h hF (f := i_c (.int (1)) 14) rfl).trans (q_c ((sm_h hF (f := i_zz (fun x z => x ≤ z) 27 17) rfl).trans (q_zz (vi (vi (ic ((sm_h hF (f := i_al 0 28) rfl).trans (q_al rfl ((sm_h hF (f := i_gf 6 2 31) rfl).trans (q_gf (vr (ob fun f4 => ob fun w5 => (sm_h hF (f := i_il 1 32) rfl).trans (q_il rfl ((sm_h hF (f := i_aa 3 33) rfl).trans (q_aa (vi (ob fun a6 => ob fun f7 => ic (rfl) ((sm_h hF (f := i_il 2 34) rfl).trans (q_il rfl ((sm_h hF (f := i_cv 2 2 3 f_X2_side 0 0 2 12 37) rfl).trans (q_cv rfl rfl rfl (ob fun a8 => ob fun _ => ob fun r9 => cT rfl (q_r3 (ob fun v10 => ob fun _ => (sm_h hF (f := i_as 3 38) rfl).trans (q_as (fun x_ => [(0, .ref x0), (1, .int x1), (2, .int x2), (3, .ref x_)]) (fun _ => rfl) (ob fun a12 => (sm_h hF (f := i_il 2 39) rfl).trans (q_il rfl ((sm_h hF (f := i_w [(58, [3])] (i_z (fun x => x = 0) 42 58)) rfl).trans (q_w (q_z (vi (ic ((sm_h hF (f := i_al 0 43) rfl).trans (q_al rfl ((sm_h hF (f := i_gf 6 2 46) rfl).trans (q_gf (vr (ob fun f13 => ob fun w14 => (sm_h hF (f := i_il 1 47) rfl).trans (q_il rfl ((sm_h hF (f := i_aa 3 48) rfl).trans (q_aa (vi (ob fun a15 => ob fun f16 => ic (rfl) ((sm_h hF (f := i_gf 2 0 51) rfl).trans (q_gf (ob fun a17 => ob fun f18 => ob fun w19 => (sm_h hF (f := i_w [(58, [3])] (i_z (fun x => 0 ≤ x) 58 54)) rfl).trans (q_w (q_z (ob fun y20 => ic (rfl) ((sm_h hF (f := i_c (.int (1)) 55) rfl).trans (q_c ((sm_h hF (f := i_w [(59, [3])] (i_g 59)) rfl).trans (q_w (q_g (rfl))))))))))))))))))))))) (rfl))))))))))))))))))))))))))) ((sm_h hF (f := i_th 1 2 12) rfl).trans (q_th rfl (rfl)))))))))))))))))))))))))))))))
set_option maxRecDepth 20000 in
theorem e_X6_part_58 (x3 : Nat) (M : me_M) (c n : Nat) : sm T_X6_part (58, [(3, .ref x3)], [], M, c, n) = sm T_X6_part (59, [(3, .ref x3)], [.int (0 : Int32)], M, c, n) := (by have hF := xm_fx A_X6_part; generalize sm T_X6_part = F_ at hF ⊢; exact (sm_h hF (f := i_w [(59, [3])] (i_c (.int (0)) 59)) rfl).trans (q_w (q_c (rfl))))
set_option maxRecDepth 20000 in
theorem e_X6_part_59 (x3 : Nat) (s0 : Int32) (M : me_M) (c n : Nat) : sm T_X6_part (59, [(3, .ref x3)], [.int s0], M, c, n) = (me_obj M 5 x3).bind fun _ => (f_X5_fitsLong [.ref x3, .int s0] M).bind fun r1 => cond (Nat.ble (c + 0) 2 && Nat.ble (n + 0) 12) (r1.1.bind fun v2 => (v_int v2).bind fun y3 => if y3 = 0 then (cond (Nat.ble ((c + 0) + 1) 2 && Nat.ble ((n + 0) + 6) 12) (some (some (.float 0), r1.2)) none) else if s0 = 0 then ((me_obj r1.2 5 x3).bind fun _ => (f_X5_lowLong [.ref x3] r1.2).bind fun r4 => cond (Nat.ble ((c + 0) + 0) 2 && Nat.ble ((n + 0) + 0) 12) (r4.1.bind fun v5 => (v_long v5).bind fun y6 => if ((c + 0) + 0) ≤ 2 ∧ ((n + 0) + 0) ≤ 12 then some (some (.long y6), r4.2) else none) none) else (me_obj r1.2 5 x3).bind fun _ => (f_X5_lowLong [.ref x3] r1.2).bind fun r7 => cond (Nat.ble ((c + 0) + 0) 2 && Nat.ble ((n + 0) + 0) 12) (r7.1.bind fun v8 => (v_long v8).bind fun y9 => if ((c + 0) + 0) ≤ 2 ∧ ((n + 0) + 0) ≤ 12 then some (some (.long (-y9)), r7.2) else none) none) none := (by have hF := xm_fx A_X6_part; generalize sm T_X6_part = F_ at hF ⊢; exact (sm_h hF (f := i_is 4 61) rfl).trans (q_is (fun x_ => [(3, .ref x3), (4, .int x_)]) (fun _ => rfl) (vi ((sm_h hF (f := i_al 3 62) rfl).trans (q_al rfl ((sm_h hF (f := i_il 4 64) rfl).trans (q_il rfl ((sm_h hF (f := i_cv 5 2 1 f_X5_fitsLong 0 0 2 12 67) rfl).trans (q_cv rfl rfl rfl (vr (ob fun _ => ob fun r1 => cg (q_r1 (ob fun v2 => ob fun y3 => (sm_h hF (f := i_z (fun x => x = 0) 70 80) rfl).trans (q_z (vi (ic ((sm_h hF (f := i_th 0 2 12) rfl).trans (q_th rfl (rfl))) ((sm_h hF (f := i_il 4 82) rfl).trans (q_il rfl ((sm_h hF (f := i_z (fun x => x = 0) 93 85) rfl).trans (q_z (vi (ic ((sm_h hF (f := i_al 3 94) rfl).trans (q_al rfl ((sm_h hF (f := i_cv 5 1 2 f_X5_lowLong 0 0 2 12 97) rfl).trans (q_cv rfl rfl rfl (vr (ob fun _ => ob fun r4 => cg (q_r2 (ob fun v5 => ob fun y6 => (sm_h hF (f := i_rl 2 12) rfl).trans (q_rl (vl (rfl))))) rfl)))))) ((sm_h hF (f := i_al 3 86) rfl).trans (q_al rfl ((sm_h hF (f := i_cv 5 1 2 f_X5_lowLong 0 0 2 12 89) rfl).trans (q_cv rfl rfl rfl (vr (ob fun _ => ob fun r7 => cg (q_r2 (ob fun v8 => ob fun y9 => (sm_h hF (f := i_u22 (fun x => -x) 90) rfl).trans (q_u22 (vl ((sm_h hF (f := i_g 97) rfl).trans (q_g ((sm_h hF (f := i_rl 2 12) rfl).trans (q_rl (vl (rfl)))))))))) rfl))))))))))))))))) rfl)))))))))))
/-! X6_limb -/
abbrev rm_X6_limb : Room := { frames := 7, cells := 2, slots := 12, locals := 103 }
noncomputable def T_X6_limb : sm_T := [(0, i_al 0 1), (1, i_il 1 2), (2, i_cv 6 2 1 f_X6_isValue 0 0 2 12 5), (5, i_z (fun x => x = 0) 17 8), (8, i_il 2 9), (9, i_z (fun x => x < 0) 17 12), (12, i_il 2 13), (13, i_c (.int (1)) 14), (14, i_zz (fun x z => x ≤ z) 27 17), (17, i_th 1 2 12), (27, i_al 0 28), (28, i_gf 6 2 31), (31, i_il 1 32), (32, i_aa 3 33), (33, i_il 2 34), (34, i_cv 2 2 3 f_X2_side 0 0 2 12 37), (37, i_as 4 39), (39, i_il 3 40), (40, i_z (fun x => x < 0) 58 43), (43, i_il 3 44), (44, i_al 4 46), (46, i_cv 5 1 1 f_X5_length 0 0 2 12 49), (49, i_c (.int (31)) 51), (51, i_bi (fun x z => x + z) 52), (52, i_c (.int (32)) 54), (54, i_qi (fun x z => x / z) 55), (55, i_zz (fun x z => x < z) 68 58), (58, i_th 2 2 12), (68, i_al 4 70), (70, i_il 3 71), (71, i_w [(74, [])] (i_cv 5 2 1 f_X5_word 0 0 2 12 74)), (74, i_ri 2 12)]
set_option maxRecDepth 20000 in
theorem A_X6_limb : xd_A yX6_limb cX6_limb 5 (some .int) rm_X6_limb T_X6_limb := by
  refine xd_c (pc := 0) (f := i_al 0 1) (y_of (x_aln (i := 0) dX6_limb_0)) ?_
  refine xd_c (pc := 1) (f := i_il 1 2) (y_of (x_iln (i := 1) dX6_limb_1)) ?_
  refine xd_c (pc := 2) (f := i_cv 6 2 1 f_X6_isValue 0 0 2 12 5) (y_of (x_cv (np := 1) (rk := 1) (ci := 6) (rmz := rm_X6_isValue) dX6_limb_2 V_X6_isValue w213 w215 wS_PlanFractions_isValue__I_Z rfl (by decide))) ?_
  refine xd_c (pc := 5) (f := i_z (fun x => x = 0) 17 8) (y_of (x_if_eq (tgt := 17) dX6_limb_5 (by decide))) ?_
  refine xd_c (pc := 8) (f := i_il 2 9) (y_of (x_iln (i := 2) dX6_limb_8)) ?_
  refine xd_c (pc := 9) (f := i_z (fun x => x < 0) 17 12) (y_of (x_if_lt (tgt := 17) dX6_limb_9 (by decide))) ?_
  refine xd_c (pc := 12) (f := i_il 2 13) (y_of (x_iln (i := 2) dX6_limb_12)) ?_
  refine xd_c (pc := 13) (f := i_c (.int (1)) 14) (y_of (x_iconst dX6_limb_13 (by decide))) ?_
  refine xd_c (pc := 14) (f := i_zz (fun x z => x ≤ z) 27 17) (y_of (x_ic_le (tgt := 27) dX6_limb_14 (by decide))) ?_
  refine xd_c (pc := 17) (f := i_th 1 2 12) (y_th (kx := 1) (cls := xe_C1) (names := xe_A) (by decide +kernel) (by decide +kernel) (by decide +kernel) (by decide +kernel) xw_k1 xw_i1 (text := "no such VALUE or part") (by decide +kernel) xe_g1 xe_n1 xe_o1 dX6_limb_17 dX6_limb_20 (Or.inl ⟨dX6_limb_21, dX6_limb_23, dX6_limb_26⟩) (by decide)) ?_
  refine xd_c (pc := 27) (f := i_al 0 28) (y_of (x_aln (i := 0) dX6_limb_27)) ?_
  refine xd_c (pc := 28) (f := i_gf 6 2 31) (y_of (x_gf (ci := 6) (k := 2) dX6_limb_28 rfl in_X6 (by decide) w180)) ?_
  refine xd_c (pc := 31) (f := i_il 1 32) (y_of (x_iln (i := 1) dX6_limb_31)) ?_
  refine xd_c (pc := 32) (f := i_aa 3 33) (y_of (x_aald (kd := 3) dX6_limb_32 (Or.inl rfl))) ?_
  refine xd_c (pc := 33) (f := i_il 2 34) (y_of (x_iln (i := 2) dX6_limb_33)) ?_
  refine xd_c (pc := 34) (f := i_cv 2 2 3 f_X2_side 0 0 2 12 37) (y_of (x_cv (np := 1) (rk := 3) (ci := 2) (rmz := rm_X2_side) dX6_limb_34 V_X2_side w691 w692 w693 rfl (by decide))) ?_
  refine xd_c (pc := 37) (f := i_as 4 39) (y_of (x_as (i := 4) dX6_limb_37 (by decide))) ?_
  refine xd_c (pc := 39) (f := i_il 3 40) (y_of (x_iln (i := 3) dX6_limb_39)) ?_
  refine xd_c (pc := 40) (f := i_z (fun x => x < 0) 58 43) (y_of (x_if_lt (tgt := 58) dX6_limb_40 (by decide))) ?_
  refine xd_c (pc := 43) (f := i_il 3 44) (y_of (x_iln (i := 3) dX6_limb_43)) ?_
  refine xd_c (pc := 44) (f := i_al 4 46) (y_of (x_al dX6_limb_44)) ?_
  refine xd_c (pc := 46) (f := i_cv 5 1 1 f_X5_length 0 0 2 12 49) (y_of (x_cv (np := 0) (rk := 1) (ci := 5) (rmz := rm_X5_length) dX6_limb_46 V_X5_length w431 w340 w341 rfl (by decide))) ?_
  refine xd_c (pc := 49) (f := i_c (.int (31)) 51) (y_of (x_bipush dX6_limb_49 (by decide))) ?_
  refine xd_c (pc := 51) (f := i_bi (fun x z => x + z) 52) (y_of (x_iadd dX6_limb_51)) ?_
  refine xd_c (pc := 52) (f := i_c (.int (32)) 54) (y_of (x_bipush dX6_limb_52 (by decide))) ?_
  refine xd_c (pc := 54) (f := i_qi (fun x z => x / z) 55) (y_of (x_idiv dX6_limb_54)) ?_
  refine xd_c (pc := 55) (f := i_zz (fun x z => x < z) 68 58) (y_of (x_ic_lt (tgt := 68) dX6_limb_55 (by decide))) ?_
  refine xd_c (pc := 58) (f := i_th 2 2 12) (y_th (kx := 2) (cls := xe_C2) (names := xe_I) (by decide +kernel) (by decide +kernel) (by decide +kernel) (by decide +kernel) xw_k2 xw_i2 (text := "no such k") (by decide +kernel) xe_g2 xe_n2 xe_o2 dX6_limb_58 dX6_limb_61 (Or.inl ⟨dX6_limb_62, dX6_limb_64, dX6_limb_67⟩) (by decide)) ?_
  refine xd_c (pc := 68) (f := i_al 4 70) (y_of (x_al dX6_limb_68)) ?_
  refine xd_c (pc := 70) (f := i_il 3 71) (y_of (x_iln (i := 3) dX6_limb_70)) ?_
  refine xd_c (pc := 71) (f := i_w [(74, [])] (i_cv 5 2 1 f_X5_word 0 0 2 12 74)) (y_of (x_w (x_cv (np := 1) (rk := 1) (ci := 5) (rmz := rm_X5_word) dX6_limb_71 V_X5_word w727 w728 w729 rfl (by decide)))) ?_
  refine xd_c (pc := 74) (f := i_ri 2 12) (y_ri (s_ri dX6_limb_74 rfl)) ?_
  exact xd_n
noncomputable def f_X6_limb : List Value → me_M → Option sm_R := sd_f 5 T_X6_limb
theorem V_X6_limb : xd_V yX6_limb cX6_limb 5 (some .int) rm_X6_limb 3 f_X6_limb := ⟨xd_met A_X6_limb (by decide +kernel), w723, w1, by decide +kernel⟩
set_option maxRecDepth 20000 in
theorem e_X6_limb (x0 : Nat) (x1 : Int32) (x2 : Int32) (x3 : Int32) (M : me_M) : f_X6_limb [.ref x0, .int x1, .int x2, .int x3] M = (me_obj M 6 x0).bind fun _ => (f_X6_isValue [.ref x0, .int x1] M).bind fun r1 => r1.1.bind fun v2 => (v_int v2).bind fun y3 => if y3 = 0 then (some (some (.float 1), r1.2)) else if x2 < 0 then (some (some (.float 1), r1.2)) else if x2 ≤ (1 : Int32) then ((me_obj r1.2 6 x0).bind fun f4 => (f4[2]?).bind fun w5 => (v_ref w5).bind fun a6 => (me_ref r1.2 3 a6).bind fun f7 => if x1 < 0 ∨ f7.1 ≤ x1.toNatClampNeg then (none) else (v_ref (va_rf (f7.2 x1.toNatClampNeg))).bind fun a8 => (me_obj r1.2 2 a8).bind fun _ => (f_X2_side [.ref a8, .int x2] r1.2).bind fun r9 => r9.1.bind fun v10 => (v_rn v10).bind fun _ => (v_ref v10).bind fun a12 => if x3 < 0 then (some (some (.float 2), r9.2)) else (me_obj r9.2 5 a12).bind fun _ => (f_X5_length [.ref a12] r9.2).bind fun r13 => r13.1.bind fun v14 => (v_int v14).bind fun y15 => if (32 : Int32) = 0 then (none) else if x3 < ((y15 + (31 : Int32)) / (32 : Int32)) then ((me_obj r13.2 5 a12).bind fun _ => (f_X5_word [.ref a12, .int x3] r13.2).bind fun r16 => r16.1.bind fun v17 => (v_int v17).bind fun y18 => sm T_X6_limb (74, [], [.int y18], r16.2, 0, 0)) else some (some (.float 2), r13.2)) else some (some (.float 1), r1.2) := (show f_X6_limb [.ref x0, .int x1, .int x2, .int x3] M = sm T_X6_limb (0, [(0, .ref x0), (1, .int x1), (2, .int x2), (3, .int x3)], [], M, 0, 0) from rfl).trans (by have hF := xm_fx A_X6_limb; generalize sm T_X6_limb = F_ at hF ⊢; exact (sm_h hF (f := i_al 0 1) rfl).trans (q_al rfl ((sm_h hF (f := i_il 1 2) rfl).trans (q_il rfl ((sm_h hF (f := i_cv 6 2 1 f_X6_isValue 0 0 2 12 5) rfl).trans (q_cv rfl rfl rfl (vr (ob fun _ => ob fun r1 => cT rfl (q_r1 (ob fun v2 => ob fun y3 => (sm_h hF (f := i_z (fun x => x = 0) 17 8) rfl).trans (q_z (vi (ic ((sm_h hF (f := i_th 1 2 12) rfl).trans (q_th rfl (rfl))) ((sm_h hF (f := i_il 2 9) rfl).trans (q_il rfl ((sm_h hF (f := i_z (fun x => x < 0) 17 12) rfl).trans (q_z (vi (ic ((sm_h hF (f := i_th 1 2 12) rfl).trans (q_th rfl (rfl))) ((sm_h hF (f := i_il 2 13) rfl).trans (q_il rfl ((sm_h hF (f := i_c (.int (1)) 14) rfl).trans (q_c ((sm_h hF (f := i_zz (fun x z => x ≤ z) 27 17) rfl).trans (q_zz (vi (vi (ic ((sm_h hF (f := i_al 0 28) rfl).trans (q_al rfl ((sm_h hF (f := i_gf 6 2 31) rfl).trans (q_gf (vr (ob fun f4 => ob fun w5 => (sm_h hF (f := i_il 1 32) rfl).trans (q_il rfl ((sm_h hF (f := i_aa 3 33) rfl).trans (q_aa (vi (ob fun a6 => ob fun f7 => ic (rfl) ((sm_h hF (f := i_il 2 34) rfl).trans (q_il rfl ((sm_h hF (f := i_cv 2 2 3 f_X2_side 0 0 2 12 37) rfl).trans (q_cv rfl rfl rfl (ob fun a8 => ob fun _ => ob fun r9 => cT rfl (q_r3 (ob fun v10 => ob fun _ => (sm_h hF (f := i_as 4 39) rfl).trans (q_as (fun x_ => [(0, .ref x0), (1, .int x1), (2, .int x2), (3, .int x3), (4, .ref x_)]) (fun _ => rfl) (ob fun a12 => (sm_h hF (f := i_il 3 40) rfl).trans (q_il rfl ((sm_h hF (f := i_z (fun x => x < 0) 58 43) rfl).trans (q_z (vi (ic ((sm_h hF (f := i_th 2 2 12) rfl).trans (q_th rfl (rfl))) ((sm_h hF (f := i_il 3 44) rfl).trans (q_il rfl ((sm_h hF (f := i_al 4 46) rfl).trans (q_al rfl ((sm_h hF (f := i_cv 5 1 1 f_X5_length 0 0 2 12 49) rfl).trans (q_cv rfl rfl rfl (vr (ob fun _ => ob fun r13 => cT rfl (q_r1 (ob fun v14 => ob fun y15 => (sm_h hF (f := i_c (.int (31)) 51) rfl).trans (q_c ((sm_h hF (f := i_bi (fun x z => x + z) 52) rfl).trans (q_bi (vi (vi ((sm_h hF (f := i_c (.int (32)) 54) rfl).trans (q_c ((sm_h hF (f := i_qi (fun x z => x / z) 55) rfl).trans (q_qi (vi (vi (ic (rfl) ((sm_h hF (f := i_zz (fun x z => x < z) 68 58) rfl).trans (q_zz (vi (vi (ic ((sm_h hF (f := i_al 4 70) rfl).trans (q_al rfl ((sm_h hF (f := i_il 3 71) rfl).trans (q_il rfl ((sm_h hF (f := i_w [(74, [])] (i_cv 5 2 1 f_X5_word 0 0 2 12 74)) rfl).trans (q_w (q_cv rfl rfl rfl (vr (ob fun _ => ob fun r16 => cT rfl (q_r1 (ob fun v17 => ob fun y18 => rfl))))))))))) ((sm_h hF (f := i_th 2 2 12) rfl).trans (q_th rfl (rfl))))))))))))))))))))))))))))))))))))))))))))))))))))))) ((sm_h hF (f := i_th 1 2 12) rfl).trans (q_th rfl (rfl)))))))))))))))))))))))))))))))
set_option maxRecDepth 20000 in
theorem e_X6_limb_74 (s0 : Int32) (M : me_M) (c n : Nat) : sm T_X6_limb (74, [], [.int s0], M, c, n) = if c ≤ 2 ∧ n ≤ 12 then some (some (.int s0), M) else none := (by have hF := xm_fx A_X6_limb; generalize sm T_X6_limb = F_ at hF ⊢; exact (sm_h hF (f := i_ri 2 12) rfl).trans (q_ri (vi (rfl))))
