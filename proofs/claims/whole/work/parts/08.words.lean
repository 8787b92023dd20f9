set_option maxRecDepth 4000
theorem me_in1 {w : Cond} (i : Nat) (h : tables_1_1[i]? = some w) (hg : goodWord w = true) : w ∈ me_w := List.mem_filter.mpr ⟨List.mem_append_right _ (List.mem_append_left _ (List.mem_of_getElem? h)), hg⟩
theorem me_in2 {w : Cond} (i : Nat) (h : tables_1_2[i]? = some w) (hg : goodWord w = true) : w ∈ me_w := List.mem_filter.mpr ⟨List.mem_append_right _ (List.mem_append_right _ (List.mem_append_left _ (List.mem_of_getElem? h))), hg⟩
theorem me_in3 {w : Cond} (i : Nat) (h : tables_1_3[i]? = some w) (hg : goodWord w = true) : w ∈ me_w := List.mem_filter.mpr ⟨List.mem_append_right _ (List.mem_append_right _ (List.mem_append_right _ (List.mem_append_left _ (List.mem_of_getElem? h)))), hg⟩
theorem me_in4 {w : Cond} (i : Nat) (h : tables_1_4[i]? = some w) (hg : goodWord w = true) : w ∈ me_w := List.mem_filter.mpr ⟨List.mem_append_right _ (List.mem_append_right _ (List.mem_append_right _ (List.mem_append_right _ (List.mem_append_left _ (List.mem_of_getElem? h))))), hg⟩
theorem me_in5 {w : Cond} (i : Nat) (h : tables_1_5[i]? = some w) (hg : goodWord w = true) : w ∈ me_w := List.mem_filter.mpr ⟨List.mem_append_right _ (List.mem_append_right _ (List.mem_append_right _ (List.mem_append_right _ (List.mem_append_right _ (List.mem_of_getElem? h))))), hg⟩
theorem in_X0 : ∀ w ∈ u_ws RX0 TX0 3, w ∈ me_w := fun w h => List.mem_filter.mpr ⟨(show ∀ w ∈ u_ws RX0 TX0 3, w ∈ lw_tbl by decide +kernel) w h, (show ∀ w ∈ u_ws RX0 TX0 3, goodWord w = true by decide +kernel) w h⟩
theorem dfX0 : ∀ j, j < 3 → defaultValue (tyX0 j) = vp_V [.null, .int 0, .null] j := by decide +kernel
theorem in_X1 : ∀ w ∈ u_ws RX1 TX1 7, w ∈ me_w := fun w h => List.mem_filter.mpr ⟨(show ∀ w ∈ u_ws RX1 TX1 7, w ∈ lw_tbl by decide +kernel) w h, (show ∀ w ∈ u_ws RX1 TX1 7, goodWord w = true by decide +kernel) w h⟩
theorem dfX1 : ∀ j, j < 7 → defaultValue (tyX1 j) = vp_V [.null, .null, .null, .long 0, .long 0, .long 0, .long 0] j := by decide +kernel
theorem in_X2 : ∀ w ∈ u_ws RX2 TX2 3, w ∈ me_w := fun w h => List.mem_filter.mpr ⟨(show ∀ w ∈ u_ws RX2 TX2 3, w ∈ lw_tbl by decide +kernel) w h, (show ∀ w ∈ u_ws RX2 TX2 3, goodWord w = true by decide +kernel) w h⟩
theorem dfX2 : ∀ j, j < 3 → defaultValue (tyX2 j) = vp_V [.int 0, .null, .null] j := by decide +kernel
theorem in_X3 : ∀ w ∈ u_ws RX3 TX3 12, w ∈ me_w := fun w h => List.mem_filter.mpr ⟨(show ∀ w ∈ u_ws RX3 TX3 12, w ∈ lw_tbl by decide +kernel) w h, (show ∀ w ∈ u_ws RX3 TX3 12, goodWord w = true by decide +kernel) w h⟩
theorem dfX3 : ∀ j, j < 12 → defaultValue (tyX3 j) = vp_V [.null, .null, .null, .null, .null, .null, .null, .null, .null, .null, .null, .null] j := by decide +kernel
theorem in_X4 : ∀ w ∈ u_ws RX4 TX4 1, w ∈ me_w := fun w h => List.mem_filter.mpr ⟨(show ∀ w ∈ u_ws RX4 TX4 1, w ∈ lw_tbl by decide +kernel) w h, (show ∀ w ∈ u_ws RX4 TX4 1, goodWord w = true by decide +kernel) w h⟩
theorem dfX4 : ∀ j, j < 1 → defaultValue (tyX4 j) = vp_V [.null] j := by decide +kernel
theorem in_X5 : ∀ w ∈ u_ws RX5 TX5 2, w ∈ me_w := fun w h => List.mem_filter.mpr ⟨(show ∀ w ∈ u_ws RX5 TX5 2, w ∈ lw_tbl by decide +kernel) w h, (show ∀ w ∈ u_ws RX5 TX5 2, goodWord w = true by decide +kernel) w h⟩
theorem dfX5 : ∀ j, j < 2 → defaultValue (tyX5 j) = vp_V [.null, .int 0] j := by decide +kernel
theorem in_X6 : ∀ w ∈ u_ws RX6 TX6 10, w ∈ me_w := fun w h => List.mem_filter.mpr ⟨(show ∀ w ∈ u_ws RX6 TX6 10, w ∈ lw_tbl by decide +kernel) w h, (show ∀ w ∈ u_ws RX6 TX6 10, goodWord w = true by decide +kernel) w h⟩
theorem dfX6 : ∀ j, j < 10 → defaultValue (tyX6 j) = vp_V [.null, .null, .null, .null, .null, .int 0, .int 0, .int 0, .int 0, .int 0] j := by decide +kernel
theorem in_X7 : ∀ w ∈ u_ws RX7 TX7 16, w ∈ me_w := fun w h => List.mem_filter.mpr ⟨(show ∀ w ∈ u_ws RX7 TX7 16, w ∈ lw_tbl by decide +kernel) w h, (show ∀ w ∈ u_ws RX7 TX7 16, goodWord w = true by decide +kernel) w h⟩
theorem dfX7 : ∀ j, j < 16 → defaultValue (tyX7 j) = vp_V [.int 0, .null, .null, .null, .null, .null, .null, .null, .null, .int 0, .int 0, .null, .int 0, .null, .int 0, .null] j := by decide +kernel
theorem w160 : Cond.methodLink RX0 3 Lib.objectInit ∈ me_w := me_in1 160 rfl rfl
theorem w26 : Cond.instanceMethod Lib.objectInit ∈ me_w := me_in1 26 rfl rfl
theorem w27 : Cond.code Lib.objectInit ⟨#[0xb1]⟩ 1 none ∈ me_w := me_in1 27 rfl rfl
theorem w173 : Cond.arrayClass .byte ∈ me_w := me_in1 173 rfl rfl
theorem w161 : Cond.fieldLink RX0 9 (TX0 0).1 (TX0 0).2.1 (TX0 0).2.2.1 ∈ me_w := me_in1 161 rfl rfl
theorem w165 : Cond.fieldLink RX0 15 (TX0 2).1 (TX0 2).2.1 (TX0 2).2.2.1 ∈ me_w := me_in1 165 rfl rfl
theorem w159 : Cond.code yX0_init cX0_init 1 none ∈ me_w := me_in1 159 rfl rfl
theorem w7 : Cond.initialized RX0 ∈ me_w := me_in1 7 rfl rfl
theorem w163 : Cond.fieldLink RX0 18 (TX0 1).1 (TX0 1).2.1 (TX0 1).2.2.1 ∈ me_w := me_in1 163 rfl rfl
theorem w545 : Cond.code yX0_append cX0_append 2 none ∈ me_w := me_in3 65 rfl rfl
theorem w52 : Cond.fieldLink RX5 22 (TX5 1).1 (TX5 1).2.1 (TX5 1).2.2.1 ∈ me_w := me_in1 52 rfl rfl
theorem w49 : Cond.fieldLink RX5 15 (TX5 0).1 (TX5 0).2.1 (TX5 0).2.2.1 ∈ me_w := me_in1 49 rfl rfl
theorem w93 : Cond.code yX5_trim cX5_trim 1 none ∈ me_w := me_in1 93 rfl rfl
theorem w4 : Cond.initialized RX5 ∈ me_w := me_in1 4 rfl rfl
theorem w90 : Cond.methodLink RX5 26 yX5_trim ∈ me_w := me_in1 90 rfl rfl
theorem w91 : Cond.instanceMethod yX5_trim ∈ me_w := me_in1 91 rfl rfl
theorem w92 : Cond.selects RX5 yX5_trim yX5_trim ∈ me_w := me_in1 92 rfl rfl
theorem w286 : Cond.code yX5_shrink cX5_shrink 5 (some .int) ∈ me_w := me_in2 46 rfl rfl
theorem w51 : Cond.fieldLink RX0 22 (TX5 1).1 (TX5 1).2.1 (TX5 1).2.2.1 ∈ me_w := me_in1 51 rfl rfl
theorem w550 : Cond.constant RX0 33 (1000000000) ∈ me_w := me_in3 70 rfl rfl
theorem w551 : Cond.methodLink RX0 34 yX5_shrink ∈ me_w := me_in3 71 rfl rfl
theorem w284 : Cond.instanceMethod yX5_shrink ∈ me_w := me_in2 44 rfl rfl
theorem w285 : Cond.selects RX5 yX5_shrink yX5_shrink ∈ me_w := me_in2 45 rfl rfl
theorem w549 : Cond.code yX0_splitDigits cX0_splitDigits 6 (some .int) ∈ me_w := me_in3 69 rfl rfl
theorem w542 : Cond.methodLink RX0 25 yX0_append ∈ me_w := me_in3 62 rfl rfl
theorem w544 : Cond.instanceMethod yX0_append ∈ me_w := me_in3 64 rfl rfl
theorem wS_PlanFractions_Decimal_append__I_V : Cond.selects RX0 yX0_append yX0_append ∈ me_w := me_inS (q := (yX0_append, 3)) 21 rfl rfl
theorem w546 : Cond.methodLink RX0 29 yX0_splitDigits ∈ me_w := me_in3 66 rfl rfl
theorem w548 : Cond.instanceMethod yX0_splitDigits ∈ me_w := me_in3 68 rfl rfl
theorem wS_PlanFractions_Decimal_splitDigits__LPlanFractions_Whole_I_I : Cond.selects RX0 yX0_splitDigits yX0_splitDigits ∈ me_w := me_inS (q := (yX0_splitDigits, 3)) 22 rfl rfl
theorem w541 : Cond.code yX0_write cX0_write 6 none ∈ me_w := me_in3 61 rfl rfl
theorem w45 : Cond.methodLink RX5 3 Lib.objectInit ∈ me_w := me_in1 45 rfl rfl
theorem w46 : Cond.methodLink RX5 9 Lib.Math.max.name ∈ me_w := me_in1 46 rfl rfl
theorem w47 : Cond.static Lib.Math.max.name ∈ me_w := me_in1 47 rfl rfl
theorem w5 : Cond.initialized "java/lang/Math" ∈ me_w := me_in1 5 rfl rfl
theorem w48 : Cond.code Lib.Math.max.name Lib.Math.max.code 2 (some .int) ∈ me_w := me_in1 48 rfl rfl
theorem w60 : Cond.arrayClass .int ∈ me_w := me_in1 60 rfl rfl
theorem w44 : Cond.code yX5_init cX5_init 2 none ∈ me_w := me_in1 44 rfl rfl
theorem w39 : Cond.methodLink RX1 3 Lib.objectInit ∈ me_w := me_in1 39 rfl rfl
theorem w40 : Cond.classLink RX1 9 RX5 ∈ me_w := me_in1 40 rfl rfl
theorem w41 : Cond.instantiable RX5 2 ∈ me_w := me_in1 41 rfl rfl
theorem w42 : Cond.methodLink RX1 11 yX5_init ∈ me_w := me_in1 42 rfl rfl
theorem w43 : Cond.instanceMethod yX5_init ∈ me_w := me_in1 43 rfl rfl
theorem w61 : Cond.fieldLink RX1 14 (TX1 0).1 (TX1 0).2.1 (TX1 0).2.2.1 ∈ me_w := me_in1 61 rfl rfl
theorem w62 : Cond.fieldLink RX1 20 (TX1 1).1 (TX1 1).2.1 (TX1 1).2.2.1 ∈ me_w := me_in1 62 rfl rfl
theorem w63 : Cond.fieldLink RX1 23 (TX1 2).1 (TX1 2).2.1 (TX1 2).2.2.1 ∈ me_w := me_in1 63 rfl rfl
theorem w38 : Cond.code yX1_init cX1_init 1 none ∈ me_w := me_in1 38 rfl rfl
theorem w3 : Cond.initialized RX1 ∈ me_w := me_in1 3 rfl rfl
theorem w236 : Cond.code yX5_isOne cX5_isOne 1 (some .boolean) ∈ me_w := me_in1 236 rfl rfl
theorem w89 : Cond.constant RX5 21 (2147483647) ∈ me_w := me_in1 89 rfl rfl
theorem w88 : Cond.code yX5_setLong cX5_setLong 3 none ∈ me_w := me_in1 88 rfl rfl
theorem w241 : Cond.code yX5_compareWith cX5_compareWith 3 (some .int) ∈ me_w := me_in2 1 rfl rfl
theorem w246 : Cond.methodLink RX5 29 arraycopyName ∈ me_w := me_in2 6 rfl rfl
theorem w248 : Cond.native arraycopyName ∈ me_w := me_in2 8 rfl rfl
theorem w247 : Cond.static arraycopyName ∈ me_w := me_in2 7 rfl rfl
theorem w14 : Cond.initialized "java/lang/System" ∈ me_w := me_in1 14 rfl rfl
theorem w245 : Cond.code yX5_copy cX5_copy 2 none ∈ me_w := me_in2 5 rfl rfl
theorem w260 : Cond.constant RJ6 264 (65536) ∈ me_w := me_in2 20 rfl rfl
theorem w259 : Cond.code yJ6_numberOfLeadingZeros_0f7a4 cJ6_numberOfLeadingZeros_0f7a4 2 (some .int) ∈ me_w := me_in2 19 rfl rfl
theorem w15 : Cond.initialized RJ6 ∈ me_w := me_in1 15 rfl rfl
theorem w257 : Cond.methodLink RX5 46 yJ6_numberOfLeadingZeros_0f7a4 ∈ me_w := me_in2 17 rfl rfl
theorem w258 : Cond.static yJ6_numberOfLeadingZeros_0f7a4 ∈ me_w := me_in2 18 rfl rfl
theorem w256 : Cond.code yX5_freeBits cX5_freeBits 1 (some .int) ∈ me_w := me_in2 16 rfl rfl
theorem w268 : Cond.code yX5_limbOrZero cX5_limbOrZero 2 (some .long) ∈ me_w := me_in2 28 rfl rfl
theorem w265 : Cond.methodLink RX5 42 yX5_limbOrZero ∈ me_w := me_in2 25 rfl rfl
theorem w266 : Cond.instanceMethod yX5_limbOrZero ∈ me_w := me_in2 26 rfl rfl
theorem w267 : Cond.selects RX5 yX5_limbOrZero yX5_limbOrZero ∈ me_w := me_in2 27 rfl rfl
theorem w269 : Cond.constantLong RX5 84 (4611686018427387903) ∈ me_w := me_in2 29 rfl rfl
theorem w264 : Cond.code yX5_twoLimbs cX5_twoLimbs 3 (some .long) ∈ me_w := me_in2 24 rfl rfl
theorem w253 : Cond.methodLink RX1 64 yX5_freeBits ∈ me_w := me_in2 13 rfl rfl
theorem w254 : Cond.instanceMethod yX5_freeBits ∈ me_w := me_in2 14 rfl rfl
theorem w255 : Cond.selects RX5 yX5_freeBits yX5_freeBits ∈ me_w := me_in2 15 rfl rfl
theorem w53 : Cond.fieldLink RX1 42 (TX5 1).1 (TX5 1).2.1 (TX5 1).2.2.1 ∈ me_w := me_in1 53 rfl rfl
theorem w261 : Cond.methodLink RX1 68 yX5_twoLimbs ∈ me_w := me_in2 21 rfl rfl
theorem w262 : Cond.instanceMethod yX5_twoLimbs ∈ me_w := me_in2 22 rfl rfl
theorem w263 : Cond.selects RX5 yX5_twoLimbs yX5_twoLimbs ∈ me_w := me_in2 23 rfl rfl
theorem w270 : Cond.constantLong RX1 72 (-1) ∈ me_w := me_in2 30 rfl rfl
theorem w64 : Cond.fieldLink RX1 74 (TX1 3).1 (TX1 3).2.1 (TX1 3).2.2.1 ∈ me_w := me_in1 64 rfl rfl
theorem w65 : Cond.fieldLink RX1 78 (TX1 4).1 (TX1 4).2.1 (TX1 4).2.2.1 ∈ me_w := me_in1 65 rfl rfl
theorem w66 : Cond.fieldLink RX1 81 (TX1 5).1 (TX1 5).2.1 (TX1 5).2.2.1 ∈ me_w := me_in1 66 rfl rfl
theorem w67 : Cond.fieldLink RX1 84 (TX1 6).1 (TX1 6).2.1 (TX1 6).2.2.1 ∈ me_w := me_in1 67 rfl rfl
theorem w252 : Cond.code yX1_foresee cX1_foresee 29 (some .boolean) ∈ me_w := me_in2 12 rfl rfl
theorem w275 : Cond.methodLink RX1 87 yX5_limbOrZero ∈ me_w := me_in2 35 rfl rfl
theorem w50 : Cond.fieldLink RX1 91 (TX5 0).1 (TX5 0).2.1 (TX5 0).2.2.1 ∈ me_w := me_in1 50 rfl rfl
theorem w276 : Cond.constant RX1 95 (2147483647) ∈ me_w := me_in2 36 rfl rfl
theorem w277 : Cond.methodLink RX1 96 yX5_trim ∈ me_w := me_in2 37 rfl rfl
theorem w274 : Cond.code yX1_leap cX1_leap 11 none ∈ me_w := me_in2 34 rfl rfl
theorem w289 : Cond.constantLong RX5 74 (2147483647) ∈ me_w := me_in2 49 rfl rfl
theorem w293 : Cond.methodLink RX5 86 Lib.MathLoose.min_long.x ∈ me_w := me_in2 53 rfl rfl
theorem w294 : Cond.static Lib.MathLoose.min_long.x ∈ me_w := me_in2 54 rfl rfl
theorem w295 : Cond.code Lib.MathLoose.min_long.x Lib.MathLoose.min_long.code 4 (some .long) ∈ me_w := me_in2 55 rfl rfl
theorem w292 : Cond.code yX5_guess cX5_guess 14 (some .long) ∈ me_w := me_in2 52 rfl rfl
theorem w303 : Cond.code yX5_giveBack cX5_giveBack 6 none ∈ me_w := me_in2 63 rfl rfl
theorem w300 : Cond.methodLink RX5 90 yX5_giveBack ∈ me_w := me_in2 60 rfl rfl
theorem w302 : Cond.instanceMethod yX5_giveBack ∈ me_w := me_in2 62 rfl rfl
theorem wS_PlanFractions_Whole_giveBack__LPlanFractions_Whole_I_V : Cond.selects RX5 yX5_giveBack yX5_giveBack ∈ me_w := me_inS (q := (yX5_giveBack, 2)) 6 rfl rfl
theorem w299 : Cond.code yX5_takeAway cX5_takeAway 9 (some .int) ∈ me_w := me_in2 59 rfl rfl
theorem w282 : Cond.methodLink RX5 38 yX5_copy ∈ me_w := me_in2 42 rfl rfl
theorem w243 : Cond.instanceMethod yX5_copy ∈ me_w := me_in2 3 rfl rfl
theorem w244 : Cond.selects RX5 yX5_copy yX5_copy ∈ me_w := me_in2 4 rfl rfl
theorem w283 : Cond.methodLink RX5 64 yX5_shrink ∈ me_w := me_in2 43 rfl rfl
theorem w287 : Cond.methodLink RX5 67 yX5_freeBits ∈ me_w := me_in2 47 rfl rfl
theorem w288 : Cond.methodLink RX5 70 yX5_twoLimbs ∈ me_w := me_in2 48 rfl rfl
theorem w290 : Cond.methodLink RX5 76 yX5_guess ∈ me_w := me_in2 50 rfl rfl
theorem w291 : Cond.static yX5_guess ∈ me_w := me_in2 51 rfl rfl
theorem w296 : Cond.methodLink RX5 80 yX5_takeAway ∈ me_w := me_in2 56 rfl rfl
theorem w298 : Cond.instanceMethod yX5_takeAway ∈ me_w := me_in2 58 rfl rfl
theorem wS_PlanFractions_Whole_takeAway__LPlanFractions_Whole_JI_I : Cond.selects RX5 yX5_takeAway yX5_takeAway ∈ me_w := me_inS (q := (yX5_takeAway, 2)) 5 rfl rfl
theorem w281 : Cond.code yX5_divide cX5_divide 12 none ∈ me_w := me_in2 41 rfl rfl
theorem w307 : Cond.code yX5_lowLong cX5_lowLong 1 (some .long) ∈ me_w := me_in2 67 rfl rfl
theorem w310 : Cond.code yX1_commonOfLongs cX1_commonOfLongs 11 (some .long) ∈ me_w := me_in2 70 rfl rfl
theorem w233 : Cond.methodLink RX1 26 yX5_isOne ∈ me_w := me_in1 233 rfl rfl
theorem w234 : Cond.instanceMethod yX5_isOne ∈ me_w := me_in1 234 rfl rfl
theorem w235 : Cond.selects RX5 yX5_isOne yX5_isOne ∈ me_w := me_in1 235 rfl rfl
theorem w237 : Cond.methodLink RX1 30 yX5_setLong ∈ me_w := me_in1 237 rfl rfl
theorem w86 : Cond.instanceMethod yX5_setLong ∈ me_w := me_in1 86 rfl rfl
theorem w87 : Cond.selects RX5 yX5_setLong yX5_setLong ∈ me_w := me_in1 87 rfl rfl
theorem w238 : Cond.methodLink RX1 34 yX5_compareWith ∈ me_w := me_in1 238 rfl rfl
theorem w239 : Cond.instanceMethod yX5_compareWith ∈ me_w := me_in1 239 rfl rfl
theorem w240 : Cond.selects RX5 yX5_compareWith yX5_compareWith ∈ me_w := me_in2 0 rfl rfl
theorem w242 : Cond.methodLink RX1 38 yX5_copy ∈ me_w := me_in2 2 rfl rfl
theorem w249 : Cond.methodLink RX1 46 yX1_foresee ∈ me_w := me_in2 9 rfl rfl
theorem w251 : Cond.instanceMethod yX1_foresee ∈ me_w := me_in2 11 rfl rfl
theorem wS_PlanFractions_Euclid_foresee___Z : Cond.selects RX1 yX1_foresee yX1_foresee ∈ me_w := me_inS (q := (yX1_foresee, 7)) 3 rfl rfl
theorem w271 : Cond.methodLink RX1 49 yX1_leap ∈ me_w := me_in2 31 rfl rfl
theorem w273 : Cond.instanceMethod yX1_leap ∈ me_w := me_in2 33 rfl rfl
theorem wS_PlanFractions_Euclid_leap___V : Cond.selects RX1 yX1_leap yX1_leap ∈ me_w := me_inS (q := (yX1_leap, 7)) 4 rfl rfl
theorem w278 : Cond.methodLink RX1 52 yX5_divide ∈ me_w := me_in2 38 rfl rfl
theorem w279 : Cond.instanceMethod yX5_divide ∈ me_w := me_in2 39 rfl rfl
theorem w280 : Cond.selects RX5 yX5_divide yX5_divide ∈ me_w := me_in2 40 rfl rfl
theorem w304 : Cond.methodLink RX1 56 yX5_lowLong ∈ me_w := me_in2 64 rfl rfl
theorem w305 : Cond.instanceMethod yX5_lowLong ∈ me_w := me_in2 65 rfl rfl
theorem w306 : Cond.selects RX5 yX5_lowLong yX5_lowLong ∈ me_w := me_in2 66 rfl rfl
theorem w308 : Cond.methodLink RX1 60 yX1_commonOfLongs ∈ me_w := me_in2 68 rfl rfl
theorem w309 : Cond.static yX1_commonOfLongs ∈ me_w := me_in2 69 rfl rfl
theorem w232 : Cond.code yX1_find cX1_find 7 none ∈ me_w := me_in1 232 rfl rfl
theorem w99 : Cond.methodLink RX2 1 Lib.objectInit ∈ me_w := me_in1 99 rfl rfl
theorem w100 : Cond.fieldLink RX2 7 (TX2 0).1 (TX2 0).2.1 (TX2 0).2.2.1 ∈ me_w := me_in1 100 rfl rfl
theorem w104 : Cond.fieldLink RX2 13 (TX2 1).1 (TX2 1).2.1 (TX2 1).2.2.1 ∈ me_w := me_in1 104 rfl rfl
theorem w107 : Cond.fieldLink RX2 17 (TX2 2).1 (TX2 2).2.1 (TX2 2).2.2.1 ∈ me_w := me_in1 107 rfl rfl
theorem w98 : Cond.code yX2_init cX2_init 4 none ∈ me_w := me_in1 98 rfl rfl
theorem w6 : Cond.initialized RX2 ∈ me_w := me_in1 6 rfl rfl
theorem w694 : Cond.code yX2_side cX2_side 2 (some (.object RX5)) ∈ me_w := me_in3 214 rfl rfl
theorem w342 : Cond.code yX5_length cX5_length 1 (some .int) ∈ me_w := me_in2 102 rfl rfl
theorem w365 : Cond.methodLink RX5 52 yX5_length ∈ me_w := me_in2 125 rfl rfl
theorem w340 : Cond.instanceMethod yX5_length ∈ me_w := me_in2 100 rfl rfl
theorem w341 : Cond.selects RX5 yX5_length yX5_length ∈ me_w := me_in2 101 rfl rfl
theorem w366 : Cond.methodLink RX5 56 yX5_lowLong ∈ me_w := me_in2 126 rfl rfl
theorem w367 : Cond.constantLong RX5 62 (-9223372036854775808) ∈ me_w := me_in2 127 rfl rfl
theorem w364 : Cond.code yX5_fitsLong cX5_fitsLong 3 (some .boolean) ∈ me_w := me_in2 124 rfl rfl
theorem w361 : Cond.methodLink RX2 20 yX5_fitsLong ∈ me_w := me_in2 121 rfl rfl
theorem w362 : Cond.instanceMethod yX5_fitsLong ∈ me_w := me_in2 122 rfl rfl
theorem w363 : Cond.selects RX5 yX5_fitsLong yX5_fitsLong ∈ me_w := me_in2 123 rfl rfl
theorem w360 : Cond.code yX2_isSmall cX2_isSmall 1 (some .boolean) ∈ me_w := me_in2 120 rfl rfl
theorem w372 : Cond.methodLink RX2 26 yX5_length ∈ me_w := me_in2 132 rfl rfl
theorem w373 : Cond.methodLink RX2 30 Lib.Math.max.name ∈ me_w := me_in2 133 rfl rfl
theorem w371 : Cond.code yX2_greaterLength cX2_greaterLength 1 (some .int) ∈ me_w := me_in2 131 rfl rfl
theorem w517 : Cond.methodLink RX2 36 yX5_compareWith ∈ me_w := me_in3 37 rfl rfl
theorem w516 : Cond.code yX2_isSame cX2_isSame 2 (some .boolean) ∈ me_w := me_in3 36 rfl rfl
theorem w33 : Cond.methodLink RX3 3 Lib.objectInit ∈ me_w := me_in1 33 rfl rfl
theorem w34 : Cond.classLink RX3 9 RX1 ∈ me_w := me_in1 34 rfl rfl
theorem w35 : Cond.instantiable RX1 7 ∈ me_w := me_in1 35 rfl rfl
theorem w37 : Cond.instanceMethod yX1_init ∈ me_w := me_in1 37 rfl rfl
theorem w119 : Cond.fieldLink RX3 12 (TX3 1).1 (TX3 1).2.1 (TX3 1).2.2.1 ∈ me_w := me_in1 119 rfl rfl
theorem w83 : Cond.classLink RX3 18 RX5 ∈ me_w := me_in1 83 rfl rfl
theorem w84 : Cond.methodLink RX3 20 yX5_init ∈ me_w := me_in1 84 rfl rfl
theorem w120 : Cond.fieldLink RX3 23 (TX3 2).1 (TX3 2).2.1 (TX3 2).2.2.1 ∈ me_w := me_in1 120 rfl rfl
theorem w121 : Cond.fieldLink RX3 27 (TX3 3).1 (TX3 3).2.1 (TX3 3).2.2.1 ∈ me_w := me_in1 121 rfl rfl
theorem w122 : Cond.fieldLink RX3 30 (TX3 4).1 (TX3 4).2.1 (TX3 4).2.2.1 ∈ me_w := me_in1 122 rfl rfl
theorem w123 : Cond.fieldLink RX3 33 (TX3 5).1 (TX3 5).2.1 (TX3 5).2.2.1 ∈ me_w := me_in1 123 rfl rfl
theorem w124 : Cond.fieldLink RX3 36 (TX3 6).1 (TX3 6).2.1 (TX3 6).2.2.1 ∈ me_w := me_in1 124 rfl rfl
theorem w125 : Cond.fieldLink RX3 39 (TX3 7).1 (TX3 7).2.1 (TX3 7).2.2.1 ∈ me_w := me_in1 125 rfl rfl
theorem w126 : Cond.fieldLink RX3 42 (TX3 8).1 (TX3 8).2.1 (TX3 8).2.2.1 ∈ me_w := me_in1 126 rfl rfl
theorem w127 : Cond.fieldLink RX3 45 (TX3 9).1 (TX3 9).2.1 (TX3 9).2.2.1 ∈ me_w := me_in1 127 rfl rfl
theorem w128 : Cond.fieldLink RX3 48 (TX3 10).1 (TX3 10).2.1 (TX3 10).2.2.1 ∈ me_w := me_in1 128 rfl rfl
theorem w129 : Cond.fieldLink RX3 51 (TX3 11).1 (TX3 11).2.1 (TX3 11).2.2.1 ∈ me_w := me_in1 129 rfl rfl
theorem w85 : Cond.methodLink RX3 54 yX5_setLong ∈ me_w := me_in1 85 rfl rfl
theorem w94 : Cond.classLink RX3 58 RX2 ∈ me_w := me_in1 94 rfl rfl
theorem w95 : Cond.instantiable RX2 3 ∈ me_w := me_in1 95 rfl rfl
theorem w96 : Cond.methodLink RX3 60 yX2_init ∈ me_w := me_in1 96 rfl rfl
theorem w97 : Cond.instanceMethod yX2_init ∈ me_w := me_in1 97 rfl rfl
theorem w117 : Cond.fieldLink RX3 63 (TX3 0).1 (TX3 0).2.1 (TX3 0).2.2.1 ∈ me_w := me_in1 117 rfl rfl
theorem w32 : Cond.code yX3_init cX3_init 1 none ∈ me_w := me_in1 32 rfl rfl
theorem w2 : Cond.initialized RX3 ∈ me_w := me_in1 2 rfl rfl
theorem w315 : Cond.methodLink RX3 142 yX5_isOne ∈ me_w := me_in2 75 rfl rfl
theorem w316 : Cond.methodLink RX3 116 yX5_copy ∈ me_w := me_in2 76 rfl rfl
theorem w317 : Cond.methodLink RX3 110 yX5_divide ∈ me_w := me_in2 77 rfl rfl
theorem w314 : Cond.code yX3_divideOut cX3_divideOut 4 none ∈ me_w := me_in2 74 rfl rfl
theorem w347 : Cond.classLink RX5 16 RX5 ∈ me_w := me_in2 107 rfl rfl
theorem w348 : Cond.methodLink RX5 35 yX5_init ∈ me_w := me_in2 108 rfl rfl
theorem w346 : Cond.code yX5_kept cX5_kept 2 (some (.object RX5)) ∈ me_w := me_in2 106 rfl rfl
theorem w339 : Cond.methodLink RX3 134 yX5_length ∈ me_w := me_in2 99 rfl rfl
theorem w343 : Cond.methodLink RX3 138 yX5_kept ∈ me_w := me_in2 103 rfl rfl
theorem w344 : Cond.instanceMethod yX5_kept ∈ me_w := me_in2 104 rfl rfl
theorem w345 : Cond.selects RX5 yX5_kept yX5_kept ∈ me_w := me_in2 105 rfl rfl
theorem w338 : Cond.code yX3_made cX3_made 2 (some (.object RX2)) ∈ me_w := me_in2 98 rfl rfl
theorem w229 : Cond.methodLink RX3 67 yX1_find ∈ me_w := me_in1 229 rfl rfl
theorem w230 : Cond.instanceMethod yX1_find ∈ me_w := me_in1 230 rfl rfl
theorem w231 : Cond.selects RX1 yX1_find yX1_find ∈ me_w := me_in1 231 rfl rfl
theorem w311 : Cond.methodLink RX3 71 yX3_divideOut ∈ me_w := me_in2 71 rfl rfl
theorem w313 : Cond.instanceMethod yX3_divideOut ∈ me_w := me_in2 73 rfl rfl
theorem wS_PlanFractions_Reckoner_divideOut__LPlanFractions_Whole_LPlanFractions_Whole_LPlanFractions_Whole__V : Cond.selects RX3 yX3_divideOut yX3_divideOut ∈ me_w := me_inS (q := (yX3_divideOut, 12)) 7 rfl rfl
theorem w335 : Cond.methodLink RX3 74 yX3_made ∈ me_w := me_in2 95 rfl rfl
theorem w337 : Cond.instanceMethod yX3_made ∈ me_w := me_in2 97 rfl rfl
theorem wS_PlanFractions_Reckoner_made__I_LPlanFractions_Fraction_ : Cond.selects RX3 yX3_made yX3_made ∈ me_w := me_inS (q := (yX3_made, 12)) 9 rfl rfl
theorem w647 : Cond.code yX3_fromLongs cX3_fromLongs 5 (some (.object RX2)) ∈ me_w := me_in3 167 rfl rfl
theorem w321 : Cond.code yX5_setProduct cX5_setProduct 9 none ∈ me_w := me_in2 81 rfl rfl
theorem w108 : Cond.fieldLink RX3 83 (TX2 2).1 (TX2 2).2.1 (TX2 2).2.2.1 ∈ me_w := me_in1 108 rfl rfl
theorem w105 : Cond.fieldLink RX3 82 (TX2 1).1 (TX2 1).2.1 (TX2 1).2.2.1 ∈ me_w := me_in1 105 rfl rfl
theorem w318 : Cond.methodLink RX3 113 yX5_setProduct ∈ me_w := me_in2 78 rfl rfl
theorem w319 : Cond.instanceMethod yX5_setProduct ∈ me_w := me_in2 79 rfl rfl
theorem w320 : Cond.selects RX5 yX5_setProduct yX5_setProduct ∈ me_w := me_in2 80 rfl rfl
theorem w228 : Cond.code yX3_bringTogether cX3_bringTogether 3 none ∈ me_w := me_in1 228 rfl rfl
theorem w325 : Cond.code yX5_setSum cX5_setSum 7 none ∈ me_w := me_in2 85 rfl rfl
theorem w330 : Cond.code yX5_setDifference cX5_setDifference 7 none ∈ me_w := me_in2 90 rfl rfl
theorem w334 : Cond.code yX3_overBoth cX3_overBoth 5 (some (.object RX2)) ∈ me_w := me_in2 94 rfl rfl
theorem w102 : Cond.fieldLink RX3 78 (TX2 0).1 (TX2 0).2.1 (TX2 0).2.2.1 ∈ me_w := me_in1 102 rfl rfl
theorem w225 : Cond.methodLink RX3 84 yX3_bringTogether ∈ me_w := me_in1 225 rfl rfl
theorem w227 : Cond.instanceMethod yX3_bringTogether ∈ me_w := me_in1 227 rfl rfl
theorem wS_PlanFractions_Reckoner_bringTogether__LPlanFractions_Fraction_LPlanFractions_Fraction__V : Cond.selects RX3 yX3_bringTogether yX3_bringTogether ∈ me_w := me_inS (q := (yX3_bringTogether, 12)) 2 rfl rfl
theorem w322 : Cond.methodLink RX3 88 yX5_setSum ∈ me_w := me_in2 82 rfl rfl
theorem w323 : Cond.instanceMethod yX5_setSum ∈ me_w := me_in2 83 rfl rfl
theorem w324 : Cond.selects RX5 yX5_setSum yX5_setSum ∈ me_w := me_in2 84 rfl rfl
theorem w326 : Cond.methodLink RX3 92 yX5_compareWith ∈ me_w := me_in2 86 rfl rfl
theorem w327 : Cond.methodLink RX3 96 yX5_setDifference ∈ me_w := me_in2 87 rfl rfl
theorem w328 : Cond.instanceMethod yX5_setDifference ∈ me_w := me_in2 88 rfl rfl
theorem w329 : Cond.selects RX5 yX5_setDifference yX5_setDifference ∈ me_w := me_in2 89 rfl rfl
theorem w54 : Cond.fieldLink RX3 99 (TX5 1).1 (TX5 1).2.1 (TX5 1).2.2.1 ∈ me_w := me_in1 54 rfl rfl
theorem w331 : Cond.methodLink RX3 102 yX3_overBoth ∈ me_w := me_in2 91 rfl rfl
theorem w333 : Cond.instanceMethod yX3_overBoth ∈ me_w := me_in2 93 rfl rfl
theorem wS_PlanFractions_Reckoner_overBoth__ILPlanFractions_Whole_LPlanFractions_Whole_LPlanFractions_Whole__LPlanFractions_Fraction_ : Cond.selects RX3 yX3_overBoth yX3_overBoth ∈ me_w := me_inS (q := (yX3_overBoth, 12)) 8 rfl rfl
theorem w224 : Cond.code yX3_sum cX3_sum 5 (some (.object RX2)) ∈ me_w := me_in1 224 rfl rfl
theorem w390 : Cond.code yX3_productBy cX3_productBy 5 (some (.object RX2)) ∈ me_w := me_in2 150 rfl rfl
theorem w387 : Cond.methodLink RX3 106 yX3_productBy ∈ me_w := me_in2 147 rfl rfl
theorem w389 : Cond.instanceMethod yX3_productBy ∈ me_w := me_in2 149 rfl rfl
theorem wS_PlanFractions_Reckoner_productBy__LPlanFractions_Fraction_ILPlanFractions_Whole_LPlanFractions_Whole__LPlanFractions_Fraction_ : Cond.selects RX3 yX3_productBy yX3_productBy ∈ me_w := me_inS (q := (yX3_productBy, 12)) 12 rfl rfl
theorem w386 : Cond.code yX3_product cX3_product 3 (some (.object RX2)) ∈ me_w := me_in2 146 rfl rfl
theorem w488 : Cond.code yX3_quotient cX3_quotient 3 (some (.object RX2)) ∈ me_w := me_in3 8 rfl rfl
theorem w666 : Cond.code yX3_remainder cX3_remainder 3 (some (.object RX2)) ∈ me_w := me_in3 186 rfl rfl
theorem w398 : Cond.code yX3_commonMeasure cX3_commonMeasure 3 (some (.object RX2)) ∈ me_w := me_in2 158 rfl rfl
theorem w414 : Cond.code yX5_isOdd cX5_isOdd 1 (some .boolean) ∈ me_w := me_in2 174 rfl rfl
theorem w411 : Cond.methodLink RX3 127 yX5_isOdd ∈ me_w := me_in2 171 rfl rfl
theorem w412 : Cond.instanceMethod yX5_isOdd ∈ me_w := me_in2 172 rfl rfl
theorem w413 : Cond.selects RX5 yX5_isOdd yX5_isOdd ∈ me_w := me_in2 173 rfl rfl
theorem w410 : Cond.code yX3_isAwayFromZero cX3_isAwayFromZero 4 (some .boolean) ∈ me_w := me_in2 170 rfl rfl
theorem w418 : Cond.code yX5_addOne cX5_addOne 2 none ∈ me_w := me_in2 178 rfl rfl
theorem w407 : Cond.methodLink RX3 120 yX3_isAwayFromZero ∈ me_w := me_in2 167 rfl rfl
theorem w409 : Cond.instanceMethod yX3_isAwayFromZero ∈ me_w := me_in2 169 rfl rfl
theorem wS_PlanFractions_Reckoner_isAwayFromZero__LPlanFractions_Fraction_I_Z : Cond.selects RX3 yX3_isAwayFromZero yX3_isAwayFromZero ∈ me_w := me_inS (q := (yX3_isAwayFromZero, 12)) 13 rfl rfl
theorem w415 : Cond.methodLink RX3 124 yX5_addOne ∈ me_w := me_in2 175 rfl rfl
theorem w416 : Cond.instanceMethod yX5_addOne ∈ me_w := me_in2 176 rfl rfl
theorem w417 : Cond.selects RX5 yX5_addOne yX5_addOne ∈ me_w := me_in2 177 rfl rfl
theorem w406 : Cond.code yX3_rounded cX3_rounded 3 (some (.object RX2)) ∈ me_w := me_in2 166 rfl rfl
theorem w537 : Cond.code yX5_grow cX5_grow 5 none ∈ me_w := me_in3 57 rfl rfl
theorem w534 : Cond.methodLink RX3 131 yX5_grow ∈ me_w := me_in3 54 rfl rfl
theorem w535 : Cond.instanceMethod yX5_grow ∈ me_w := me_in3 55 rfl rfl
theorem w536 : Cond.selects RX5 yX5_grow yX5_grow ∈ me_w := me_in3 56 rfl rfl
theorem w533 : Cond.code yX3_multipleBeside cX3_multipleBeside 5 (some (.object RX5)) ∈ me_w := me_in3 53 rfl rfl
theorem w426 : Cond.code yX3_compare cX3_compare 3 (some .int) ∈ me_w := me_in2 186 rfl rfl
theorem w525 : Cond.code yX3_isSameRatio cX3_isSameRatio 5 (some .boolean) ∈ me_w := me_in3 45 rfl rfl
theorem w441 : Cond.methodLink RX4 3 Lib.objectInit ∈ me_w := me_in2 201 rfl rfl
theorem w442 : Cond.methodLink RX4 9 Lib.Math.max.name ∈ me_w := me_in2 202 rfl rfl
theorem w443 : Cond.classLink RX4 15 RX2 ∈ me_w := me_in2 203 rfl rfl
theorem w444 : Cond.fieldLink RX4 17 (TX4 0).1 (TX4 0).2.1 (TX4 0).2.2.1 ∈ me_w := me_in2 204 rfl rfl
theorem w440 : Cond.code yX4_init cX4_init 4 none ∈ me_w := me_in2 200 rfl rfl
theorem w19 : Cond.initialized RX4 ∈ me_w := me_in1 19 rfl rfl
theorem w101 : Cond.fieldLink RX4 23 (TX2 0).1 (TX2 0).2.1 (TX2 0).2.2.1 ∈ me_w := me_in1 101 rfl rfl
theorem w504 : Cond.code yX4_firstNotZero cX4_firstNotZero 2 (some .int) ∈ me_w := me_in3 24 rfl rfl
theorem w730 : Cond.code yX5_word cX5_word 4 (some .int) ∈ me_w := me_in4 10 rfl rfl
theorem w25 : Cond.methodLink RX6 1 Lib.objectInit ∈ me_w := me_in1 25 rfl rfl
theorem w28 : Cond.classLink RX6 7 RX3 ∈ me_w := me_in1 28 rfl rfl
theorem w29 : Cond.instantiable RX3 12 ∈ me_w := me_in1 29 rfl rfl
theorem w30 : Cond.methodLink RX6 9 yX3_init ∈ me_w := me_in1 30 rfl rfl
theorem w31 : Cond.instanceMethod yX3_init ∈ me_w := me_in1 31 rfl rfl
theorem w178 : Cond.fieldLink RX6 10 (TX6 0).1 (TX6 0).2.1 (TX6 0).2.2.1 ∈ me_w := me_in1 178 rfl rfl
theorem w155 : Cond.classLink RX6 16 RX0 ∈ me_w := me_in1 155 rfl rfl
theorem w156 : Cond.instantiable RX0 3 ∈ me_w := me_in1 156 rfl rfl
theorem w158 : Cond.instanceMethod yX0_init ∈ me_w := me_in1 158 rfl rfl
theorem w179 : Cond.fieldLink RX6 19 (TX6 1).1 (TX6 1).2.1 (TX6 1).2.2.1 ∈ me_w := me_in1 179 rfl rfl
theorem w174 : Cond.classLink RX6 23 RX2 ∈ me_w := me_in1 174 rfl rfl
theorem w180 : Cond.fieldLink RX6 25 (TX6 2).1 (TX6 2).2.1 (TX6 2).2.2.1 ∈ me_w := me_in1 180 rfl rfl
theorem w176 : Cond.classLink RX6 29 RX4 ∈ me_w := me_in1 176 rfl rfl
theorem w181 : Cond.fieldLink RX6 31 (TX6 3).1 (TX6 3).2.1 (TX6 3).2.2.1 ∈ me_w := me_in1 181 rfl rfl
theorem w182 : Cond.fieldLink RX6 35 (TX6 4).1 (TX6 4).2.1 (TX6 4).2.2.1 ∈ me_w := me_in1 182 rfl rfl
theorem w24 : Cond.code yX6_init cX6_init 1 none ∈ me_w := me_in1 24 rfl rfl
theorem w1 : Cond.initialized RX6 ∈ me_w := me_in1 1 rfl rfl
theorem w183 : Cond.fieldLink RX6 218 (TX6 5).1 (TX6 5).2.1 (TX6 5).2.2.1 ∈ me_w := me_in1 183 rfl rfl
theorem w216 : Cond.code yX6_isValue cX6_isValue 2 (some .boolean) ∈ me_w := me_in1 216 rfl rfl
theorem w220 : Cond.code yX6_isFull cX6_isFull 1 (some .boolean) ∈ me_w := me_in1 220 rfl rfl
theorem w186 : Cond.fieldLink RX6 224 (TX6 8).1 (TX6 8).2.1 (TX6 8).2.2.1 ∈ me_w := me_in1 186 rfl rfl
theorem w356 : Cond.code yX6_tooWide cX6_tooWide 1 (some .int) ∈ me_w := me_in2 116 rfl rfl
theorem w353 : Cond.methodLink RX6 182 yX6_tooWide ∈ me_w := me_in2 113 rfl rfl
theorem w355 : Cond.instanceMethod yX6_tooWide ∈ me_w := me_in2 115 rfl rfl
theorem wS_PlanFractions_tooWide___I : Cond.selects RX6 yX6_tooWide yX6_tooWide ∈ me_w := me_inS (q := (yX6_tooWide, 10)) 11 rfl rfl
theorem w357 : Cond.methodLink RX6 92 yX2_isSmall ∈ me_w := me_in2 117 rfl rfl
theorem w358 : Cond.instanceMethod yX2_isSmall ∈ me_w := me_in2 118 rfl rfl
theorem w359 : Cond.selects RX2 yX2_isSmall yX2_isSmall ∈ me_w := me_in2 119 rfl rfl
theorem w185 : Cond.fieldLink RX6 221 (TX6 7).1 (TX6 7).2.1 (TX6 7).2.2.1 ∈ me_w := me_in1 185 rfl rfl
theorem w187 : Cond.fieldLink RX6 227 (TX6 9).1 (TX6 9).2.1 (TX6 9).2.2.1 ∈ me_w := me_in1 187 rfl rfl
theorem w368 : Cond.methodLink RX6 230 yX2_greaterLength ∈ me_w := me_in2 128 rfl rfl
theorem w369 : Cond.instanceMethod yX2_greaterLength ∈ me_w := me_in2 129 rfl rfl
theorem w370 : Cond.selects RX2 yX2_greaterLength yX2_greaterLength ∈ me_w := me_in2 130 rfl rfl
theorem w374 : Cond.methodLink RX6 233 Lib.Math.max.name ∈ me_w := me_in2 134 rfl rfl
theorem w352 : Cond.code yX6_keep cX6_keep 2 (some .int) ∈ me_w := me_in2 112 rfl rfl
theorem w213 : Cond.methodLink RX6 57 yX6_isValue ∈ me_w := me_in1 213 rfl rfl
theorem w215 : Cond.instanceMethod yX6_isValue ∈ me_w := me_in1 215 rfl rfl
theorem wS_PlanFractions_isValue__I_Z : Cond.selects RX6 yX6_isValue yX6_isValue ∈ me_w := me_inS (q := (yX6_isValue, 10)) 0 rfl rfl
theorem w217 : Cond.methodLink RX6 45 yX6_isFull ∈ me_w := me_in1 217 rfl rfl
theorem w219 : Cond.instanceMethod yX6_isFull ∈ me_w := me_in1 219 rfl rfl
theorem wS_PlanFractions_isFull___Z : Cond.selects RX6 yX6_isFull yX6_isFull ∈ me_w := me_inS (q := (yX6_isFull, 10)) 1 rfl rfl
theorem w103 : Cond.fieldLink RX6 61 (TX2 0).1 (TX2 0).2.1 (TX2 0).2.2.1 ∈ me_w := me_in1 103 rfl rfl
theorem w221 : Cond.methodLink RX6 65 yX3_sum ∈ me_w := me_in1 221 rfl rfl
theorem w222 : Cond.instanceMethod yX3_sum ∈ me_w := me_in1 222 rfl rfl
theorem w223 : Cond.selects RX3 yX3_sum yX3_sum ∈ me_w := me_in1 223 rfl rfl
theorem w349 : Cond.methodLink RX6 53 yX6_keep ∈ me_w := me_in2 109 rfl rfl
theorem w351 : Cond.instanceMethod yX6_keep ∈ me_w := me_in2 111 rfl rfl
theorem wS_PlanFractions_keep__LPlanFractions_Fraction__I : Cond.selects RX6 yX6_keep yX6_keep ∈ me_w := me_inS (q := (yX6_keep, 10)) 10 rfl rfl
theorem w212 : Cond.code yX6_add cX6_add 3 (some .int) ∈ me_w := me_in1 212 rfl rfl
theorem w378 : Cond.code yX6_less cX6_less 3 (some .int) ∈ me_w := me_in2 138 rfl rfl
theorem w383 : Cond.methodLink RX6 69 yX3_product ∈ me_w := me_in2 143 rfl rfl
theorem w384 : Cond.instanceMethod yX3_product ∈ me_w := me_in2 144 rfl rfl
theorem w385 : Cond.selects RX3 yX3_product yX3_product ∈ me_w := me_in2 145 rfl rfl
theorem w382 : Cond.code yX6_times cX6_times 3 (some .int) ∈ me_w := me_in2 142 rfl rfl
theorem w395 : Cond.methodLink RX6 81 yX3_commonMeasure ∈ me_w := me_in2 155 rfl rfl
theorem w396 : Cond.instanceMethod yX3_commonMeasure ∈ me_w := me_in2 156 rfl rfl
theorem w397 : Cond.selects RX3 yX3_commonMeasure yX3_commonMeasure ∈ me_w := me_in2 157 rfl rfl
theorem w394 : Cond.code yX6_measure cX6_measure 3 (some .int) ∈ me_w := me_in2 154 rfl rfl
theorem w403 : Cond.methodLink RX6 84 yX3_rounded ∈ me_w := me_in2 163 rfl rfl
theorem w404 : Cond.instanceMethod yX3_rounded ∈ me_w := me_in2 164 rfl rfl
theorem w405 : Cond.selects RX3 yX3_rounded yX3_rounded ∈ me_w := me_in2 165 rfl rfl
theorem w402 : Cond.code yX6_whole cX6_whole 3 (some .int) ∈ me_w := me_in2 162 rfl rfl
theorem w423 : Cond.methodLink RX6 88 yX3_compare ∈ me_w := me_in2 183 rfl rfl
theorem w424 : Cond.instanceMethod yX3_compare ∈ me_w := me_in2 184 rfl rfl
theorem w425 : Cond.selects RX3 yX3_compare yX3_compare ∈ me_w := me_in2 185 rfl rfl
theorem w422 : Cond.code yX6_order cX6_order 3 (some .int) ∈ me_w := me_in2 182 rfl rfl
theorem w106 : Cond.fieldLink RX6 95 (TX2 1).1 (TX2 1).2.1 (TX2 1).2.2.1 ∈ me_w := me_in1 106 rfl rfl
theorem w431 : Cond.methodLink RX6 99 yX5_length ∈ me_w := me_in2 191 rfl rfl
theorem w109 : Cond.fieldLink RX6 105 (TX2 2).1 (TX2 2).2.1 (TX2 2).2.2.1 ∈ me_w := me_in1 109 rfl rfl
theorem w432 : Cond.methodLink RX6 108 yX5_isOne ∈ me_w := me_in2 192 rfl rfl
theorem w430 : Cond.code yX6_of cX6_of 4 (some .int) ∈ me_w := me_in2 190 rfl rfl
theorem w184 : Cond.fieldLink RX6 159 (TX6 6).1 (TX6 6).2.1 (TX6 6).2.2.1 ∈ me_w := me_in1 184 rfl rfl
theorem w437 : Cond.instantiable RX4 1 ∈ me_w := me_in2 197 rfl rfl
theorem w118 : Cond.fieldLink RX6 162 (TX3 0).1 (TX3 0).2.1 (TX3 0).2.2.1 ∈ me_w := me_in1 118 rfl rfl
theorem w438 : Cond.methodLink RX6 166 yX4_init ∈ me_w := me_in2 198 rfl rfl
theorem w439 : Cond.instanceMethod yX4_init ∈ me_w := me_in2 199 rfl rfl
theorem w436 : Cond.code yX6_row cX6_row 2 (some .int) ∈ me_w := me_in2 196 rfl rfl
theorem w460 : Cond.code yX6_isRow cX6_isRow 2 (some .boolean) ∈ me_w := me_in2 220 rfl rfl
theorem w457 : Cond.methodLink RX6 179 yX6_isRow ∈ me_w := me_in2 217 rfl rfl
theorem w459 : Cond.instanceMethod yX6_isRow ∈ me_w := me_in2 219 rfl rfl
theorem wS_PlanFractions_isRow__I_Z : Cond.selects RX6 yX6_isRow yX6_isRow ∈ me_w := me_inS (q := (yX6_isRow, 10)) 15 rfl rfl
theorem w445 : Cond.fieldLink RX6 173 (TX4 0).1 (TX4 0).2.1 (TX4 0).2.2.1 ∈ me_w := me_in2 205 rfl rfl
theorem w456 : Cond.code yX6_isPlace cX6_isPlace 3 (some .boolean) ∈ me_w := me_in2 216 rfl rfl
theorem w453 : Cond.methodLink RX6 169 yX6_isPlace ∈ me_w := me_in2 213 rfl rfl
theorem w455 : Cond.instanceMethod yX6_isPlace ∈ me_w := me_in2 215 rfl rfl
theorem wS_PlanFractions_isPlace__II_Z : Cond.selects RX6 yX6_isPlace yX6_isPlace ∈ me_w := me_inS (q := (yX6_isPlace, 10)) 14 rfl rfl
theorem w452 : Cond.code yX6_put cX6_put 4 (some .int) ∈ me_w := me_in2 212 rfl rfl
theorem w464 : Cond.code yX6_take cX6_take 3 (some .int) ∈ me_w := me_in2 224 rfl rfl
theorem w472 : Cond.code yX6_areAsLong cX6_areAsLong 3 (some .boolean) ∈ me_w := me_in2 232 rfl rfl
theorem w469 : Cond.methodLink RX6 176 yX6_areAsLong ∈ me_w := me_in2 229 rfl rfl
theorem w471 : Cond.instanceMethod yX6_areAsLong ∈ me_w := me_in2 231 rfl rfl
theorem wS_PlanFractions_areAsLong__II_Z : Cond.selects RX6 yX6_areAsLong yX6_areAsLong ∈ me_w := me_inS (q := (yX6_areAsLong, 10)) 16 rfl rfl
theorem w468 : Cond.code yX6_dot cX6_dot 8 (some .int) ∈ me_w := me_in2 228 rfl rfl
theorem w480 : Cond.code yX6_renew cX6_renew 3 (some .int) ∈ me_w := me_in3 0 rfl rfl
theorem w477 : Cond.methodLink RX6 185 yX6_renew ∈ me_w := me_in2 237 rfl rfl
theorem w479 : Cond.instanceMethod yX6_renew ∈ me_w := me_in2 239 rfl rfl
theorem wS_PlanFractions_renew___LPlanFractions_Fraction__I : Cond.selects RX6 yX6_renew yX6_renew ∈ me_w := me_inS (q := (yX6_renew, 10)) 17 rfl rfl
theorem w476 : Cond.code yX6_scale cX6_scale 6 (some .int) ∈ me_w := me_in2 236 rfl rfl
theorem w485 : Cond.methodLink RX6 75 yX3_quotient ∈ me_w := me_in3 5 rfl rfl
theorem w486 : Cond.instanceMethod yX3_quotient ∈ me_w := me_in3 6 rfl rfl
theorem w487 : Cond.selects RX3 yX3_quotient yX3_quotient ∈ me_w := me_in3 7 rfl rfl
theorem w484 : Cond.code yX6_eliminate cX6_eliminate 9 (some .int) ∈ me_w := me_in3 4 rfl rfl
theorem w496 : Cond.code yX6_commonMeasureOfAll cX6_commonMeasureOfAll 4 (some (.object RX2)) ∈ me_w := me_in3 16 rfl rfl
theorem w493 : Cond.methodLink RX6 189 yX6_commonMeasureOfAll ∈ me_w := me_in3 13 rfl rfl
theorem w495 : Cond.instanceMethod yX6_commonMeasureOfAll ∈ me_w := me_in3 15 rfl rfl
theorem wS_PlanFractions_commonMeasureOfAll___LPlanFractions_Fraction__LPlanFractions_Fraction_ : Cond.selects RX6 yX6_commonMeasureOfAll yX6_commonMeasureOfAll ∈ me_w := me_inS (q := (yX6_commonMeasureOfAll, 10)) 18 rfl rfl
theorem w492 : Cond.code yX6_primitive cX6_primitive 5 (some .int) ∈ me_w := me_in3 12 rfl rfl
theorem w501 : Cond.methodLink RX6 193 yX4_firstNotZero ∈ me_w := me_in3 21 rfl rfl
theorem w502 : Cond.instanceMethod yX4_firstNotZero ∈ me_w := me_in3 22 rfl rfl
theorem w503 : Cond.selects RX4 yX4_firstNotZero yX4_firstNotZero ∈ me_w := me_in3 23 rfl rfl
theorem w500 : Cond.code yX6_lead cX6_lead 2 (some .int) ∈ me_w := me_in3 20 rfl rfl
theorem w513 : Cond.methodLink RX6 239 yX2_isSame ∈ me_w := me_in3 33 rfl rfl
theorem w514 : Cond.instanceMethod yX2_isSame ∈ me_w := me_in3 34 rfl rfl
theorem w515 : Cond.selects RX2 yX2_isSame yX2_isSame ∈ me_w := me_in3 35 rfl rfl
theorem w512 : Cond.code yX6_areEqual cX6_areEqual 4 (some .boolean) ∈ me_w := me_in3 32 rfl rfl
theorem w522 : Cond.methodLink RX6 243 yX3_isSameRatio ∈ me_w := me_in3 42 rfl rfl
theorem w523 : Cond.instanceMethod yX3_isSameRatio ∈ me_w := me_in3 43 rfl rfl
theorem w524 : Cond.selects RX3 yX3_isSameRatio yX3_isSameRatio ∈ me_w := me_in3 44 rfl rfl
theorem w521 : Cond.code yX6_areInProportion cX6_areInProportion 5 (some .boolean) ∈ me_w := me_in3 41 rfl rfl
theorem w509 : Cond.methodLink RX6 196 yX6_areEqual ∈ me_w := me_in3 29 rfl rfl
theorem w511 : Cond.instanceMethod yX6_areEqual ∈ me_w := me_in3 31 rfl rfl
theorem wS_PlanFractions_areEqual__LPlanFractions_Row_LPlanFractions_Row__Z : Cond.selects RX6 yX6_areEqual yX6_areEqual ∈ me_w := me_inS (q := (yX6_areEqual, 10)) 19 rfl rfl
theorem w518 : Cond.methodLink RX6 200 yX6_areInProportion ∈ me_w := me_in3 38 rfl rfl
theorem w520 : Cond.instanceMethod yX6_areInProportion ∈ me_w := me_in3 40 rfl rfl
theorem wS_PlanFractions_areInProportion__LPlanFractions_Row_LPlanFractions_Row__Z : Cond.selects RX6 yX6_areInProportion yX6_areInProportion ∈ me_w := me_inS (q := (yX6_areInProportion, 10)) 20 rfl rfl
theorem w508 : Cond.code yX6_alike cX6_alike 5 (some .int) ∈ me_w := me_in3 28 rfl rfl
theorem w530 : Cond.methodLink RX6 203 yX3_multipleBeside ∈ me_w := me_in3 50 rfl rfl
theorem w531 : Cond.instanceMethod yX3_multipleBeside ∈ me_w := me_in3 51 rfl rfl
theorem w532 : Cond.selects RX3 yX3_multipleBeside yX3_multipleBeside ∈ me_w := me_in3 52 rfl rfl
theorem w538 : Cond.methodLink RX6 207 yX0_write ∈ me_w := me_in3 58 rfl rfl
theorem w539 : Cond.instanceMethod yX0_write ∈ me_w := me_in3 59 rfl rfl
theorem w540 : Cond.selects RX0 yX0_write yX0_write ∈ me_w := me_in3 60 rfl rfl
theorem w164 : Cond.fieldLink RX6 211 (TX0 1).1 (TX0 1).2.1 (TX0 1).2.2.1 ∈ me_w := me_in1 164 rfl rfl
theorem w529 : Cond.code yX6_decimal cX6_decimal 5 (some .int) ∈ me_w := me_in3 49 rfl rfl
theorem w162 : Cond.fieldLink RX6 214 (TX0 0).1 (TX0 0).2.1 (TX0 0).2.2.1 ∈ me_w := me_in1 162 rfl rfl
theorem w555 : Cond.code yX6_letter cX6_letter 2 (some .int) ∈ me_w := me_in3 75 rfl rfl
theorem w559 : Cond.code yX6_count cX6_count 2 (some .int) ∈ me_w := me_in3 79 rfl rfl
theorem w563 : Cond.code yX6_clear cX6_clear 2 (some .int) ∈ me_w := me_in3 83 rfl rfl
theorem w779 : Cond.fieldLink RX7 7 (TX7 1).1 (TX7 1).2.1 (TX7 1).2.2.1 ∈ me_w := me_in4 59 rfl rfl
theorem w777 : Cond.constantLong RX7 51 (65535) ∈ me_w := me_in4 57 rfl rfl
theorem w780 : Cond.fieldLink RX7 13 (TX7 2).1 (TX7 2).2.1 (TX7 2).2.2.1 ∈ me_w := me_in4 60 rfl rfl
theorem w776 : Cond.code yX7_put cX7_put 7 none ∈ me_w := me_in4 56 rfl rfl
theorem w8 : Cond.initialized RX7 ∈ me_w := me_in1 8 rfl rfl
theorem w772 : Cond.methodLink RX7 1 Lib.objectInit ∈ me_w := me_in4 52 rfl rfl
theorem w781 : Cond.fieldLink RX7 16 (TX7 3).1 (TX7 3).2.1 (TX7 3).2.2.1 ∈ me_w := me_in4 61 rfl rfl
theorem w782 : Cond.fieldLink RX7 19 (TX7 4).1 (TX7 4).2.1 (TX7 4).2.2.1 ∈ me_w := me_in4 62 rfl rfl
theorem w783 : Cond.fieldLink RX7 22 (TX7 5).1 (TX7 5).2.1 (TX7 5).2.2.1 ∈ me_w := me_in4 63 rfl rfl
theorem w784 : Cond.fieldLink RX7 25 (TX7 6).1 (TX7 6).2.1 (TX7 6).2.2.1 ∈ me_w := me_in4 64 rfl rfl
theorem w785 : Cond.fieldLink RX7 28 (TX7 7).1 (TX7 7).2.1 (TX7 7).2.2.1 ∈ me_w := me_in4 65 rfl rfl
theorem w786 : Cond.fieldLink RX7 31 (TX7 8).1 (TX7 8).2.1 (TX7 8).2.2.1 ∈ me_w := me_in4 66 rfl rfl
theorem w789 : Cond.fieldLink RX7 34 (TX7 11).1 (TX7 11).2.1 (TX7 11).2.2.1 ∈ me_w := me_in4 69 rfl rfl
theorem w791 : Cond.fieldLink RX7 37 (TX7 13).1 (TX7 13).2.1 (TX7 13).2.2.1 ∈ me_w := me_in4 71 rfl rfl
theorem w793 : Cond.fieldLink RX7 40 (TX7 15).1 (TX7 15).2.1 (TX7 15).2.2.1 ∈ me_w := me_in4 73 rfl rfl
theorem w773 : Cond.methodLink RX7 43 yX7_put ∈ me_w := me_in4 53 rfl rfl
theorem w775 : Cond.instanceMethod yX7_put ∈ me_w := me_in4 55 rfl rfl
theorem wS_PlanFractionsModel_put__IJ_V : Cond.selects RX7 yX7_put yX7_put ∈ me_w := me_inS (q := (yX7_put, 16)) 24 rfl rfl
theorem w771 : Cond.code yX7_init cX7_init 1 none ∈ me_w := me_in4 51 rfl rfl
theorem w778 : Cond.fieldLink RX7 47 (TX7 0).1 (TX7 0).2.1 (TX7 0).2.2.1 ∈ me_w := me_in4 58 rfl rfl
theorem w830 : Cond.code yX7_thrown cX7_thrown 1 (some .int) ∈ me_w := me_in4 110 rfl rfl
theorem w838 : Cond.code yX7_throwing cX7_throwing 2 (some .int) ∈ me_w := me_in4 118 rfl rfl
theorem w862 : Cond.code yX7_at cX7_at 3 (some .int) ∈ me_w := me_in4 142 rfl rfl
theorem w883 : Cond.code yX7_trim cX7_trim 4 none ∈ me_w := me_in4 163 rfl rfl
theorem w859 : Cond.methodLink RX7 53 yX7_at ∈ me_w := me_in4 139 rfl rfl
theorem w861 : Cond.instanceMethod yX7_at ∈ me_w := me_in4 141 rfl rfl
theorem wS_PlanFractionsModel_at__II_I : Cond.selects RX7 yX7_at yX7_at ∈ me_w := me_inS (q := (yX7_at, 16)) 31 rfl rfl
theorem w858 : Cond.code yX7_lowest cX7_lowest 5 (some .long) ∈ me_w := me_in4 138 rfl rfl
theorem w850 : Cond.code yX7_copy cX7_copy 4 none ∈ me_w := me_in4 130 rfl rfl
theorem w866 : Cond.code yX7_bits cX7_bits 4 (some .int) ∈ me_w := me_in4 146 rfl rfl
theorem w887 : Cond.code yX7_compare cX7_compare 4 (some .int) ∈ me_w := me_in4 167 rfl rfl
theorem w875 : Cond.constant RX7 57 (65535) ∈ me_w := me_in4 155 rfl rfl
theorem w880 : Cond.methodLink RX7 58 yX7_trim ∈ me_w := me_in4 160 rfl rfl
theorem w882 : Cond.instanceMethod yX7_trim ∈ me_w := me_in4 162 rfl rfl
theorem wS_PlanFractionsModel_trim__II_V : Cond.selects RX7 yX7_trim yX7_trim ∈ me_w := me_inS (q := (yX7_trim, 16)) 36 rfl rfl
theorem w931 : Cond.code yX7_plus cX7_plus 8 none ∈ me_w := me_in4 211 rfl rfl
theorem w874 : Cond.code yX7_shifted cX7_shifted 5 (some .int) ∈ me_w := me_in4 154 rfl rfl
theorem w871 : Cond.methodLink RX7 62 yX7_shifted ∈ me_w := me_in4 151 rfl rfl
theorem w873 : Cond.instanceMethod yX7_shifted ∈ me_w := me_in4 153 rfl rfl
theorem wS_PlanFractionsModel_shifted__III_I : Cond.selects RX7 yX7_shifted yX7_shifted ∈ me_w := me_inS (q := (yX7_shifted, 16)) 34 rfl rfl
theorem w879 : Cond.code yX7_lessen cX7_lessen 7 none ∈ me_w := me_in4 159 rfl rfl
theorem w870 : Cond.code yX7_isBelow cX7_isBelow 6 (some .boolean) ∈ me_w := me_in4 150 rfl rfl
theorem w855 : Cond.methodLink RX7 66 yX7_lowest ∈ me_w := me_in4 135 rfl rfl
theorem w857 : Cond.instanceMethod yX7_lowest ∈ me_w := me_in4 137 rfl rfl
theorem wS_PlanFractionsModel_lowest__I_J : Cond.selects RX7 yX7_lowest yX7_lowest ∈ me_w := me_inS (q := (yX7_lowest, 16)) 30 rfl rfl
theorem w863 : Cond.methodLink RX7 70 yX7_bits ∈ me_w := me_in4 143 rfl rfl
theorem w865 : Cond.instanceMethod yX7_bits ∈ me_w := me_in4 145 rfl rfl
theorem wS_PlanFractionsModel_bits__I_I : Cond.selects RX7 yX7_bits yX7_bits ∈ me_w := me_inS (q := (yX7_bits, 16)) 32 rfl rfl
theorem w867 : Cond.methodLink RX7 74 yX7_isBelow ∈ me_w := me_in4 147 rfl rfl
theorem w869 : Cond.instanceMethod yX7_isBelow ∈ me_w := me_in4 149 rfl rfl
theorem wS_PlanFractionsModel_isBelow__III_Z : Cond.selects RX7 yX7_isBelow yX7_isBelow ∈ me_w := me_inS (q := (yX7_isBelow, 16)) 33 rfl rfl
theorem w876 : Cond.methodLink RX7 78 yX7_lessen ∈ me_w := me_in4 156 rfl rfl
theorem w878 : Cond.instanceMethod yX7_lessen ∈ me_w := me_in4 158 rfl rfl
theorem wS_PlanFractionsModel_lessen__III_V : Cond.selects RX7 yX7_lessen yX7_lessen ∈ me_w := me_inS (q := (yX7_lessen, 16)) 35 rfl rfl
theorem w854 : Cond.code yX7_divide cX7_divide 9 none ∈ me_w := me_in4 134 rfl rfl
theorem w927 : Cond.code yX7_multiply cX7_multiply 9 none ∈ me_w := me_in4 207 rfl rfl
theorem w847 : Cond.methodLink RX7 82 yX7_copy ∈ me_w := me_in4 127 rfl rfl
theorem w849 : Cond.instanceMethod yX7_copy ∈ me_w := me_in4 129 rfl rfl
theorem wS_PlanFractionsModel_copy__II_V : Cond.selects RX7 yX7_copy yX7_copy ∈ me_w := me_inS (q := (yX7_copy, 16)) 28 rfl rfl
theorem w851 : Cond.methodLink RX7 85 yX7_divide ∈ me_w := me_in4 131 rfl rfl
theorem w853 : Cond.instanceMethod yX7_divide ∈ me_w := me_in4 133 rfl rfl
theorem wS_PlanFractionsModel_divide__III_V : Cond.selects RX7 yX7_divide yX7_divide ∈ me_w := me_inS (q := (yX7_divide, 16)) 29 rfl rfl
theorem w846 : Cond.code yX7_divisor cX7_divisor 7 none ∈ me_w := me_in4 126 rfl rfl
theorem w843 : Cond.methodLink RX7 88 yX7_divisor ∈ me_w := me_in4 123 rfl rfl
theorem w845 : Cond.instanceMethod yX7_divisor ∈ me_w := me_in4 125 rfl rfl
theorem wS_PlanFractionsModel_divisor__III_V : Cond.selects RX7 yX7_divisor yX7_divisor ∈ me_w := me_inS (q := (yX7_divisor, 16)) 27 rfl rfl
theorem w884 : Cond.methodLink RX7 91 yX7_compare ∈ me_w := me_in4 164 rfl rfl
theorem w886 : Cond.instanceMethod yX7_compare ∈ me_w := me_in4 166 rfl rfl
theorem wS_PlanFractionsModel_compare__II_I : Cond.selects RX7 yX7_compare yX7_compare ∈ me_w := me_inS (q := (yX7_compare, 16)) 37 rfl rfl
theorem w842 : Cond.code yX7_least cX7_least 4 (some .boolean) ∈ me_w := me_in4 122 rfl rfl
theorem w924 : Cond.methodLink RX7 94 yX7_multiply ∈ me_w := me_in4 204 rfl rfl
theorem w926 : Cond.instanceMethod yX7_multiply ∈ me_w := me_in4 206 rfl rfl
theorem wS_PlanFractionsModel_multiply__III_V : Cond.selects RX7 yX7_multiply yX7_multiply ∈ me_w := me_inS (q := (yX7_multiply, 16)) 46 rfl rfl
theorem w923 : Cond.code yX7_across cX7_across 3 none ∈ me_w := me_in4 203 rfl rfl
theorem w920 : Cond.methodLink RX7 97 yX7_across ∈ me_w := me_in4 200 rfl rfl
theorem w922 : Cond.instanceMethod yX7_across ∈ me_w := me_in4 202 rfl rfl
theorem wS_PlanFractionsModel_across__II_V : Cond.selects RX7 yX7_across yX7_across ∈ me_w := me_inS (q := (yX7_across, 16)) 45 rfl rfl
theorem w928 : Cond.methodLink RX7 100 yX7_plus ∈ me_w := me_in4 208 rfl rfl
theorem w930 : Cond.instanceMethod yX7_plus ∈ me_w := me_in4 210 rfl rfl
theorem wS_PlanFractionsModel_plus__III_V : Cond.selects RX7 yX7_plus yX7_plus ∈ me_w := me_inS (q := (yX7_plus, 16)) 47 rfl rfl
theorem w839 : Cond.methodLink RX7 103 yX7_least ∈ me_w := me_in4 119 rfl rfl
theorem w841 : Cond.instanceMethod yX7_least ∈ me_w := me_in4 121 rfl rfl
theorem wS_PlanFractionsModel_least__I_Z : Cond.selects RX7 yX7_least yX7_least ∈ me_w := me_inS (q := (yX7_least, 16)) 26 rfl rfl
theorem w919 : Cond.code yX7_sum cX7_sum 7 (some .boolean) ∈ me_w := me_in4 199 rfl rfl
theorem w935 : Cond.code yX7_product cX7_product 3 (some .boolean) ∈ me_w := me_in4 215 rfl rfl
theorem w939 : Cond.code yX7_quotient cX7_quotient 3 (some .boolean) ∈ me_w := me_in4 219 rfl rfl
theorem w943 : Cond.code yX7_left cX7_left 3 (some .boolean) ∈ me_w := me_in4 223 rfl rfl
theorem w947 : Cond.code yX7_common cX7_common 3 (some .boolean) ∈ me_w := me_in4 227 rfl rfl
theorem w1052 : Cond.code yX7_move cX7_move 3 none ∈ me_w := me_in5 92 rfl rfl
theorem w915 : Cond.code yX7_load cX7_load 4 none ∈ me_w := me_in4 195 rfl rfl
theorem w899 : Cond.code yX7_save cX7_save 4 none ∈ me_w := me_in4 179 rfl rfl
theorem w912 : Cond.methodLink RX7 107 yX7_load ∈ me_w := me_in4 192 rfl rfl
theorem w914 : Cond.instanceMethod yX7_load ∈ me_w := me_in4 194 rfl rfl
theorem wS_PlanFractionsModel_load__II_V : Cond.selects RX7 yX7_load yX7_load ∈ me_w := me_inS (q := (yX7_load, 16)) 43 rfl rfl
theorem w896 : Cond.methodLink RX7 110 yX7_save ∈ me_w := me_in4 176 rfl rfl
theorem w898 : Cond.instanceMethod yX7_save ∈ me_w := me_in4 178 rfl rfl
theorem wS_PlanFractionsModel_save__II_V : Cond.selects RX7 yX7_save yX7_save ∈ me_w := me_inS (q := (yX7_save, 16)) 40 rfl rfl
theorem w1036 : Cond.code yX7_same cX7_same 3 none ∈ me_w := me_in5 76 rfl rfl
theorem w787 : Cond.fieldLink RX7 113 (TX7 9).1 (TX7 9).2.1 (TX7 9).2.2.1 ∈ me_w := me_in4 67 rfl rfl
theorem w911 : Cond.code yX7_isValue cX7_isValue 2 (some .boolean) ∈ me_w := me_in4 191 rfl rfl
theorem w788 : Cond.fieldLink RX7 116 (TX7 10).1 (TX7 10).2.1 (TX7 10).2.2.1 ∈ me_w := me_in4 68 rfl rfl
theorem w1032 : Cond.code yX7_isRow cX7_isRow 2 (some .boolean) ∈ me_w := me_in5 72 rfl rfl
theorem w1029 : Cond.methodLink RX7 119 yX7_isRow ∈ me_w := me_in5 69 rfl rfl
theorem w1031 : Cond.instanceMethod yX7_isRow ∈ me_w := me_in5 71 rfl rfl
theorem wS_PlanFractionsModel_isRow__I_Z : Cond.selects RX7 yX7_isRow yX7_isRow ∈ me_w := me_inS (q := (yX7_isRow, 16)) 58 rfl rfl
theorem w1028 : Cond.code yX7_isPlace cX7_isPlace 3 (some .boolean) ∈ me_w := me_in5 68 rfl rfl
theorem w1020 : Cond.code yX7_place cX7_place 2 (some .int) ∈ me_w := me_in5 60 rfl rfl
theorem w790 : Cond.fieldLink RX7 122 (TX7 12).1 (TX7 12).2.1 (TX7 12).2.2.1 ∈ me_w := me_in4 70 rfl rfl
theorem w895 : Cond.code yX7_wide cX7_wide 1 (some .int) ∈ me_w := me_in4 175 rfl rfl
theorem w892 : Cond.methodLink RX7 125 yX7_wide ∈ me_w := me_in4 172 rfl rfl
theorem w894 : Cond.instanceMethod yX7_wide ∈ me_w := me_in4 174 rfl rfl
theorem wS_PlanFractionsModel_wide___I : Cond.selects RX7 yX7_wide yX7_wide ∈ me_w := me_inS (q := (yX7_wide, 16)) 39 rfl rfl
theorem w891 : Cond.code yX7_comes cX7_comes 2 (some .int) ∈ me_w := me_in4 171 rfl rfl
theorem w835 : Cond.methodLink RX7 129 yX7_throwing ∈ me_w := me_in4 115 rfl rfl
theorem w837 : Cond.instanceMethod yX7_throwing ∈ me_w := me_in4 117 rfl rfl
theorem wS_PlanFractionsModel_throwing__I_I : Cond.selects RX7 yX7_throwing yX7_throwing ∈ me_w := me_inS (q := (yX7_throwing, 16)) 25 rfl rfl
theorem w888 : Cond.methodLink RX7 132 yX7_comes ∈ me_w := me_in4 168 rfl rfl
theorem w890 : Cond.instanceMethod yX7_comes ∈ me_w := me_in4 170 rfl rfl
theorem wS_PlanFractionsModel_comes__Z_I : Cond.selects RX7 yX7_comes yX7_comes ∈ me_w := me_inS (q := (yX7_comes, 16)) 38 rfl rfl
theorem w834 : Cond.code yX7_value cX7_value 5 (some .int) ∈ me_w := me_in4 114 rfl rfl
theorem w908 : Cond.methodLink RX7 136 yX7_isValue ∈ me_w := me_in4 188 rfl rfl
theorem w910 : Cond.instanceMethod yX7_isValue ∈ me_w := me_in4 190 rfl rfl
theorem wS_PlanFractionsModel_isValue__I_Z : Cond.selects RX7 yX7_isValue yX7_isValue ∈ me_w := me_inS (q := (yX7_isValue, 16)) 42 rfl rfl
theorem w916 : Cond.methodLink RX7 139 yX7_sum ∈ me_w := me_in4 196 rfl rfl
theorem w918 : Cond.instanceMethod yX7_sum ∈ me_w := me_in4 198 rfl rfl
theorem wS_PlanFractionsModel_sum__IIZ_Z : Cond.selects RX7 yX7_sum yX7_sum ∈ me_w := me_inS (q := (yX7_sum, 16)) 44 rfl rfl
theorem w932 : Cond.methodLink RX7 143 yX7_product ∈ me_w := me_in4 212 rfl rfl
theorem w934 : Cond.instanceMethod yX7_product ∈ me_w := me_in4 214 rfl rfl
theorem wS_PlanFractionsModel_product__II_Z : Cond.selects RX7 yX7_product yX7_product ∈ me_w := me_inS (q := (yX7_product, 16)) 48 rfl rfl
theorem w936 : Cond.methodLink RX7 147 yX7_quotient ∈ me_w := me_in4 216 rfl rfl
theorem w938 : Cond.instanceMethod yX7_quotient ∈ me_w := me_in4 218 rfl rfl
theorem wS_PlanFractionsModel_quotient__II_Z : Cond.selects RX7 yX7_quotient yX7_quotient ∈ me_w := me_inS (q := (yX7_quotient, 16)) 49 rfl rfl
theorem w940 : Cond.methodLink RX7 150 yX7_left ∈ me_w := me_in4 220 rfl rfl
theorem w942 : Cond.instanceMethod yX7_left ∈ me_w := me_in4 222 rfl rfl
theorem wS_PlanFractionsModel_left__II_Z : Cond.selects RX7 yX7_left yX7_left ∈ me_w := me_inS (q := (yX7_left, 16)) 50 rfl rfl
theorem w944 : Cond.methodLink RX7 153 yX7_common ∈ me_w := me_in4 224 rfl rfl
theorem w946 : Cond.instanceMethod yX7_common ∈ me_w := me_in4 226 rfl rfl
theorem wS_PlanFractionsModel_common__II_Z : Cond.selects RX7 yX7_common yX7_common ∈ me_w := me_inS (q := (yX7_common, 16)) 51 rfl rfl
theorem w907 : Cond.code yX7_two cX7_two 4 (some .int) ∈ me_w := me_in4 187 rfl rfl
theorem w904 : Cond.methodLink RX7 156 yX7_two ∈ me_w := me_in4 184 rfl rfl
theorem w906 : Cond.instanceMethod yX7_two ∈ me_w := me_in4 186 rfl rfl
theorem wS_PlanFractionsModel_two__III_I : Cond.selects RX7 yX7_two yX7_two ∈ me_w := me_inS (q := (yX7_two, 16)) 41 rfl rfl
theorem w903 : Cond.code yX7_add cX7_add 3 (some .int) ∈ me_w := me_in4 183 rfl rfl
theorem w951 : Cond.code yX7_less cX7_less 3 (some .int) ∈ me_w := me_in4 231 rfl rfl
theorem w955 : Cond.code yX7_times cX7_times 3 (some .int) ∈ me_w := me_in4 235 rfl rfl
theorem w959 : Cond.code yX7_over cX7_over 3 (some .int) ∈ me_w := me_in4 239 rfl rfl
theorem w963 : Cond.code yX7_rest cX7_rest 3 (some .int) ∈ me_w := me_in5 3 rfl rfl
theorem w967 : Cond.code yX7_measure cX7_measure 3 (some .int) ∈ me_w := me_in5 7 rfl rfl
theorem w971 : Cond.code yX7_whole cX7_whole 6 (some .int) ∈ me_w := me_in5 11 rfl rfl
theorem w979 : Cond.code yX7_compareFractions cX7_compareFractions 3 (some .int) ∈ me_w := me_in5 19 rfl rfl
theorem w976 : Cond.methodLink RX7 159 yX7_compareFractions ∈ me_w := me_in5 16 rfl rfl
theorem w978 : Cond.instanceMethod yX7_compareFractions ∈ me_w := me_in5 18 rfl rfl
theorem wS_PlanFractionsModel_compareFractions__II_I : Cond.selects RX7 yX7_compareFractions yX7_compareFractions ∈ me_w := me_inS (q := (yX7_compareFractions, 16)) 52 rfl rfl
theorem w975 : Cond.code yX7_order cX7_order 3 (some .int) ∈ me_w := me_in5 15 rfl rfl
theorem w992 : Cond.constantLong RX7 164 (-9223372036854775808) ∈ me_w := me_in5 32 rfl rfl
theorem w991 : Cond.code yX7_isLong cX7_isLong 3 (some .boolean) ∈ me_w := me_in5 31 rfl rfl
theorem w988 : Cond.methodLink RX7 166 yX7_isLong ∈ me_w := me_in5 28 rfl rfl
theorem w990 : Cond.instanceMethod yX7_isLong ∈ me_w := me_in5 30 rfl rfl
theorem wS_PlanFractionsModel_isLong__II_Z : Cond.selects RX7 yX7_isLong yX7_isLong ∈ me_w := me_inS (q := (yX7_isLong, 16)) 54 rfl rfl
theorem w987 : Cond.code yX7_isSmall cX7_isSmall 2 (some .boolean) ∈ me_w := me_in5 27 rfl rfl
theorem w984 : Cond.methodLink RX7 169 yX7_isSmall ∈ me_w := me_in5 24 rfl rfl
theorem w986 : Cond.instanceMethod yX7_isSmall ∈ me_w := me_in5 26 rfl rfl
theorem wS_PlanFractionsModel_isSmall__I_Z : Cond.selects RX7 yX7_isSmall yX7_isSmall ∈ me_w := me_inS (q := (yX7_isSmall, 16)) 53 rfl rfl
theorem w983 : Cond.code yX7_of cX7_of 3 (some .int) ∈ me_w := me_in5 23 rfl rfl
theorem w996 : Cond.code yX7_part cX7_part 4 (some .long) ∈ me_w := me_in5 36 rfl rfl
theorem w1000 : Cond.code yX7_limb cX7_limb 5 (some .int) ∈ me_w := me_in5 40 rfl rfl
theorem w1008 : Cond.code yX7_fitting cX7_fitting 4 (some .long) ∈ me_w := me_in5 48 rfl rfl
theorem w1009 : Cond.constantLong RX7 172 (-1) ∈ me_w := me_in5 49 rfl rfl
theorem w1005 : Cond.methodLink RX7 174 yX7_fitting ∈ me_w := me_in5 45 rfl rfl
theorem w1007 : Cond.instanceMethod yX7_fitting ∈ me_w := me_in5 47 rfl rfl
theorem wS_PlanFractionsModel_fitting__ZJ_J : Cond.selects RX7 yX7_fitting yX7_fitting ∈ me_w := me_inS (q := (yX7_fitting, 16)) 55 rfl rfl
theorem w1013 : Cond.code yX7_quotients cX7_quotients 11 (some .long) ∈ me_w := me_in5 53 rfl rfl
theorem w1010 : Cond.methodLink RX7 178 yX7_quotients ∈ me_w := me_in5 50 rfl rfl
theorem w1012 : Cond.instanceMethod yX7_quotients ∈ me_w := me_in5 52 rfl rfl
theorem wS_PlanFractionsModel_quotients__IJJ_J : Cond.selects RX7 yX7_quotients yX7_quotients ∈ me_w := me_inS (q := (yX7_quotients, 16)) 56 rfl rfl
theorem w1004 : Cond.code yX7_exact cX7_exact 8 (some .long) ∈ me_w := me_in5 44 rfl rfl
theorem w1018 : Cond.methodLink RX7 182 yX7_place ∈ me_w := me_in5 58 rfl rfl
theorem w1019 : Cond.static yX7_place ∈ me_w := me_in5 59 rfl rfl
theorem w1017 : Cond.code yX7_row cX7_row 4 (some .int) ∈ me_w := me_in5 57 rfl rfl
theorem w1025 : Cond.methodLink RX7 185 yX7_isPlace ∈ me_w := me_in5 65 rfl rfl
theorem w1027 : Cond.instanceMethod yX7_isPlace ∈ me_w := me_in5 67 rfl rfl
theorem wS_PlanFractionsModel_isPlace__II_Z : Cond.selects RX7 yX7_isPlace yX7_isPlace ∈ me_w := me_inS (q := (yX7_isPlace, 16)) 57 rfl rfl
theorem w1033 : Cond.methodLink RX7 188 yX7_same ∈ me_w := me_in5 73 rfl rfl
theorem w1035 : Cond.instanceMethod yX7_same ∈ me_w := me_in5 75 rfl rfl
theorem wS_PlanFractionsModel_same__II_V : Cond.selects RX7 yX7_same yX7_same ∈ me_w := me_inS (q := (yX7_same, 16)) 59 rfl rfl
theorem w1024 : Cond.code yX7_put_ cX7_put_ 4 (some .int) ∈ me_w := me_in5 64 rfl rfl
theorem w1040 : Cond.code yX7_take cX7_take 3 (some .int) ∈ me_w := me_in5 80 rfl rfl
theorem w1048 : Cond.code yX7_areAlong cX7_areAlong 3 (some .boolean) ∈ me_w := me_in5 88 rfl rfl
theorem w1045 : Cond.methodLink RX7 191 yX7_areAlong ∈ me_w := me_in5 85 rfl rfl
theorem w1047 : Cond.instanceMethod yX7_areAlong ∈ me_w := me_in5 87 rfl rfl
theorem wS_PlanFractionsModel_areAlong__II_Z : Cond.selects RX7 yX7_areAlong yX7_areAlong ∈ me_w := me_inS (q := (yX7_areAlong, 16)) 60 rfl rfl
theorem w1049 : Cond.methodLink RX7 194 yX7_move ∈ me_w := me_in5 89 rfl rfl
theorem w1051 : Cond.instanceMethod yX7_move ∈ me_w := me_in5 91 rfl rfl
theorem wS_PlanFractionsModel_move__II_V : Cond.selects RX7 yX7_move yX7_move ∈ me_w := me_inS (q := (yX7_move, 16)) 61 rfl rfl
theorem w1044 : Cond.code yX7_dot cX7_dot 5 (some .int) ∈ me_w := me_in5 84 rfl rfl
theorem w1060 : Cond.code yX7_becomes cX7_becomes 4 (some .int) ∈ me_w := me_in5 100 rfl rfl
theorem w1057 : Cond.methodLink RX7 197 yX7_becomes ∈ me_w := me_in5 97 rfl rfl
theorem w1059 : Cond.instanceMethod yX7_becomes ∈ me_w := me_in5 99 rfl rfl
theorem wS_PlanFractionsModel_becomes__IZ_I : Cond.selects RX7 yX7_becomes yX7_becomes ∈ me_w := me_inS (q := (yX7_becomes, 16)) 62 rfl rfl
theorem w1056 : Cond.code yX7_scale cX7_scale 5 (some .int) ∈ me_w := me_in5 96 rfl rfl
theorem w1064 : Cond.code yX7_eliminate cX7_eliminate 6 (some .int) ∈ me_w := me_in5 104 rfl rfl
theorem w1068 : Cond.code yX7_primitive cX7_primitive 4 (some .int) ∈ me_w := me_in5 108 rfl rfl
theorem w1076 : Cond.code yX7_leads cX7_leads 3 (some .int) ∈ me_w := me_in5 116 rfl rfl
theorem w1073 : Cond.methodLink RX7 201 yX7_leads ∈ me_w := me_in5 113 rfl rfl
theorem w1075 : Cond.instanceMethod yX7_leads ∈ me_w := me_in5 115 rfl rfl
theorem wS_PlanFractionsModel_leads__I_I : Cond.selects RX7 yX7_leads yX7_leads ∈ me_w := me_inS (q := (yX7_leads, 16)) 63 rfl rfl
theorem w1072 : Cond.code yX7_lead cX7_lead 2 (some .int) ∈ me_w := me_in5 112 rfl rfl
theorem w1084 : Cond.code yX7_areAcross cX7_areAcross 6 (some .boolean) ∈ me_w := me_in5 124 rfl rfl
theorem w1081 : Cond.methodLink RX7 204 yX7_areAcross ∈ me_w := me_in5 121 rfl rfl
theorem w1083 : Cond.instanceMethod yX7_areAcross ∈ me_w := me_in5 123 rfl rfl
theorem wS_PlanFractionsModel_areAcross__IIII_Z : Cond.selects RX7 yX7_areAcross yX7_areAcross ∈ me_w := me_inS (q := (yX7_areAcross, 16)) 64 rfl rfl
theorem w1080 : Cond.code yX7_alike cX7_alike 7 (some .int) ∈ me_w := me_in5 120 rfl rfl
theorem w792 : Cond.fieldLink RX7 208 (TX7 14).1 (TX7 14).2.1 (TX7 14).2.2.1 ∈ me_w := me_in4 72 rfl rfl
theorem w1093 : Cond.code yX7_say cX7_say 2 none ∈ me_w := me_in5 133 rfl rfl
theorem w1097 : Cond.code yX7_tenth cX7_tenth 4 (some .int) ∈ me_w := me_in5 137 rfl rfl
theorem w1089 : Cond.constantLong RX7 211 (10) ∈ me_w := me_in5 129 rfl rfl
theorem w1090 : Cond.methodLink RX7 213 yX7_say ∈ me_w := me_in5 130 rfl rfl
theorem w1092 : Cond.instanceMethod yX7_say ∈ me_w := me_in5 132 rfl rfl
theorem wS_PlanFractionsModel_say__I_V : Cond.selects RX7 yX7_say yX7_say ∈ me_w := me_inS (q := (yX7_say, 16)) 65 rfl rfl
theorem w1094 : Cond.methodLink RX7 217 yX7_tenth ∈ me_w := me_in5 134 rfl rfl
theorem w1096 : Cond.instanceMethod yX7_tenth ∈ me_w := me_in5 136 rfl rfl
theorem wS_PlanFractionsModel_tenth___I : Cond.selects RX7 yX7_tenth yX7_tenth ∈ me_w := me_inS (q := (yX7_tenth, 16)) 66 rfl rfl
theorem w1088 : Cond.code yX7_decimal cX7_decimal 6 (some .int) ∈ me_w := me_in5 128 rfl rfl
theorem w1101 : Cond.code yX7_letter cX7_letter 2 (some .int) ∈ me_w := me_in5 141 rfl rfl
theorem w1105 : Cond.code yX7_count cX7_count 6 (some .int) ∈ me_w := me_in5 145 rfl rfl
theorem w1109 : Cond.code yX7_clear cX7_clear 2 (some .int) ∈ me_w := me_in5 149 rfl rfl
