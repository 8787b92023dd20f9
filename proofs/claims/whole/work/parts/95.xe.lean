theorem dL_value_0 : decode cL_value 0 = .ok (.aload 5, 2) := by decide +kernel
theorem dL_value_2 : decode cL_value 2 = .ok (.iconst 0, 1) := by decide +kernel
theorem dL_value_3 : decode cL_value 3 = .ok (.aload_n 0, 1) := by decide +kernel
theorem dL_value_4 : decode cL_value 4 = .ok (.lload_n 1, 1) := by decide +kernel
theorem dL_value_5 : decode cL_value 5 = .ok (.lload_n 3, 1) := by decide +kernel
theorem dL_value_6 : decode cL_value 6 = .ok (.invokevirtual 7, 3) := by decide +kernel
theorem dL_value_9 : decode cL_value 9 = .ok (.i2l, 1) := by decide +kernel
theorem dL_value_10 : decode cL_value 10 = .ok (.lastore, 1) := by decide +kernel
theorem dL_value_11 : decode cL_value 11 = .ok (.goto 7, 3) := by decide +kernel
theorem dL_value_14 : decode cL_value 14 = .ok (.astore 6, 2) := by decide +kernel
theorem dL_value_16 : decode cL_value 16 = .ok (.iconst 1, 1) := by decide +kernel
theorem dL_value_17 : decode cL_value 17 = .ok (.ireturn, 1) := by decide +kernel
theorem dL_value_18 : decode cL_value 18 = .ok (.iconst 0, 1) := by decide +kernel
theorem dL_value_19 : decode cL_value 19 = .ok (.ireturn, 1) := by decide +kernel
theorem dL_over_0 : decode cL_over 0 = .ok (.aload_n 3, 1) := by decide +kernel
theorem dL_over_1 : decode cL_over 1 = .ok (.iconst 0, 1) := by decide +kernel
theorem dL_over_2 : decode cL_over 2 = .ok (.aload_n 0, 1) := by decide +kernel
theorem dL_over_3 : decode cL_over 3 = .ok (.iload_n 1, 1) := by decide +kernel
theorem dL_over_4 : decode cL_over 4 = .ok (.iload_n 2, 1) := by decide +kernel
theorem dL_over_5 : decode cL_over 5 = .ok (.invokevirtual 15, 3) := by decide +kernel
theorem dL_over_8 : decode cL_over 8 = .ok (.i2l, 1) := by decide +kernel
theorem dL_over_9 : decode cL_over 9 = .ok (.lastore, 1) := by decide +kernel
theorem dL_over_10 : decode cL_over 10 = .ok (.goto 7, 3) := by decide +kernel
theorem dL_over_13 : decode cL_over 13 = .ok (.astore 4, 2) := by decide +kernel
theorem dL_over_15 : decode cL_over 15 = .ok (.iconst 1, 1) := by decide +kernel
theorem dL_over_16 : decode cL_over 16 = .ok (.ireturn, 1) := by decide +kernel
theorem dL_over_17 : decode cL_over 17 = .ok (.iconst 0, 1) := by decide +kernel
theorem dL_over_18 : decode cL_over 18 = .ok (.ireturn, 1) := by decide +kernel
theorem dL_rest_0 : decode cL_rest 0 = .ok (.aload_n 3, 1) := by decide +kernel
theorem dL_rest_1 : decode cL_rest 1 = .ok (.iconst 0, 1) := by decide +kernel
theorem dL_rest_2 : decode cL_rest 2 = .ok (.aload_n 0, 1) := by decide +kernel
theorem dL_rest_3 : decode cL_rest 3 = .ok (.iload_n 1, 1) := by decide +kernel
theorem dL_rest_4 : decode cL_rest 4 = .ok (.iload_n 2, 1) := by decide +kernel
theorem dL_rest_5 : decode cL_rest 5 = .ok (.invokevirtual 19, 3) := by decide +kernel
theorem dL_rest_8 : decode cL_rest 8 = .ok (.i2l, 1) := by decide +kernel
theorem dL_rest_9 : decode cL_rest 9 = .ok (.lastore, 1) := by decide +kernel
theorem dL_rest_10 : decode cL_rest 10 = .ok (.goto 7, 3) := by decide +kernel
theorem dL_rest_13 : decode cL_rest 13 = .ok (.astore 4, 2) := by decide +kernel
theorem dL_rest_15 : decode cL_rest 15 = .ok (.iconst 1, 1) := by decide +kernel
theorem dL_rest_16 : decode cL_rest 16 = .ok (.ireturn, 1) := by decide +kernel
theorem dL_rest_17 : decode cL_rest 17 = .ok (.iconst 0, 1) := by decide +kernel
theorem dL_rest_18 : decode cL_rest 18 = .ok (.ireturn, 1) := by decide +kernel
theorem dL_part_0 : decode cL_part 0 = .ok (.aload_n 3, 1) := by decide +kernel
theorem dL_part_1 : decode cL_part 1 = .ok (.iconst 0, 1) := by decide +kernel
theorem dL_part_2 : decode cL_part 2 = .ok (.aload_n 0, 1) := by decide +kernel
theorem dL_part_3 : decode cL_part 3 = .ok (.iload_n 1, 1) := by decide +kernel
theorem dL_part_4 : decode cL_part 4 = .ok (.iload_n 2, 1) := by decide +kernel
theorem dL_part_5 : decode cL_part 5 = .ok (.invokevirtual 22, 3) := by decide +kernel
theorem dL_part_8 : decode cL_part 8 = .ok (.lastore, 1) := by decide +kernel
theorem dL_part_9 : decode cL_part 9 = .ok (.goto 11, 3) := by decide +kernel
theorem dL_part_12 : decode cL_part 12 = .ok (.astore 4, 2) := by decide +kernel
theorem dL_part_14 : decode cL_part 14 = .ok (.iconst 1, 1) := by decide +kernel
theorem dL_part_15 : decode cL_part 15 = .ok (.ireturn, 1) := by decide +kernel
theorem dL_part_16 : decode cL_part 16 = .ok (.astore 4, 2) := by decide +kernel
theorem dL_part_18 : decode cL_part 18 = .ok (.iconst 2, 1) := by decide +kernel
theorem dL_part_19 : decode cL_part 19 = .ok (.ireturn, 1) := by decide +kernel
theorem dL_part_20 : decode cL_part 20 = .ok (.iconst 0, 1) := by decide +kernel
theorem dL_part_21 : decode cL_part 21 = .ok (.ireturn, 1) := by decide +kernel
theorem dL_limb_0 : decode cL_limb 0 = .ok (.aload 4, 2) := by decide +kernel
theorem dL_limb_2 : decode cL_limb 2 = .ok (.iconst 0, 1) := by decide +kernel
theorem dL_limb_3 : decode cL_limb 3 = .ok (.aload_n 0, 1) := by decide +kernel
theorem dL_limb_4 : decode cL_limb 4 = .ok (.iload_n 1, 1) := by decide +kernel
theorem dL_limb_5 : decode cL_limb 5 = .ok (.iload_n 2, 1) := by decide +kernel
theorem dL_limb_6 : decode cL_limb 6 = .ok (.iload_n 3, 1) := by decide +kernel
theorem dL_limb_7 : decode cL_limb 7 = .ok (.invokevirtual 28, 3) := by decide +kernel
theorem dL_limb_10 : decode cL_limb 10 = .ok (.i2l, 1) := by decide +kernel
theorem dL_limb_11 : decode cL_limb 11 = .ok (.lastore, 1) := by decide +kernel
theorem dL_limb_12 : decode cL_limb 12 = .ok (.goto 11, 3) := by decide +kernel
theorem dL_limb_15 : decode cL_limb 15 = .ok (.astore 5, 2) := by decide +kernel
theorem dL_limb_17 : decode cL_limb 17 = .ok (.iconst 1, 1) := by decide +kernel
theorem dL_limb_18 : decode cL_limb 18 = .ok (.ireturn, 1) := by decide +kernel
theorem dL_limb_19 : decode cL_limb 19 = .ok (.astore 5, 2) := by decide +kernel
theorem dL_limb_21 : decode cL_limb 21 = .ok (.iconst 2, 1) := by decide +kernel
theorem dL_limb_22 : decode cL_limb 22 = .ok (.ireturn, 1) := by decide +kernel
theorem dL_limb_23 : decode cL_limb 23 = .ok (.iconst 0, 1) := by decide +kernel
theorem dL_limb_24 : decode cL_limb 24 = .ok (.ireturn, 1) := by decide +kernel
theorem dL_exact_0 : decode cL_exact 0 = .ok (.aload 6, 2) := by decide +kernel
theorem dL_exact_2 : decode cL_exact 2 = .ok (.iconst 0, 1) := by decide +kernel
theorem dL_exact_3 : decode cL_exact 3 = .ok (.aload_n 0, 1) := by decide +kernel
theorem dL_exact_4 : decode cL_exact 4 = .ok (.iload_n 1, 1) := by decide +kernel
theorem dL_exact_5 : decode cL_exact 5 = .ok (.lload_n 2, 1) := by decide +kernel
theorem dL_exact_6 : decode cL_exact 6 = .ok (.lload 4, 2) := by decide +kernel
theorem dL_exact_8 : decode cL_exact 8 = .ok (.invokevirtual 34, 3) := by decide +kernel
theorem dL_exact_11 : decode cL_exact 11 = .ok (.lastore, 1) := by decide +kernel
theorem dL_exact_12 : decode cL_exact 12 = .ok (.goto 11, 3) := by decide +kernel
theorem dL_exact_15 : decode cL_exact 15 = .ok (.astore 7, 2) := by decide +kernel
theorem dL_exact_17 : decode cL_exact 17 = .ok (.iconst 1, 1) := by decide +kernel
theorem dL_exact_18 : decode cL_exact 18 = .ok (.ireturn, 1) := by decide +kernel
theorem dL_exact_19 : decode cL_exact 19 = .ok (.astore 7, 2) := by decide +kernel
theorem dL_exact_21 : decode cL_exact 21 = .ok (.iconst 2, 1) := by decide +kernel
theorem dL_exact_22 : decode cL_exact 22 = .ok (.ireturn, 1) := by decide +kernel
theorem dL_exact_23 : decode cL_exact 23 = .ok (.iconst 0, 1) := by decide +kernel
theorem dL_exact_24 : decode cL_exact 24 = .ok (.ireturn, 1) := by decide +kernel
