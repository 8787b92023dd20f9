theorem dX6_init_0 : decode cX6_init 0 = .ok (.aload_n 0, 1) := by decide +kernel
theorem dX6_init_1 : decode cX6_init 1 = .ok (.invokespecial 1, 3) := by decide +kernel
theorem dX6_init_4 : decode cX6_init 4 = .ok (.aload_n 0, 1) := by decide +kernel
theorem dX6_init_5 : decode cX6_init 5 = .ok (.new 7, 3) := by decide +kernel
theorem dX6_init_8 : decode cX6_init 8 = .ok (.dup, 1) := by decide +kernel
theorem dX6_init_9 : decode cX6_init 9 = .ok (.invokespecial 9, 3) := by decide +kernel
theorem dX6_init_12 : decode cX6_init 12 = .ok (.putfield 10, 3) := by decide +kernel
theorem dX6_init_15 : decode cX6_init 15 = .ok (.aload_n 0, 1) := by decide +kernel
theorem dX6_init_16 : decode cX6_init 16 = .ok (.new 16, 3) := by decide +kernel
theorem dX6_init_19 : decode cX6_init 19 = .ok (.dup, 1) := by decide +kernel
theorem dX6_init_20 : decode cX6_init 20 = .ok (.invokespecial 18, 3) := by decide +kernel
theorem dX6_init_23 : decode cX6_init 23 = .ok (.putfield 19, 3) := by decide +kernel
theorem dX6_init_26 : decode cX6_init 26 = .ok (.aload_n 0, 1) := by decide +kernel
theorem dX6_init_27 : decode cX6_init 27 = .ok (.sipush 240, 3) := by decide +kernel
theorem dX6_init_30 : decode cX6_init 30 = .ok (.anewarray 23, 3) := by decide +kernel
theorem dX6_init_33 : decode cX6_init 33 = .ok (.putfield 25, 3) := by decide +kernel
theorem dX6_init_36 : decode cX6_init 36 = .ok (.aload_n 0, 1) := by decide +kernel
theorem dX6_init_37 : decode cX6_init 37 = .ok (.bipush 20, 2) := by decide +kernel
theorem dX6_init_39 : decode cX6_init 39 = .ok (.anewarray 29, 3) := by decide +kernel
theorem dX6_init_42 : decode cX6_init 42 = .ok (.putfield 31, 3) := by decide +kernel
theorem dX6_init_45 : decode cX6_init 45 = .ok (.aload_n 0, 1) := by decide +kernel
theorem dX6_init_46 : decode cX6_init 46 = .ok (.bipush 10, 2) := by decide +kernel
theorem dX6_init_48 : decode cX6_init 48 = .ok (.anewarray 23, 3) := by decide +kernel
theorem dX6_init_51 : decode cX6_init 51 = .ok (.putfield 35, 3) := by decide +kernel
theorem dX6_init_54 : decode cX6_init 54 = .ok (.return_, 1) := by decide +kernel
theorem dX6_value_0 : decode cX6_value 0 = .ok (.lload_n 3, 1) := by decide +kernel
theorem dX6_value_1 : decode cX6_value 1 = .ok (.lconst 0, 1) := by decide +kernel
theorem dX6_value_2 : decode cX6_value 2 = .ok (.lcmp, 1) := by decide +kernel
theorem dX6_value_3 : decode cX6_value 3 = .ok (.ifCond .ne 13, 3) := by decide +kernel
theorem dX6_value_6 : decode cX6_value 6 = .ok (.new 38, 3) := by decide +kernel
theorem dX6_value_9 : decode cX6_value 9 = .ok (.dup, 1) := by decide +kernel
theorem dX6_value_10 : decode cX6_value 10 = .ok (.ldc 40, 2) := by decide +kernel
theorem dX6_value_12 : decode cX6_value 12 = .ok (.invokespecial 42, 3) := by decide +kernel
theorem dX6_value_15 : decode cX6_value 15 = .ok (.athrow, 1) := by decide +kernel
theorem dX6_value_16 : decode cX6_value 16 = .ok (.aload_n 0, 1) := by decide +kernel
theorem dX6_value_17 : decode cX6_value 17 = .ok (.invokevirtual 45, 3) := by decide +kernel
theorem dX6_value_20 : decode cX6_value 20 = .ok (.ifCond .eq 6, 3) := by decide +kernel
theorem dX6_value_23 : decode cX6_value 23 = .ok (.bipush (-3), 2) := by decide +kernel
theorem dX6_value_25 : decode cX6_value 25 = .ok (.ireturn, 1) := by decide +kernel
theorem dX6_value_26 : decode cX6_value 26 = .ok (.aload_n 0, 1) := by decide +kernel
theorem dX6_value_27 : decode cX6_value 27 = .ok (.aload_n 0, 1) := by decide +kernel
theorem dX6_value_28 : decode cX6_value 28 = .ok (.getfield 10, 3) := by decide +kernel
theorem dX6_value_31 : decode cX6_value 31 = .ok (.lload_n 1, 1) := by decide +kernel
theorem dX6_value_32 : decode cX6_value 32 = .ok (.lload_n 3, 1) := by decide +kernel
theorem dX6_value_33 : decode cX6_value 33 = .ok (.invokevirtual 49, 3) := by decide +kernel
theorem dX6_value_36 : decode cX6_value 36 = .ok (.invokevirtual 53, 3) := by decide +kernel
theorem dX6_value_39 : decode cX6_value 39 = .ok (.ireturn, 1) := by decide +kernel
theorem dX6_add_0 : decode cX6_add 0 = .ok (.aload_n 0, 1) := by decide +kernel
theorem dX6_add_1 : decode cX6_add 1 = .ok (.iload_n 1, 1) := by decide +kernel
theorem dX6_add_2 : decode cX6_add 2 = .ok (.invokevirtual 57, 3) := by decide +kernel
theorem dX6_add_5 : decode cX6_add 5 = .ok (.ifCond .eq 11, 3) := by decide +kernel
theorem dX6_add_8 : decode cX6_add 8 = .ok (.aload_n 0, 1) := by decide +kernel
theorem dX6_add_9 : decode cX6_add 9 = .ok (.iload_n 2, 1) := by decide +kernel
theorem dX6_add_10 : decode cX6_add 10 = .ok (.invokevirtual 57, 3) := by decide +kernel
theorem dX6_add_13 : decode cX6_add 13 = .ok (.ifCond .ne 6, 3) := by decide +kernel
theorem dX6_add_16 : decode cX6_add 16 = .ok (.bipush (-2), 2) := by decide +kernel
theorem dX6_add_18 : decode cX6_add 18 = .ok (.ireturn, 1) := by decide +kernel
theorem dX6_add_19 : decode cX6_add 19 = .ok (.aload_n 0, 1) := by decide +kernel
theorem dX6_add_20 : decode cX6_add 20 = .ok (.invokevirtual 45, 3) := by decide +kernel
theorem dX6_add_23 : decode cX6_add 23 = .ok (.ifCond .eq 6, 3) := by decide +kernel
theorem dX6_add_26 : decode cX6_add 26 = .ok (.bipush (-3), 2) := by decide +kernel
theorem dX6_add_28 : decode cX6_add 28 = .ok (.ireturn, 1) := by decide +kernel
theorem dX6_add_29 : decode cX6_add 29 = .ok (.aload_n 0, 1) := by decide +kernel
theorem dX6_add_30 : decode cX6_add 30 = .ok (.aload_n 0, 1) := by decide +kernel
theorem dX6_add_31 : decode cX6_add 31 = .ok (.getfield 10, 3) := by decide +kernel
theorem dX6_add_34 : decode cX6_add 34 = .ok (.aload_n 0, 1) := by decide +kernel
theorem dX6_add_35 : decode cX6_add 35 = .ok (.getfield 25, 3) := by decide +kernel
theorem dX6_add_38 : decode cX6_add 38 = .ok (.iload_n 1, 1) := by decide +kernel
theorem dX6_add_39 : decode cX6_add 39 = .ok (.aaload, 1) := by decide +kernel
theorem dX6_add_40 : decode cX6_add 40 = .ok (.aload_n 0, 1) := by decide +kernel
theorem dX6_add_41 : decode cX6_add 41 = .ok (.getfield 25, 3) := by decide +kernel
theorem dX6_add_44 : decode cX6_add 44 = .ok (.iload_n 2, 1) := by decide +kernel
theorem dX6_add_45 : decode cX6_add 45 = .ok (.aaload, 1) := by decide +kernel
theorem dX6_add_46 : decode cX6_add 46 = .ok (.aload_n 0, 1) := by decide +kernel
theorem dX6_add_47 : decode cX6_add 47 = .ok (.getfield 25, 3) := by decide +kernel
theorem dX6_add_50 : decode cX6_add 50 = .ok (.iload_n 2, 1) := by decide +kernel
theorem dX6_add_51 : decode cX6_add 51 = .ok (.aaload, 1) := by decide +kernel
theorem dX6_add_52 : decode cX6_add 52 = .ok (.getfield 61, 3) := by decide +kernel
theorem dX6_add_55 : decode cX6_add 55 = .ok (.invokevirtual 65, 3) := by decide +kernel
theorem dX6_add_58 : decode cX6_add 58 = .ok (.invokevirtual 53, 3) := by decide +kernel
theorem dX6_add_61 : decode cX6_add 61 = .ok (.ireturn, 1) := by decide +kernel
theorem dX6_less_0 : decode cX6_less 0 = .ok (.aload_n 0, 1) := by decide +kernel
theorem dX6_less_1 : decode cX6_less 1 = .ok (.iload_n 1, 1) := by decide +kernel
theorem dX6_less_2 : decode cX6_less 2 = .ok (.invokevirtual 57, 3) := by decide +kernel
theorem dX6_less_5 : decode cX6_less 5 = .ok (.ifCond .eq 11, 3) := by decide +kernel
theorem dX6_less_8 : decode cX6_less 8 = .ok (.aload_n 0, 1) := by decide +kernel
theorem dX6_less_9 : decode cX6_less 9 = .ok (.iload_n 2, 1) := by decide +kernel
theorem dX6_less_10 : decode cX6_less 10 = .ok (.invokevirtual 57, 3) := by decide +kernel
theorem dX6_less_13 : decode cX6_less 13 = .ok (.ifCond .ne 6, 3) := by decide +kernel
theorem dX6_less_16 : decode cX6_less 16 = .ok (.bipush (-2), 2) := by decide +kernel
theorem dX6_less_18 : decode cX6_less 18 = .ok (.ireturn, 1) := by decide +kernel
theorem dX6_less_19 : decode cX6_less 19 = .ok (.aload_n 0, 1) := by decide +kernel
theorem dX6_less_20 : decode cX6_less 20 = .ok (.invokevirtual 45, 3) := by decide +kernel
theorem dX6_less_23 : decode cX6_less 23 = .ok (.ifCond .eq 6, 3) := by decide +kernel
theorem dX6_less_26 : decode cX6_less 26 = .ok (.bipush (-3), 2) := by decide +kernel
theorem dX6_less_28 : decode cX6_less 28 = .ok (.ireturn, 1) := by decide +kernel
theorem dX6_less_29 : decode cX6_less 29 = .ok (.aload_n 0, 1) := by decide +kernel
theorem dX6_less_30 : decode cX6_less 30 = .ok (.aload_n 0, 1) := by decide +kernel
theorem dX6_less_31 : decode cX6_less 31 = .ok (.getfield 10, 3) := by decide +kernel
theorem dX6_less_34 : decode cX6_less 34 = .ok (.aload_n 0, 1) := by decide +kernel
theorem dX6_less_35 : decode cX6_less 35 = .ok (.getfield 25, 3) := by decide +kernel
theorem dX6_less_38 : decode cX6_less 38 = .ok (.iload_n 1, 1) := by decide +kernel
theorem dX6_less_39 : decode cX6_less 39 = .ok (.aaload, 1) := by decide +kernel
theorem dX6_less_40 : decode cX6_less 40 = .ok (.aload_n 0, 1) := by decide +kernel
theorem dX6_less_41 : decode cX6_less 41 = .ok (.getfield 25, 3) := by decide +kernel
theorem dX6_less_44 : decode cX6_less 44 = .ok (.iload_n 2, 1) := by decide +kernel
theorem dX6_less_45 : decode cX6_less 45 = .ok (.aaload, 1) := by decide +kernel
theorem dX6_less_46 : decode cX6_less 46 = .ok (.aload_n 0, 1) := by decide +kernel
theorem dX6_less_47 : decode cX6_less 47 = .ok (.getfield 25, 3) := by decide +kernel
theorem dX6_less_50 : decode cX6_less 50 = .ok (.iload_n 2, 1) := by decide +kernel
theorem dX6_less_51 : decode cX6_less 51 = .ok (.aaload, 1) := by decide +kernel
theorem dX6_less_52 : decode cX6_less 52 = .ok (.getfield 61, 3) := by decide +kernel
theorem dX6_less_55 : decode cX6_less 55 = .ok (.ineg, 1) := by decide +kernel
theorem dX6_less_56 : decode cX6_less 56 = .ok (.invokevirtual 65, 3) := by decide +kernel
theorem dX6_less_59 : decode cX6_less 59 = .ok (.invokevirtual 53, 3) := by decide +kernel
theorem dX6_less_62 : decode cX6_less 62 = .ok (.ireturn, 1) := by decide +kernel
theorem dX6_times_0 : decode cX6_times 0 = .ok (.aload_n 0, 1) := by decide +kernel
theorem dX6_times_1 : decode cX6_times 1 = .ok (.iload_n 1, 1) := by decide +kernel
theorem dX6_times_2 : decode cX6_times 2 = .ok (.invokevirtual 57, 3) := by decide +kernel
theorem dX6_times_5 : decode cX6_times 5 = .ok (.ifCond .eq 11, 3) := by decide +kernel
theorem dX6_times_8 : decode cX6_times 8 = .ok (.aload_n 0, 1) := by decide +kernel
theorem dX6_times_9 : decode cX6_times 9 = .ok (.iload_n 2, 1) := by decide +kernel
theorem dX6_times_10 : decode cX6_times 10 = .ok (.invokevirtual 57, 3) := by decide +kernel
theorem dX6_times_13 : decode cX6_times 13 = .ok (.ifCond .ne 6, 3) := by decide +kernel
theorem dX6_times_16 : decode cX6_times 16 = .ok (.bipush (-2), 2) := by decide +kernel
theorem dX6_times_18 : decode cX6_times 18 = .ok (.ireturn, 1) := by decide +kernel
theorem dX6_times_19 : decode cX6_times 19 = .ok (.aload_n 0, 1) := by decide +kernel
theorem dX6_times_20 : decode cX6_times 20 = .ok (.invokevirtual 45, 3) := by decide +kernel
theorem dX6_times_23 : decode cX6_times 23 = .ok (.ifCond .eq 6, 3) := by decide +kernel
theorem dX6_times_26 : decode cX6_times 26 = .ok (.bipush (-3), 2) := by decide +kernel
theorem dX6_times_28 : decode cX6_times 28 = .ok (.ireturn, 1) := by decide +kernel
theorem dX6_times_29 : decode cX6_times 29 = .ok (.aload_n 0, 1) := by decide +kernel
theorem dX6_times_30 : decode cX6_times 30 = .ok (.aload_n 0, 1) := by decide +kernel
theorem dX6_times_31 : decode cX6_times 31 = .ok (.getfield 10, 3) := by decide +kernel
theorem dX6_times_34 : decode cX6_times 34 = .ok (.aload_n 0, 1) := by decide +kernel
theorem dX6_times_35 : decode cX6_times 35 = .ok (.getfield 25, 3) := by decide +kernel
theorem dX6_times_38 : decode cX6_times 38 = .ok (.iload_n 1, 1) := by decide +kernel
theorem dX6_times_39 : decode cX6_times 39 = .ok (.aaload, 1) := by decide +kernel
theorem dX6_times_40 : decode cX6_times 40 = .ok (.aload_n 0, 1) := by decide +kernel
theorem dX6_times_41 : decode cX6_times 41 = .ok (.getfield 25, 3) := by decide +kernel
theorem dX6_times_44 : decode cX6_times 44 = .ok (.iload_n 2, 1) := by decide +kernel
theorem dX6_times_45 : decode cX6_times 45 = .ok (.aaload, 1) := by decide +kernel
theorem dX6_times_46 : decode cX6_times 46 = .ok (.invokevirtual 69, 3) := by decide +kernel
theorem dX6_times_49 : decode cX6_times 49 = .ok (.invokevirtual 53, 3) := by decide +kernel
theorem dX6_times_52 : decode cX6_times 52 = .ok (.ireturn, 1) := by decide +kernel
theorem dX6_over_0 : decode cX6_over 0 = .ok (.aload_n 0, 1) := by decide +kernel
theorem dX6_over_1 : decode cX6_over 1 = .ok (.iload_n 1, 1) := by decide +kernel
theorem dX6_over_2 : decode cX6_over 2 = .ok (.invokevirtual 57, 3) := by decide +kernel
theorem dX6_over_5 : decode cX6_over 5 = .ok (.ifCond .eq 11, 3) := by decide +kernel
theorem dX6_over_8 : decode cX6_over 8 = .ok (.aload_n 0, 1) := by decide +kernel
theorem dX6_over_9 : decode cX6_over 9 = .ok (.iload_n 2, 1) := by decide +kernel
theorem dX6_over_10 : decode cX6_over 10 = .ok (.invokevirtual 57, 3) := by decide +kernel
theorem dX6_over_13 : decode cX6_over 13 = .ok (.ifCond .ne 6, 3) := by decide +kernel
theorem dX6_over_16 : decode cX6_over 16 = .ok (.bipush (-2), 2) := by decide +kernel
theorem dX6_over_18 : decode cX6_over 18 = .ok (.ireturn, 1) := by decide +kernel
theorem dX6_over_19 : decode cX6_over 19 = .ok (.aload_n 0, 1) := by decide +kernel
theorem dX6_over_20 : decode cX6_over 20 = .ok (.getfield 25, 3) := by decide +kernel
theorem dX6_over_23 : decode cX6_over 23 = .ok (.iload_n 2, 1) := by decide +kernel
theorem dX6_over_24 : decode cX6_over 24 = .ok (.aaload, 1) := by decide +kernel
theorem dX6_over_25 : decode cX6_over 25 = .ok (.getfield 61, 3) := by decide +kernel
theorem dX6_over_28 : decode cX6_over 28 = .ok (.ifCond .ne 13, 3) := by decide +kernel
theorem dX6_over_31 : decode cX6_over 31 = .ok (.new 38, 3) := by decide +kernel
theorem dX6_over_34 : decode cX6_over 34 = .ok (.dup, 1) := by decide +kernel
theorem dX6_over_35 : decode cX6_over 35 = .ok (.ldc 73, 2) := by decide +kernel
theorem dX6_over_37 : decode cX6_over 37 = .ok (.invokespecial 42, 3) := by decide +kernel
theorem dX6_over_40 : decode cX6_over 40 = .ok (.athrow, 1) := by decide +kernel
theorem dX6_over_41 : decode cX6_over 41 = .ok (.aload_n 0, 1) := by decide +kernel
theorem dX6_over_42 : decode cX6_over 42 = .ok (.invokevirtual 45, 3) := by decide +kernel
theorem dX6_over_45 : decode cX6_over 45 = .ok (.ifCond .eq 6, 3) := by decide +kernel
theorem dX6_over_48 : decode cX6_over 48 = .ok (.bipush (-3), 2) := by decide +kernel
theorem dX6_over_50 : decode cX6_over 50 = .ok (.ireturn, 1) := by decide +kernel
theorem dX6_over_51 : decode cX6_over 51 = .ok (.aload_n 0, 1) := by decide +kernel
theorem dX6_over_52 : decode cX6_over 52 = .ok (.aload_n 0, 1) := by decide +kernel
theorem dX6_over_53 : decode cX6_over 53 = .ok (.getfield 10, 3) := by decide +kernel
theorem dX6_over_56 : decode cX6_over 56 = .ok (.aload_n 0, 1) := by decide +kernel
theorem dX6_over_57 : decode cX6_over 57 = .ok (.getfield 25, 3) := by decide +kernel
theorem dX6_over_60 : decode cX6_over 60 = .ok (.iload_n 1, 1) := by decide +kernel
theorem dX6_over_61 : decode cX6_over 61 = .ok (.aaload, 1) := by decide +kernel
theorem dX6_over_62 : decode cX6_over 62 = .ok (.aload_n 0, 1) := by decide +kernel
theorem dX6_over_63 : decode cX6_over 63 = .ok (.getfield 25, 3) := by decide +kernel
theorem dX6_over_66 : decode cX6_over 66 = .ok (.iload_n 2, 1) := by decide +kernel
theorem dX6_over_67 : decode cX6_over 67 = .ok (.aaload, 1) := by decide +kernel
theorem dX6_over_68 : decode cX6_over 68 = .ok (.invokevirtual 75, 3) := by decide +kernel
theorem dX6_over_71 : decode cX6_over 71 = .ok (.invokevirtual 53, 3) := by decide +kernel
theorem dX6_over_74 : decode cX6_over 74 = .ok (.ireturn, 1) := by decide +kernel
theorem dX6_rest_0 : decode cX6_rest 0 = .ok (.aload_n 0, 1) := by decide +kernel
theorem dX6_rest_1 : decode cX6_rest 1 = .ok (.iload_n 1, 1) := by decide +kernel
theorem dX6_rest_2 : decode cX6_rest 2 = .ok (.invokevirtual 57, 3) := by decide +kernel
theorem dX6_rest_5 : decode cX6_rest 5 = .ok (.ifCond .eq 11, 3) := by decide +kernel
theorem dX6_rest_8 : decode cX6_rest 8 = .ok (.aload_n 0, 1) := by decide +kernel
theorem dX6_rest_9 : decode cX6_rest 9 = .ok (.iload_n 2, 1) := by decide +kernel
theorem dX6_rest_10 : decode cX6_rest 10 = .ok (.invokevirtual 57, 3) := by decide +kernel
theorem dX6_rest_13 : decode cX6_rest 13 = .ok (.ifCond .ne 6, 3) := by decide +kernel
theorem dX6_rest_16 : decode cX6_rest 16 = .ok (.bipush (-2), 2) := by decide +kernel
theorem dX6_rest_18 : decode cX6_rest 18 = .ok (.ireturn, 1) := by decide +kernel
theorem dX6_rest_19 : decode cX6_rest 19 = .ok (.aload_n 0, 1) := by decide +kernel
theorem dX6_rest_20 : decode cX6_rest 20 = .ok (.getfield 25, 3) := by decide +kernel
theorem dX6_rest_23 : decode cX6_rest 23 = .ok (.iload_n 2, 1) := by decide +kernel
theorem dX6_rest_24 : decode cX6_rest 24 = .ok (.aaload, 1) := by decide +kernel
theorem dX6_rest_25 : decode cX6_rest 25 = .ok (.getfield 61, 3) := by decide +kernel
theorem dX6_rest_28 : decode cX6_rest 28 = .ok (.ifCond .ne 13, 3) := by decide +kernel
theorem dX6_rest_31 : decode cX6_rest 31 = .ok (.new 38, 3) := by decide +kernel
theorem dX6_rest_34 : decode cX6_rest 34 = .ok (.dup, 1) := by decide +kernel
theorem dX6_rest_35 : decode cX6_rest 35 = .ok (.ldc 73, 2) := by decide +kernel
theorem dX6_rest_37 : decode cX6_rest 37 = .ok (.invokespecial 42, 3) := by decide +kernel
theorem dX6_rest_40 : decode cX6_rest 40 = .ok (.athrow, 1) := by decide +kernel
theorem dX6_rest_41 : decode cX6_rest 41 = .ok (.aload_n 0, 1) := by decide +kernel
theorem dX6_rest_42 : decode cX6_rest 42 = .ok (.invokevirtual 45, 3) := by decide +kernel
theorem dX6_rest_45 : decode cX6_rest 45 = .ok (.ifCond .eq 6, 3) := by decide +kernel
theorem dX6_rest_48 : decode cX6_rest 48 = .ok (.bipush (-3), 2) := by decide +kernel
theorem dX6_rest_50 : decode cX6_rest 50 = .ok (.ireturn, 1) := by decide +kernel
theorem dX6_rest_51 : decode cX6_rest 51 = .ok (.aload_n 0, 1) := by decide +kernel
theorem dX6_rest_52 : decode cX6_rest 52 = .ok (.aload_n 0, 1) := by decide +kernel
theorem dX6_rest_53 : decode cX6_rest 53 = .ok (.getfield 10, 3) := by decide +kernel
theorem dX6_rest_56 : decode cX6_rest 56 = .ok (.aload_n 0, 1) := by decide +kernel
theorem dX6_rest_57 : decode cX6_rest 57 = .ok (.getfield 25, 3) := by decide +kernel
theorem dX6_rest_60 : decode cX6_rest 60 = .ok (.iload_n 1, 1) := by decide +kernel
theorem dX6_rest_61 : decode cX6_rest 61 = .ok (.aaload, 1) := by decide +kernel
theorem dX6_rest_62 : decode cX6_rest 62 = .ok (.aload_n 0, 1) := by decide +kernel
theorem dX6_rest_63 : decode cX6_rest 63 = .ok (.getfield 25, 3) := by decide +kernel
theorem dX6_rest_66 : decode cX6_rest 66 = .ok (.iload_n 2, 1) := by decide +kernel
theorem dX6_rest_67 : decode cX6_rest 67 = .ok (.aaload, 1) := by decide +kernel
theorem dX6_rest_68 : decode cX6_rest 68 = .ok (.invokevirtual 78, 3) := by decide +kernel
theorem dX6_rest_71 : decode cX6_rest 71 = .ok (.invokevirtual 53, 3) := by decide +kernel
theorem dX6_rest_74 : decode cX6_rest 74 = .ok (.ireturn, 1) := by decide +kernel
theorem dX6_measure_0 : decode cX6_measure 0 = .ok (.aload_n 0, 1) := by decide +kernel
theorem dX6_measure_1 : decode cX6_measure 1 = .ok (.iload_n 1, 1) := by decide +kernel
theorem dX6_measure_2 : decode cX6_measure 2 = .ok (.invokevirtual 57, 3) := by decide +kernel
theorem dX6_measure_5 : decode cX6_measure 5 = .ok (.ifCond .eq 11, 3) := by decide +kernel
theorem dX6_measure_8 : decode cX6_measure 8 = .ok (.aload_n 0, 1) := by decide +kernel
theorem dX6_measure_9 : decode cX6_measure 9 = .ok (.iload_n 2, 1) := by decide +kernel
theorem dX6_measure_10 : decode cX6_measure 10 = .ok (.invokevirtual 57, 3) := by decide +kernel
theorem dX6_measure_13 : decode cX6_measure 13 = .ok (.ifCond .ne 6, 3) := by decide +kernel
theorem dX6_measure_16 : decode cX6_measure 16 = .ok (.bipush (-2), 2) := by decide +kernel
theorem dX6_measure_18 : decode cX6_measure 18 = .ok (.ireturn, 1) := by decide +kernel
theorem dX6_measure_19 : decode cX6_measure 19 = .ok (.aload_n 0, 1) := by decide +kernel
theorem dX6_measure_20 : decode cX6_measure 20 = .ok (.invokevirtual 45, 3) := by decide +kernel
theorem dX6_measure_23 : decode cX6_measure 23 = .ok (.ifCond .eq 6, 3) := by decide +kernel
theorem dX6_measure_26 : decode cX6_measure 26 = .ok (.bipush (-3), 2) := by decide +kernel
theorem dX6_measure_28 : decode cX6_measure 28 = .ok (.ireturn, 1) := by decide +kernel
theorem dX6_measure_29 : decode cX6_measure 29 = .ok (.aload_n 0, 1) := by decide +kernel
theorem dX6_measure_30 : decode cX6_measure 30 = .ok (.aload_n 0, 1) := by decide +kernel
theorem dX6_measure_31 : decode cX6_measure 31 = .ok (.getfield 10, 3) := by decide +kernel
theorem dX6_measure_34 : decode cX6_measure 34 = .ok (.aload_n 0, 1) := by decide +kernel
theorem dX6_measure_35 : decode cX6_measure 35 = .ok (.getfield 25, 3) := by decide +kernel
theorem dX6_measure_38 : decode cX6_measure 38 = .ok (.iload_n 1, 1) := by decide +kernel
theorem dX6_measure_39 : decode cX6_measure 39 = .ok (.aaload, 1) := by decide +kernel
theorem dX6_measure_40 : decode cX6_measure 40 = .ok (.aload_n 0, 1) := by decide +kernel
theorem dX6_measure_41 : decode cX6_measure 41 = .ok (.getfield 25, 3) := by decide +kernel
theorem dX6_measure_44 : decode cX6_measure 44 = .ok (.iload_n 2, 1) := by decide +kernel
theorem dX6_measure_45 : decode cX6_measure 45 = .ok (.aaload, 1) := by decide +kernel
theorem dX6_measure_46 : decode cX6_measure 46 = .ok (.invokevirtual 81, 3) := by decide +kernel
theorem dX6_measure_49 : decode cX6_measure 49 = .ok (.invokevirtual 53, 3) := by decide +kernel
theorem dX6_measure_52 : decode cX6_measure 52 = .ok (.ireturn, 1) := by decide +kernel
theorem dX6_whole_0 : decode cX6_whole 0 = .ok (.aload_n 0, 1) := by decide +kernel
theorem dX6_whole_1 : decode cX6_whole 1 = .ok (.iload_n 1, 1) := by decide +kernel
theorem dX6_whole_2 : decode cX6_whole 2 = .ok (.invokevirtual 57, 3) := by decide +kernel
theorem dX6_whole_5 : decode cX6_whole 5 = .ok (.ifCond .eq 12, 3) := by decide +kernel
theorem dX6_whole_8 : decode cX6_whole 8 = .ok (.iload_n 2, 1) := by decide +kernel
theorem dX6_whole_9 : decode cX6_whole 9 = .ok (.ifCond .lt 8, 3) := by decide +kernel
theorem dX6_whole_12 : decode cX6_whole 12 = .ok (.iload_n 2, 1) := by decide +kernel
theorem dX6_whole_13 : decode cX6_whole 13 = .ok (.iconst 3, 1) := by decide +kernel
theorem dX6_whole_14 : decode cX6_whole 14 = .ok (.if_icmp .le 6, 3) := by decide +kernel
theorem dX6_whole_17 : decode cX6_whole 17 = .ok (.bipush (-2), 2) := by decide +kernel
theorem dX6_whole_19 : decode cX6_whole 19 = .ok (.ireturn, 1) := by decide +kernel
theorem dX6_whole_20 : decode cX6_whole 20 = .ok (.aload_n 0, 1) := by decide +kernel
theorem dX6_whole_21 : decode cX6_whole 21 = .ok (.invokevirtual 45, 3) := by decide +kernel
theorem dX6_whole_24 : decode cX6_whole 24 = .ok (.ifCond .eq 6, 3) := by decide +kernel
theorem dX6_whole_27 : decode cX6_whole 27 = .ok (.bipush (-3), 2) := by decide +kernel
theorem dX6_whole_29 : decode cX6_whole 29 = .ok (.ireturn, 1) := by decide +kernel
theorem dX6_whole_30 : decode cX6_whole 30 = .ok (.aload_n 0, 1) := by decide +kernel
theorem dX6_whole_31 : decode cX6_whole 31 = .ok (.aload_n 0, 1) := by decide +kernel
theorem dX6_whole_32 : decode cX6_whole 32 = .ok (.getfield 10, 3) := by decide +kernel
theorem dX6_whole_35 : decode cX6_whole 35 = .ok (.aload_n 0, 1) := by decide +kernel
theorem dX6_whole_36 : decode cX6_whole 36 = .ok (.getfield 25, 3) := by decide +kernel
theorem dX6_whole_39 : decode cX6_whole 39 = .ok (.iload_n 1, 1) := by decide +kernel
theorem dX6_whole_40 : decode cX6_whole 40 = .ok (.aaload, 1) := by decide +kernel
theorem dX6_whole_41 : decode cX6_whole 41 = .ok (.iload_n 2, 1) := by decide +kernel
theorem dX6_whole_42 : decode cX6_whole 42 = .ok (.invokevirtual 84, 3) := by decide +kernel
theorem dX6_whole_45 : decode cX6_whole 45 = .ok (.invokevirtual 53, 3) := by decide +kernel
theorem dX6_whole_48 : decode cX6_whole 48 = .ok (.ireturn, 1) := by decide +kernel
theorem dX6_order_0 : decode cX6_order 0 = .ok (.aload_n 0, 1) := by decide +kernel
theorem dX6_order_1 : decode cX6_order 1 = .ok (.iload_n 1, 1) := by decide +kernel
theorem dX6_order_2 : decode cX6_order 2 = .ok (.invokevirtual 57, 3) := by decide +kernel
theorem dX6_order_5 : decode cX6_order 5 = .ok (.ifCond .eq 11, 3) := by decide +kernel
theorem dX6_order_8 : decode cX6_order 8 = .ok (.aload_n 0, 1) := by decide +kernel
theorem dX6_order_9 : decode cX6_order 9 = .ok (.iload_n 2, 1) := by decide +kernel
theorem dX6_order_10 : decode cX6_order 10 = .ok (.invokevirtual 57, 3) := by decide +kernel
theorem dX6_order_13 : decode cX6_order 13 = .ok (.ifCond .ne 6, 3) := by decide +kernel
theorem dX6_order_16 : decode cX6_order 16 = .ok (.bipush (-2), 2) := by decide +kernel
theorem dX6_order_18 : decode cX6_order 18 = .ok (.ireturn, 1) := by decide +kernel
theorem dX6_order_19 : decode cX6_order 19 = .ok (.aload_n 0, 1) := by decide +kernel
theorem dX6_order_20 : decode cX6_order 20 = .ok (.getfield 10, 3) := by decide +kernel
theorem dX6_order_23 : decode cX6_order 23 = .ok (.aload_n 0, 1) := by decide +kernel
theorem dX6_order_24 : decode cX6_order 24 = .ok (.getfield 25, 3) := by decide +kernel
theorem dX6_order_27 : decode cX6_order 27 = .ok (.iload_n 1, 1) := by decide +kernel
theorem dX6_order_28 : decode cX6_order 28 = .ok (.aaload, 1) := by decide +kernel
theorem dX6_order_29 : decode cX6_order 29 = .ok (.aload_n 0, 1) := by decide +kernel
theorem dX6_order_30 : decode cX6_order 30 = .ok (.getfield 25, 3) := by decide +kernel
theorem dX6_order_33 : decode cX6_order 33 = .ok (.iload_n 2, 1) := by decide +kernel
theorem dX6_order_34 : decode cX6_order 34 = .ok (.aaload, 1) := by decide +kernel
theorem dX6_order_35 : decode cX6_order 35 = .ok (.invokevirtual 88, 3) := by decide +kernel
theorem dX6_order_38 : decode cX6_order 38 = .ok (.ireturn, 1) := by decide +kernel
theorem dX6_of_0 : decode cX6_of 0 = .ok (.aload_n 0, 1) := by decide +kernel
theorem dX6_of_1 : decode cX6_of 1 = .ok (.iload_n 1, 1) := by decide +kernel
theorem dX6_of_2 : decode cX6_of 2 = .ok (.invokevirtual 57, 3) := by decide +kernel
theorem dX6_of_5 : decode cX6_of 5 = .ok (.ifCond .ne 6, 3) := by decide +kernel
theorem dX6_of_8 : decode cX6_of 8 = .ok (.bipush (-2), 2) := by decide +kernel
theorem dX6_of_10 : decode cX6_of 10 = .ok (.ireturn, 1) := by decide +kernel
theorem dX6_of_11 : decode cX6_of 11 = .ok (.aload_n 0, 1) := by decide +kernel
theorem dX6_of_12 : decode cX6_of 12 = .ok (.getfield 25, 3) := by decide +kernel
theorem dX6_of_15 : decode cX6_of 15 = .ok (.iload_n 1, 1) := by decide +kernel
theorem dX6_of_16 : decode cX6_of 16 = .ok (.aaload, 1) := by decide +kernel
theorem dX6_of_17 : decode cX6_of 17 = .ok (.astore_n 3, 1) := by decide +kernel
theorem dX6_of_18 : decode cX6_of 18 = .ok (.iload_n 2, 1) := by decide +kernel
theorem dX6_of_19 : decode cX6_of 19 = .ok (.tableswitch 83 0 4 #[33, 46, 51, 59, 67], 33) := by decide +kernel
theorem dX6_of_52 : decode cX6_of 52 = .ok (.aload_n 3, 1) := by decide +kernel
theorem dX6_of_53 : decode cX6_of 53 = .ok (.invokevirtual 92, 3) := by decide +kernel
theorem dX6_of_56 : decode cX6_of 56 = .ok (.ifCond .eq 7, 3) := by decide +kernel
theorem dX6_of_59 : decode cX6_of 59 = .ok (.iconst 1, 1) := by decide +kernel
theorem dX6_of_60 : decode cX6_of 60 = .ok (.goto 4, 3) := by decide +kernel
theorem dX6_of_63 : decode cX6_of 63 = .ok (.iconst 0, 1) := by decide +kernel
theorem dX6_of_64 : decode cX6_of 64 = .ok (.ireturn, 1) := by decide +kernel
theorem dX6_of_65 : decode cX6_of 65 = .ok (.aload_n 3, 1) := by decide +kernel
theorem dX6_of_66 : decode cX6_of 66 = .ok (.getfield 61, 3) := by decide +kernel
theorem dX6_of_69 : decode cX6_of 69 = .ok (.ireturn, 1) := by decide +kernel
theorem dX6_of_70 : decode cX6_of 70 = .ok (.aload_n 3, 1) := by decide +kernel
theorem dX6_of_71 : decode cX6_of 71 = .ok (.getfield 95, 3) := by decide +kernel
theorem dX6_of_74 : decode cX6_of 74 = .ok (.invokevirtual 99, 3) := by decide +kernel
theorem dX6_of_77 : decode cX6_of 77 = .ok (.ireturn, 1) := by decide +kernel
theorem dX6_of_78 : decode cX6_of 78 = .ok (.aload_n 3, 1) := by decide +kernel
theorem dX6_of_79 : decode cX6_of 79 = .ok (.getfield 105, 3) := by decide +kernel
theorem dX6_of_82 : decode cX6_of 82 = .ok (.invokevirtual 99, 3) := by decide +kernel
theorem dX6_of_85 : decode cX6_of 85 = .ok (.ireturn, 1) := by decide +kernel
theorem dX6_of_86 : decode cX6_of 86 = .ok (.aload_n 3, 1) := by decide +kernel
theorem dX6_of_87 : decode cX6_of 87 = .ok (.getfield 105, 3) := by decide +kernel
theorem dX6_of_90 : decode cX6_of 90 = .ok (.invokevirtual 108, 3) := by decide +kernel
theorem dX6_of_93 : decode cX6_of 93 = .ok (.ifCond .eq 7, 3) := by decide +kernel
theorem dX6_of_96 : decode cX6_of 96 = .ok (.iconst 1, 1) := by decide +kernel
theorem dX6_of_97 : decode cX6_of 97 = .ok (.goto 4, 3) := by decide +kernel
theorem dX6_of_100 : decode cX6_of 100 = .ok (.iconst 0, 1) := by decide +kernel
theorem dX6_of_101 : decode cX6_of 101 = .ok (.ireturn, 1) := by decide +kernel
theorem dX6_of_102 : decode cX6_of 102 = .ok (.bipush (-2), 2) := by decide +kernel
theorem dX6_of_104 : decode cX6_of 104 = .ok (.ireturn, 1) := by decide +kernel
theorem dX6_part_0 : decode cX6_part 0 = .ok (.aload_n 0, 1) := by decide +kernel
theorem dX6_part_1 : decode cX6_part 1 = .ok (.iload_n 1, 1) := by decide +kernel
theorem dX6_part_2 : decode cX6_part 2 = .ok (.invokevirtual 57, 3) := by decide +kernel
theorem dX6_part_5 : decode cX6_part 5 = .ok (.ifCond .eq 12, 3) := by decide +kernel
theorem dX6_part_8 : decode cX6_part 8 = .ok (.iload_n 2, 1) := by decide +kernel
theorem dX6_part_9 : decode cX6_part 9 = .ok (.ifCond .lt 8, 3) := by decide +kernel
theorem dX6_part_12 : decode cX6_part 12 = .ok (.iload_n 2, 1) := by decide +kernel
theorem dX6_part_13 : decode cX6_part 13 = .ok (.iconst 1, 1) := by decide +kernel
theorem dX6_part_14 : decode cX6_part 14 = .ok (.if_icmp .le 13, 3) := by decide +kernel
theorem dX6_part_17 : decode cX6_part 17 = .ok (.new 111, 3) := by decide +kernel
theorem dX6_part_20 : decode cX6_part 20 = .ok (.dup, 1) := by decide +kernel
theorem dX6_part_21 : decode cX6_part 21 = .ok (.ldc 113, 2) := by decide +kernel
theorem dX6_part_23 : decode cX6_part 23 = .ok (.invokespecial 115, 3) := by decide +kernel
theorem dX6_part_26 : decode cX6_part 26 = .ok (.athrow, 1) := by decide +kernel
theorem dX6_part_27 : decode cX6_part 27 = .ok (.aload_n 0, 1) := by decide +kernel
theorem dX6_part_28 : decode cX6_part 28 = .ok (.getfield 25, 3) := by decide +kernel
theorem dX6_part_31 : decode cX6_part 31 = .ok (.iload_n 1, 1) := by decide +kernel
theorem dX6_part_32 : decode cX6_part 32 = .ok (.aaload, 1) := by decide +kernel
theorem dX6_part_33 : decode cX6_part 33 = .ok (.iload_n 2, 1) := by decide +kernel
theorem dX6_part_34 : decode cX6_part 34 = .ok (.invokevirtual 116, 3) := by decide +kernel
theorem dX6_part_37 : decode cX6_part 37 = .ok (.astore_n 3, 1) := by decide +kernel
theorem dX6_part_38 : decode cX6_part 38 = .ok (.iload_n 2, 1) := by decide +kernel
theorem dX6_part_39 : decode cX6_part 39 = .ok (.ifCond .ne 19, 3) := by decide +kernel
theorem dX6_part_42 : decode cX6_part 42 = .ok (.aload_n 0, 1) := by decide +kernel
theorem dX6_part_43 : decode cX6_part 43 = .ok (.getfield 25, 3) := by decide +kernel
theorem dX6_part_46 : decode cX6_part 46 = .ok (.iload_n 1, 1) := by decide +kernel
theorem dX6_part_47 : decode cX6_part 47 = .ok (.aaload, 1) := by decide +kernel
theorem dX6_part_48 : decode cX6_part 48 = .ok (.getfield 61, 3) := by decide +kernel
theorem dX6_part_51 : decode cX6_part 51 = .ok (.ifCond .ge 7, 3) := by decide +kernel
theorem dX6_part_54 : decode cX6_part 54 = .ok (.iconst 1, 1) := by decide +kernel
theorem dX6_part_55 : decode cX6_part 55 = .ok (.goto 4, 3) := by decide +kernel
theorem dX6_part_58 : decode cX6_part 58 = .ok (.iconst 0, 1) := by decide +kernel
theorem dX6_part_59 : decode cX6_part 59 = .ok (.istore 4, 2) := by decide +kernel
theorem dX6_part_61 : decode cX6_part 61 = .ok (.aload_n 3, 1) := by decide +kernel
theorem dX6_part_62 : decode cX6_part 62 = .ok (.iload 4, 2) := by decide +kernel
theorem dX6_part_64 : decode cX6_part 64 = .ok (.invokevirtual 120, 3) := by decide +kernel
theorem dX6_part_67 : decode cX6_part 67 = .ok (.ifCond .ne 13, 3) := by decide +kernel
theorem dX6_part_70 : decode cX6_part 70 = .ok (.new 38, 3) := by decide +kernel
theorem dX6_part_73 : decode cX6_part 73 = .ok (.dup, 1) := by decide +kernel
theorem dX6_part_74 : decode cX6_part 74 = .ok (.ldc 124, 2) := by decide +kernel
theorem dX6_part_76 : decode cX6_part 76 = .ok (.invokespecial 42, 3) := by decide +kernel
theorem dX6_part_79 : decode cX6_part 79 = .ok (.athrow, 1) := by decide +kernel
theorem dX6_part_80 : decode cX6_part 80 = .ok (.iload 4, 2) := by decide +kernel
theorem dX6_part_82 : decode cX6_part 82 = .ok (.ifCond .eq 11, 3) := by decide +kernel
theorem dX6_part_85 : decode cX6_part 85 = .ok (.aload_n 3, 1) := by decide +kernel
theorem dX6_part_86 : decode cX6_part 86 = .ok (.invokevirtual 126, 3) := by decide +kernel
theorem dX6_part_89 : decode cX6_part 89 = .ok (.lneg, 1) := by decide +kernel
theorem dX6_part_90 : decode cX6_part 90 = .ok (.goto 7, 3) := by decide +kernel
theorem dX6_part_93 : decode cX6_part 93 = .ok (.aload_n 3, 1) := by decide +kernel
theorem dX6_part_94 : decode cX6_part 94 = .ok (.invokevirtual 126, 3) := by decide +kernel
theorem dX6_part_97 : decode cX6_part 97 = .ok (.lreturn, 1) := by decide +kernel
theorem dX6_limb_0 : decode cX6_limb 0 = .ok (.aload_n 0, 1) := by decide +kernel
theorem dX6_limb_1 : decode cX6_limb 1 = .ok (.iload_n 1, 1) := by decide +kernel
theorem dX6_limb_2 : decode cX6_limb 2 = .ok (.invokevirtual 57, 3) := by decide +kernel
theorem dX6_limb_5 : decode cX6_limb 5 = .ok (.ifCond .eq 12, 3) := by decide +kernel
theorem dX6_limb_8 : decode cX6_limb 8 = .ok (.iload_n 2, 1) := by decide +kernel
theorem dX6_limb_9 : decode cX6_limb 9 = .ok (.ifCond .lt 8, 3) := by decide +kernel
theorem dX6_limb_12 : decode cX6_limb 12 = .ok (.iload_n 2, 1) := by decide +kernel
theorem dX6_limb_13 : decode cX6_limb 13 = .ok (.iconst 1, 1) := by decide +kernel
theorem dX6_limb_14 : decode cX6_limb 14 = .ok (.if_icmp .le 13, 3) := by decide +kernel
theorem dX6_limb_17 : decode cX6_limb 17 = .ok (.new 111, 3) := by decide +kernel
theorem dX6_limb_20 : decode cX6_limb 20 = .ok (.dup, 1) := by decide +kernel
theorem dX6_limb_21 : decode cX6_limb 21 = .ok (.ldc 113, 2) := by decide +kernel
theorem dX6_limb_23 : decode cX6_limb 23 = .ok (.invokespecial 115, 3) := by decide +kernel
theorem dX6_limb_26 : decode cX6_limb 26 = .ok (.athrow, 1) := by decide +kernel
theorem dX6_limb_27 : decode cX6_limb 27 = .ok (.aload_n 0, 1) := by decide +kernel
theorem dX6_limb_28 : decode cX6_limb 28 = .ok (.getfield 25, 3) := by decide +kernel
theorem dX6_limb_31 : decode cX6_limb 31 = .ok (.iload_n 1, 1) := by decide +kernel
theorem dX6_limb_32 : decode cX6_limb 32 = .ok (.aaload, 1) := by decide +kernel
theorem dX6_limb_33 : decode cX6_limb 33 = .ok (.iload_n 2, 1) := by decide +kernel
theorem dX6_limb_34 : decode cX6_limb 34 = .ok (.invokevirtual 116, 3) := by decide +kernel
theorem dX6_limb_37 : decode cX6_limb 37 = .ok (.astore 4, 2) := by decide +kernel
theorem dX6_limb_39 : decode cX6_limb 39 = .ok (.iload_n 3, 1) := by decide +kernel
theorem dX6_limb_40 : decode cX6_limb 40 = .ok (.ifCond .lt 18, 3) := by decide +kernel
theorem dX6_limb_43 : decode cX6_limb 43 = .ok (.iload_n 3, 1) := by decide +kernel
theorem dX6_limb_44 : decode cX6_limb 44 = .ok (.aload 4, 2) := by decide +kernel
theorem dX6_limb_46 : decode cX6_limb 46 = .ok (.invokevirtual 99, 3) := by decide +kernel
theorem dX6_limb_49 : decode cX6_limb 49 = .ok (.bipush 31, 2) := by decide +kernel
theorem dX6_limb_51 : decode cX6_limb 51 = .ok (.iadd, 1) := by decide +kernel
theorem dX6_limb_52 : decode cX6_limb 52 = .ok (.bipush 32, 2) := by decide +kernel
theorem dX6_limb_54 : decode cX6_limb 54 = .ok (.idiv, 1) := by decide +kernel
theorem dX6_limb_55 : decode cX6_limb 55 = .ok (.if_icmp .lt 13, 3) := by decide +kernel
theorem dX6_limb_58 : decode cX6_limb 58 = .ok (.new 130, 3) := by decide +kernel
theorem dX6_limb_61 : decode cX6_limb 61 = .ok (.dup, 1) := by decide +kernel
theorem dX6_limb_62 : decode cX6_limb 62 = .ok (.ldc 132, 2) := by decide +kernel
theorem dX6_limb_64 : decode cX6_limb 64 = .ok (.invokespecial 134, 3) := by decide +kernel
theorem dX6_limb_67 : decode cX6_limb 67 = .ok (.athrow, 1) := by decide +kernel
theorem dX6_limb_68 : decode cX6_limb 68 = .ok (.aload 4, 2) := by decide +kernel
theorem dX6_limb_70 : decode cX6_limb 70 = .ok (.iload_n 3, 1) := by decide +kernel
theorem dX6_limb_71 : decode cX6_limb 71 = .ok (.invokevirtual 135, 3) := by decide +kernel
theorem dX6_limb_74 : decode cX6_limb 74 = .ok (.ireturn, 1) := by decide +kernel
theorem dX6_exact_0 : decode cX6_exact 0 = .ok (.iload_n 1, 1) := by decide +kernel
theorem dX6_exact_1 : decode cX6_exact 1 = .ok (.ifCond .lt 9, 3) := by decide +kernel
theorem dX6_exact_4 : decode cX6_exact 4 = .ok (.iload_n 1, 1) := by decide +kernel
theorem dX6_exact_5 : decode cX6_exact 5 = .ok (.bipush 9, 2) := by decide +kernel
theorem dX6_exact_7 : decode cX6_exact 7 = .ok (.if_icmp .le 13, 3) := by decide +kernel
theorem dX6_exact_10 : decode cX6_exact 10 = .ok (.new 111, 3) := by decide +kernel
theorem dX6_exact_13 : decode cX6_exact 13 = .ok (.dup, 1) := by decide +kernel
theorem dX6_exact_14 : decode cX6_exact 14 = .ok (.ldc 139, 2) := by decide +kernel
theorem dX6_exact_16 : decode cX6_exact 16 = .ok (.invokespecial 115, 3) := by decide +kernel
theorem dX6_exact_19 : decode cX6_exact 19 = .ok (.athrow, 1) := by decide +kernel
theorem dX6_exact_20 : decode cX6_exact 20 = .ok (.iload_n 1, 1) := by decide +kernel
theorem dX6_exact_21 : decode cX6_exact 21 = .ok (.iconst 3, 1) := by decide +kernel
theorem dX6_exact_22 : decode cX6_exact 22 = .ok (.if_icmp .lt 17, 3) := by decide +kernel
theorem dX6_exact_25 : decode cX6_exact 25 = .ok (.iload_n 1, 1) := by decide +kernel
theorem dX6_exact_26 : decode cX6_exact 26 = .ok (.bipush 6, 2) := by decide +kernel
theorem dX6_exact_28 : decode cX6_exact 28 = .ok (.if_icmp .gt 11, 3) := by decide +kernel
theorem dX6_exact_31 : decode cX6_exact 31 = .ok (.iload_n 1, 1) := by decide +kernel
theorem dX6_exact_32 : decode cX6_exact 32 = .ok (.lload_n 2, 1) := by decide +kernel
theorem dX6_exact_33 : decode cX6_exact 33 = .ok (.lload 4, 2) := by decide +kernel
theorem dX6_exact_35 : decode cX6_exact 35 = .ok (.invokestatic 141, 3) := by decide +kernel
theorem dX6_exact_38 : decode cX6_exact 38 = .ok (.lreturn, 1) := by decide +kernel
theorem dX6_exact_39 : decode cX6_exact 39 = .ok (.iload_n 1, 1) := by decide +kernel
theorem dX6_exact_40 : decode cX6_exact 40 = .ok (.tableswitch 84 0 8 #[52, 59, 66, 84, 84, 84, 84, 73, 79], 52) := by decide +kernel
theorem dX6_exact_92 : decode cX6_exact 92 = .ok (.lload_n 2, 1) := by decide +kernel
theorem dX6_exact_93 : decode cX6_exact 93 = .ok (.lload 4, 2) := by decide +kernel
theorem dX6_exact_95 : decode cX6_exact 95 = .ok (.invokestatic 145, 3) := by decide +kernel
theorem dX6_exact_98 : decode cX6_exact 98 = .ok (.lreturn, 1) := by decide +kernel
theorem dX6_exact_99 : decode cX6_exact 99 = .ok (.lload_n 2, 1) := by decide +kernel
theorem dX6_exact_100 : decode cX6_exact 100 = .ok (.lload 4, 2) := by decide +kernel
theorem dX6_exact_102 : decode cX6_exact 102 = .ok (.invokestatic 149, 3) := by decide +kernel
theorem dX6_exact_105 : decode cX6_exact 105 = .ok (.lreturn, 1) := by decide +kernel
theorem dX6_exact_106 : decode cX6_exact 106 = .ok (.lload_n 2, 1) := by decide +kernel
theorem dX6_exact_107 : decode cX6_exact 107 = .ok (.lload 4, 2) := by decide +kernel
theorem dX6_exact_109 : decode cX6_exact 109 = .ok (.invokestatic 152, 3) := by decide +kernel
theorem dX6_exact_112 : decode cX6_exact 112 = .ok (.lreturn, 1) := by decide +kernel
theorem dX6_exact_113 : decode cX6_exact 113 = .ok (.lconst 0, 1) := by decide +kernel
theorem dX6_exact_114 : decode cX6_exact 114 = .ok (.lload_n 2, 1) := by decide +kernel
theorem dX6_exact_115 : decode cX6_exact 115 = .ok (.invokestatic 149, 3) := by decide +kernel
theorem dX6_exact_118 : decode cX6_exact 118 = .ok (.lreturn, 1) := by decide +kernel
theorem dX6_exact_119 : decode cX6_exact 119 = .ok (.lload_n 2, 1) := by decide +kernel
theorem dX6_exact_120 : decode cX6_exact 120 = .ok (.invokestatic 155, 3) := by decide +kernel
theorem dX6_exact_123 : decode cX6_exact 123 = .ok (.lreturn, 1) := by decide +kernel
theorem dX6_exact_124 : decode cX6_exact 124 = .ok (.lload_n 2, 1) := by decide +kernel
theorem dX6_exact_125 : decode cX6_exact 125 = .ok (.lconst 0, 1) := by decide +kernel
theorem dX6_exact_126 : decode cX6_exact 126 = .ok (.lcmp, 1) := by decide +kernel
theorem dX6_exact_127 : decode cX6_exact 127 = .ok (.ifCond .ge 11, 3) := by decide +kernel
theorem dX6_exact_130 : decode cX6_exact 130 = .ok (.lconst 0, 1) := by decide +kernel
theorem dX6_exact_131 : decode cX6_exact 131 = .ok (.lload_n 2, 1) := by decide +kernel
theorem dX6_exact_132 : decode cX6_exact 132 = .ok (.invokestatic 149, 3) := by decide +kernel
theorem dX6_exact_135 : decode cX6_exact 135 = .ok (.goto 4, 3) := by decide +kernel
theorem dX6_exact_138 : decode cX6_exact 138 = .ok (.lload_n 2, 1) := by decide +kernel
theorem dX6_exact_139 : decode cX6_exact 139 = .ok (.lreturn, 1) := by decide +kernel
theorem dX6_row_0 : decode cX6_row 0 = .ok (.iload_n 1, 1) := by decide +kernel
theorem dX6_row_1 : decode cX6_row 1 = .ok (.iconst 1, 1) := by decide +kernel
theorem dX6_row_2 : decode cX6_row 2 = .ok (.if_icmp .lt 9, 3) := by decide +kernel
theorem dX6_row_5 : decode cX6_row 5 = .ok (.iload_n 1, 1) := by decide +kernel
theorem dX6_row_6 : decode cX6_row 6 = .ok (.bipush 10, 2) := by decide +kernel
theorem dX6_row_8 : decode cX6_row 8 = .ok (.if_icmp .le 6, 3) := by decide +kernel
theorem dX6_row_11 : decode cX6_row 11 = .ok (.bipush (-2), 2) := by decide +kernel
theorem dX6_row_13 : decode cX6_row 13 = .ok (.ireturn, 1) := by decide +kernel
theorem dX6_row_14 : decode cX6_row 14 = .ok (.aload_n 0, 1) := by decide +kernel
theorem dX6_row_15 : decode cX6_row 15 = .ok (.getfield 159, 3) := by decide +kernel
theorem dX6_row_18 : decode cX6_row 18 = .ok (.bipush 20, 2) := by decide +kernel
theorem dX6_row_20 : decode cX6_row 20 = .ok (.if_icmp .lt 6, 3) := by decide +kernel
theorem dX6_row_23 : decode cX6_row 23 = .ok (.bipush (-3), 2) := by decide +kernel
theorem dX6_row_25 : decode cX6_row 25 = .ok (.ireturn, 1) := by decide +kernel
theorem dX6_row_26 : decode cX6_row 26 = .ok (.aload_n 0, 1) := by decide +kernel
theorem dX6_row_27 : decode cX6_row 27 = .ok (.getfield 31, 3) := by decide +kernel
theorem dX6_row_30 : decode cX6_row 30 = .ok (.aload_n 0, 1) := by decide +kernel
theorem dX6_row_31 : decode cX6_row 31 = .ok (.getfield 159, 3) := by decide +kernel
theorem dX6_row_34 : decode cX6_row 34 = .ok (.new 29, 3) := by decide +kernel
theorem dX6_row_37 : decode cX6_row 37 = .ok (.dup, 1) := by decide +kernel
theorem dX6_row_38 : decode cX6_row 38 = .ok (.iload_n 1, 1) := by decide +kernel
theorem dX6_row_39 : decode cX6_row 39 = .ok (.aload_n 0, 1) := by decide +kernel
theorem dX6_row_40 : decode cX6_row 40 = .ok (.getfield 10, 3) := by decide +kernel
theorem dX6_row_43 : decode cX6_row 43 = .ok (.getfield 162, 3) := by decide +kernel
theorem dX6_row_46 : decode cX6_row 46 = .ok (.invokespecial 166, 3) := by decide +kernel
theorem dX6_row_49 : decode cX6_row 49 = .ok (.aastore, 1) := by decide +kernel
theorem dX6_row_50 : decode cX6_row 50 = .ok (.aload_n 0, 1) := by decide +kernel
theorem dX6_row_51 : decode cX6_row 51 = .ok (.dup, 1) := by decide +kernel
theorem dX6_row_52 : decode cX6_row 52 = .ok (.getfield 159, 3) := by decide +kernel
theorem dX6_row_55 : decode cX6_row 55 = .ok (.iconst 1, 1) := by decide +kernel
theorem dX6_row_56 : decode cX6_row 56 = .ok (.iadd, 1) := by decide +kernel
theorem dX6_row_57 : decode cX6_row 57 = .ok (.putfield 159, 3) := by decide +kernel
theorem dX6_row_60 : decode cX6_row 60 = .ok (.aload_n 0, 1) := by decide +kernel
theorem dX6_row_61 : decode cX6_row 61 = .ok (.getfield 159, 3) := by decide +kernel
theorem dX6_row_64 : decode cX6_row 64 = .ok (.iconst 1, 1) := by decide +kernel
theorem dX6_row_65 : decode cX6_row 65 = .ok (.isub, 1) := by decide +kernel
theorem dX6_row_66 : decode cX6_row 66 = .ok (.ireturn, 1) := by decide +kernel
theorem dX6_put_0 : decode cX6_put 0 = .ok (.aload_n 0, 1) := by decide +kernel
theorem dX6_put_1 : decode cX6_put 1 = .ok (.iload_n 1, 1) := by decide +kernel
theorem dX6_put_2 : decode cX6_put 2 = .ok (.iload_n 2, 1) := by decide +kernel
theorem dX6_put_3 : decode cX6_put 3 = .ok (.invokevirtual 169, 3) := by decide +kernel
theorem dX6_put_6 : decode cX6_put 6 = .ok (.ifCond .eq 11, 3) := by decide +kernel
theorem dX6_put_9 : decode cX6_put 9 = .ok (.aload_n 0, 1) := by decide +kernel
theorem dX6_put_10 : decode cX6_put 10 = .ok (.iload_n 3, 1) := by decide +kernel
theorem dX6_put_11 : decode cX6_put 11 = .ok (.invokevirtual 57, 3) := by decide +kernel
theorem dX6_put_14 : decode cX6_put 14 = .ok (.ifCond .ne 6, 3) := by decide +kernel
theorem dX6_put_17 : decode cX6_put 17 = .ok (.bipush (-2), 2) := by decide +kernel
theorem dX6_put_19 : decode cX6_put 19 = .ok (.ireturn, 1) := by decide +kernel
theorem dX6_put_20 : decode cX6_put 20 = .ok (.aload_n 0, 1) := by decide +kernel
theorem dX6_put_21 : decode cX6_put 21 = .ok (.getfield 31, 3) := by decide +kernel
theorem dX6_put_24 : decode cX6_put 24 = .ok (.iload_n 1, 1) := by decide +kernel
theorem dX6_put_25 : decode cX6_put 25 = .ok (.aaload, 1) := by decide +kernel
theorem dX6_put_26 : decode cX6_put 26 = .ok (.getfield 173, 3) := by decide +kernel
theorem dX6_put_29 : decode cX6_put 29 = .ok (.iload_n 2, 1) := by decide +kernel
theorem dX6_put_30 : decode cX6_put 30 = .ok (.aload_n 0, 1) := by decide +kernel
theorem dX6_put_31 : decode cX6_put 31 = .ok (.getfield 25, 3) := by decide +kernel
theorem dX6_put_34 : decode cX6_put 34 = .ok (.iload_n 3, 1) := by decide +kernel
theorem dX6_put_35 : decode cX6_put 35 = .ok (.aaload, 1) := by decide +kernel
theorem dX6_put_36 : decode cX6_put 36 = .ok (.aastore, 1) := by decide +kernel
theorem dX6_put_37 : decode cX6_put 37 = .ok (.iconst 1, 1) := by decide +kernel
theorem dX6_put_38 : decode cX6_put 38 = .ok (.ireturn, 1) := by decide +kernel
theorem dX6_take_0 : decode cX6_take 0 = .ok (.aload_n 0, 1) := by decide +kernel
theorem dX6_take_1 : decode cX6_take 1 = .ok (.iload_n 1, 1) := by decide +kernel
theorem dX6_take_2 : decode cX6_take 2 = .ok (.iload_n 2, 1) := by decide +kernel
theorem dX6_take_3 : decode cX6_take 3 = .ok (.invokevirtual 169, 3) := by decide +kernel
theorem dX6_take_6 : decode cX6_take 6 = .ok (.ifCond .ne 6, 3) := by decide +kernel
theorem dX6_take_9 : decode cX6_take 9 = .ok (.bipush (-2), 2) := by decide +kernel
theorem dX6_take_11 : decode cX6_take 11 = .ok (.ireturn, 1) := by decide +kernel
theorem dX6_take_12 : decode cX6_take 12 = .ok (.aload_n 0, 1) := by decide +kernel
theorem dX6_take_13 : decode cX6_take 13 = .ok (.invokevirtual 45, 3) := by decide +kernel
theorem dX6_take_16 : decode cX6_take 16 = .ok (.ifCond .eq 6, 3) := by decide +kernel
theorem dX6_take_19 : decode cX6_take 19 = .ok (.bipush (-3), 2) := by decide +kernel
theorem dX6_take_21 : decode cX6_take 21 = .ok (.ireturn, 1) := by decide +kernel
theorem dX6_take_22 : decode cX6_take 22 = .ok (.aload_n 0, 1) := by decide +kernel
theorem dX6_take_23 : decode cX6_take 23 = .ok (.aload_n 0, 1) := by decide +kernel
theorem dX6_take_24 : decode cX6_take 24 = .ok (.getfield 31, 3) := by decide +kernel
theorem dX6_take_27 : decode cX6_take 27 = .ok (.iload_n 1, 1) := by decide +kernel
theorem dX6_take_28 : decode cX6_take 28 = .ok (.aaload, 1) := by decide +kernel
theorem dX6_take_29 : decode cX6_take 29 = .ok (.getfield 173, 3) := by decide +kernel
theorem dX6_take_32 : decode cX6_take 32 = .ok (.iload_n 2, 1) := by decide +kernel
theorem dX6_take_33 : decode cX6_take 33 = .ok (.aaload, 1) := by decide +kernel
theorem dX6_take_34 : decode cX6_take 34 = .ok (.invokevirtual 53, 3) := by decide +kernel
theorem dX6_take_37 : decode cX6_take 37 = .ok (.ireturn, 1) := by decide +kernel
theorem dX6_dot_0 : decode cX6_dot 0 = .ok (.aload_n 0, 1) := by decide +kernel
theorem dX6_dot_1 : decode cX6_dot 1 = .ok (.iload_n 1, 1) := by decide +kernel
theorem dX6_dot_2 : decode cX6_dot 2 = .ok (.iload_n 2, 1) := by decide +kernel
theorem dX6_dot_3 : decode cX6_dot 3 = .ok (.invokevirtual 176, 3) := by decide +kernel
theorem dX6_dot_6 : decode cX6_dot 6 = .ok (.ifCond .ne 6, 3) := by decide +kernel
theorem dX6_dot_9 : decode cX6_dot 9 = .ok (.bipush (-2), 2) := by decide +kernel
theorem dX6_dot_11 : decode cX6_dot 11 = .ok (.ireturn, 1) := by decide +kernel
theorem dX6_dot_12 : decode cX6_dot 12 = .ok (.aload_n 0, 1) := by decide +kernel
theorem dX6_dot_13 : decode cX6_dot 13 = .ok (.invokevirtual 45, 3) := by decide +kernel
theorem dX6_dot_16 : decode cX6_dot 16 = .ok (.ifCond .eq 6, 3) := by decide +kernel
theorem dX6_dot_19 : decode cX6_dot 19 = .ok (.bipush (-3), 2) := by decide +kernel
theorem dX6_dot_21 : decode cX6_dot 21 = .ok (.ireturn, 1) := by decide +kernel
theorem dX6_dot_22 : decode cX6_dot 22 = .ok (.aload_n 0, 1) := by decide +kernel
theorem dX6_dot_23 : decode cX6_dot 23 = .ok (.getfield 31, 3) := by decide +kernel
theorem dX6_dot_26 : decode cX6_dot 26 = .ok (.iload_n 1, 1) := by decide +kernel
theorem dX6_dot_27 : decode cX6_dot 27 = .ok (.aaload, 1) := by decide +kernel
theorem dX6_dot_28 : decode cX6_dot 28 = .ok (.getfield 173, 3) := by decide +kernel
theorem dX6_dot_31 : decode cX6_dot 31 = .ok (.astore_n 3, 1) := by decide +kernel
theorem dX6_dot_32 : decode cX6_dot 32 = .ok (.aload_n 0, 1) := by decide +kernel
theorem dX6_dot_33 : decode cX6_dot 33 = .ok (.getfield 31, 3) := by decide +kernel
theorem dX6_dot_36 : decode cX6_dot 36 = .ok (.iload_n 2, 1) := by decide +kernel
theorem dX6_dot_37 : decode cX6_dot 37 = .ok (.aaload, 1) := by decide +kernel
theorem dX6_dot_38 : decode cX6_dot 38 = .ok (.getfield 173, 3) := by decide +kernel
theorem dX6_dot_41 : decode cX6_dot 41 = .ok (.astore 4, 2) := by decide +kernel
theorem dX6_dot_43 : decode cX6_dot 43 = .ok (.aload_n 0, 1) := by decide +kernel
theorem dX6_dot_44 : decode cX6_dot 44 = .ok (.getfield 10, 3) := by decide +kernel
theorem dX6_dot_47 : decode cX6_dot 47 = .ok (.getfield 162, 3) := by decide +kernel
theorem dX6_dot_50 : decode cX6_dot 50 = .ok (.astore 5, 2) := by decide +kernel
theorem dX6_dot_52 : decode cX6_dot 52 = .ok (.iconst 0, 1) := by decide +kernel
theorem dX6_dot_53 : decode cX6_dot 53 = .ok (.istore 6, 2) := by decide +kernel
theorem dX6_dot_55 : decode cX6_dot 55 = .ok (.iload 6, 2) := by decide +kernel
theorem dX6_dot_57 : decode cX6_dot 57 = .ok (.aload_n 3, 1) := by decide +kernel
theorem dX6_dot_58 : decode cX6_dot 58 = .ok (.arraylength, 1) := by decide +kernel
theorem dX6_dot_59 : decode cX6_dot 59 = .ok (.if_icmp .ge 59, 3) := by decide +kernel
theorem dX6_dot_62 : decode cX6_dot 62 = .ok (.aload 5, 2) := by decide +kernel
theorem dX6_dot_64 : decode cX6_dot 64 = .ok (.ifnull 54, 3) := by decide +kernel
theorem dX6_dot_67 : decode cX6_dot 67 = .ok (.aload_n 0, 1) := by decide +kernel
theorem dX6_dot_68 : decode cX6_dot 68 = .ok (.getfield 10, 3) := by decide +kernel
theorem dX6_dot_71 : decode cX6_dot 71 = .ok (.aload_n 3, 1) := by decide +kernel
theorem dX6_dot_72 : decode cX6_dot 72 = .ok (.iload 6, 2) := by decide +kernel
theorem dX6_dot_74 : decode cX6_dot 74 = .ok (.aaload, 1) := by decide +kernel
theorem dX6_dot_75 : decode cX6_dot 75 = .ok (.aload 4, 2) := by decide +kernel
theorem dX6_dot_77 : decode cX6_dot 77 = .ok (.iload 6, 2) := by decide +kernel
theorem dX6_dot_79 : decode cX6_dot 79 = .ok (.aaload, 1) := by decide +kernel
theorem dX6_dot_80 : decode cX6_dot 80 = .ok (.invokevirtual 69, 3) := by decide +kernel
theorem dX6_dot_83 : decode cX6_dot 83 = .ok (.astore 7, 2) := by decide +kernel
theorem dX6_dot_85 : decode cX6_dot 85 = .ok (.aload 7, 2) := by decide +kernel
theorem dX6_dot_87 : decode cX6_dot 87 = .ok (.ifnonnull 7, 3) := by decide +kernel
theorem dX6_dot_90 : decode cX6_dot 90 = .ok (.aconst_null, 1) := by decide +kernel
theorem dX6_dot_91 : decode cX6_dot 91 = .ok (.goto 19, 3) := by decide +kernel
theorem dX6_dot_94 : decode cX6_dot 94 = .ok (.aload_n 0, 1) := by decide +kernel
theorem dX6_dot_95 : decode cX6_dot 95 = .ok (.getfield 10, 3) := by decide +kernel
theorem dX6_dot_98 : decode cX6_dot 98 = .ok (.aload 5, 2) := by decide +kernel
theorem dX6_dot_100 : decode cX6_dot 100 = .ok (.aload 7, 2) := by decide +kernel
theorem dX6_dot_102 : decode cX6_dot 102 = .ok (.aload 7, 2) := by decide +kernel
theorem dX6_dot_104 : decode cX6_dot 104 = .ok (.getfield 61, 3) := by decide +kernel
theorem dX6_dot_107 : decode cX6_dot 107 = .ok (.invokevirtual 65, 3) := by decide +kernel
theorem dX6_dot_110 : decode cX6_dot 110 = .ok (.astore 5, 2) := by decide +kernel
theorem dX6_dot_112 : decode cX6_dot 112 = .ok (.iinc 6 1, 3) := by decide +kernel
theorem dX6_dot_115 : decode cX6_dot 115 = .ok (.goto (-60), 3) := by decide +kernel
theorem dX6_dot_118 : decode cX6_dot 118 = .ok (.aload_n 0, 1) := by decide +kernel
theorem dX6_dot_119 : decode cX6_dot 119 = .ok (.aload 5, 2) := by decide +kernel
theorem dX6_dot_121 : decode cX6_dot 121 = .ok (.invokevirtual 53, 3) := by decide +kernel
theorem dX6_dot_124 : decode cX6_dot 124 = .ok (.ireturn, 1) := by decide +kernel
theorem dX6_scale_0 : decode cX6_scale 0 = .ok (.aload_n 0, 1) := by decide +kernel
theorem dX6_scale_1 : decode cX6_scale 1 = .ok (.iload_n 1, 1) := by decide +kernel
theorem dX6_scale_2 : decode cX6_scale 2 = .ok (.invokevirtual 179, 3) := by decide +kernel
theorem dX6_scale_5 : decode cX6_scale 5 = .ok (.ifCond .eq 11, 3) := by decide +kernel
theorem dX6_scale_8 : decode cX6_scale 8 = .ok (.aload_n 0, 1) := by decide +kernel
theorem dX6_scale_9 : decode cX6_scale 9 = .ok (.iload_n 2, 1) := by decide +kernel
theorem dX6_scale_10 : decode cX6_scale 10 = .ok (.invokevirtual 57, 3) := by decide +kernel
theorem dX6_scale_13 : decode cX6_scale 13 = .ok (.ifCond .ne 6, 3) := by decide +kernel
theorem dX6_scale_16 : decode cX6_scale 16 = .ok (.bipush (-2), 2) := by decide +kernel
theorem dX6_scale_18 : decode cX6_scale 18 = .ok (.ireturn, 1) := by decide +kernel
theorem dX6_scale_19 : decode cX6_scale 19 = .ok (.aload_n 0, 1) := by decide +kernel
theorem dX6_scale_20 : decode cX6_scale 20 = .ok (.getfield 25, 3) := by decide +kernel
theorem dX6_scale_23 : decode cX6_scale 23 = .ok (.iload_n 2, 1) := by decide +kernel
theorem dX6_scale_24 : decode cX6_scale 24 = .ok (.aaload, 1) := by decide +kernel
theorem dX6_scale_25 : decode cX6_scale 25 = .ok (.astore_n 3, 1) := by decide +kernel
theorem dX6_scale_26 : decode cX6_scale 26 = .ok (.aload_n 3, 1) := by decide +kernel
theorem dX6_scale_27 : decode cX6_scale 27 = .ok (.getfield 61, 3) := by decide +kernel
theorem dX6_scale_30 : decode cX6_scale 30 = .ok (.ifCond .ne 6, 3) := by decide +kernel
theorem dX6_scale_33 : decode cX6_scale 33 = .ok (.bipush (-5), 2) := by decide +kernel
theorem dX6_scale_35 : decode cX6_scale 35 = .ok (.ireturn, 1) := by decide +kernel
theorem dX6_scale_36 : decode cX6_scale 36 = .ok (.aload_n 0, 1) := by decide +kernel
theorem dX6_scale_37 : decode cX6_scale 37 = .ok (.getfield 31, 3) := by decide +kernel
theorem dX6_scale_40 : decode cX6_scale 40 = .ok (.iload_n 1, 1) := by decide +kernel
theorem dX6_scale_41 : decode cX6_scale 41 = .ok (.aaload, 1) := by decide +kernel
theorem dX6_scale_42 : decode cX6_scale 42 = .ok (.getfield 173, 3) := by decide +kernel
theorem dX6_scale_45 : decode cX6_scale 45 = .ok (.astore 4, 2) := by decide +kernel
theorem dX6_scale_47 : decode cX6_scale 47 = .ok (.iconst 0, 1) := by decide +kernel
theorem dX6_scale_48 : decode cX6_scale 48 = .ok (.istore 5, 2) := by decide +kernel
theorem dX6_scale_50 : decode cX6_scale 50 = .ok (.iload 5, 2) := by decide +kernel
theorem dX6_scale_52 : decode cX6_scale 52 = .ok (.aload 4, 2) := by decide +kernel
theorem dX6_scale_54 : decode cX6_scale 54 = .ok (.arraylength, 1) := by decide +kernel
theorem dX6_scale_55 : decode cX6_scale 55 = .ok (.if_icmp .ge 44, 3) := by decide +kernel
theorem dX6_scale_58 : decode cX6_scale 58 = .ok (.aload_n 0, 1) := by decide +kernel
theorem dX6_scale_59 : decode cX6_scale 59 = .ok (.getfield 35, 3) := by decide +kernel
theorem dX6_scale_62 : decode cX6_scale 62 = .ok (.iload 5, 2) := by decide +kernel
theorem dX6_scale_64 : decode cX6_scale 64 = .ok (.aload_n 0, 1) := by decide +kernel
theorem dX6_scale_65 : decode cX6_scale 65 = .ok (.getfield 10, 3) := by decide +kernel
theorem dX6_scale_68 : decode cX6_scale 68 = .ok (.aload 4, 2) := by decide +kernel
theorem dX6_scale_70 : decode cX6_scale 70 = .ok (.iload 5, 2) := by decide +kernel
theorem dX6_scale_72 : decode cX6_scale 72 = .ok (.aaload, 1) := by decide +kernel
theorem dX6_scale_73 : decode cX6_scale 73 = .ok (.aload_n 3, 1) := by decide +kernel
theorem dX6_scale_74 : decode cX6_scale 74 = .ok (.invokevirtual 69, 3) := by decide +kernel
theorem dX6_scale_77 : decode cX6_scale 77 = .ok (.aastore, 1) := by decide +kernel
theorem dX6_scale_78 : decode cX6_scale 78 = .ok (.aload_n 0, 1) := by decide +kernel
theorem dX6_scale_79 : decode cX6_scale 79 = .ok (.getfield 35, 3) := by decide +kernel
theorem dX6_scale_82 : decode cX6_scale 82 = .ok (.iload 5, 2) := by decide +kernel
theorem dX6_scale_84 : decode cX6_scale 84 = .ok (.aaload, 1) := by decide +kernel
theorem dX6_scale_85 : decode cX6_scale 85 = .ok (.ifnonnull 8, 3) := by decide +kernel
theorem dX6_scale_88 : decode cX6_scale 88 = .ok (.aload_n 0, 1) := by decide +kernel
theorem dX6_scale_89 : decode cX6_scale 89 = .ok (.invokevirtual 182, 3) := by decide +kernel
theorem dX6_scale_92 : decode cX6_scale 92 = .ok (.ireturn, 1) := by decide +kernel
theorem dX6_scale_93 : decode cX6_scale 93 = .ok (.iinc 5 1, 3) := by decide +kernel
theorem dX6_scale_96 : decode cX6_scale 96 = .ok (.goto (-46), 3) := by decide +kernel
theorem dX6_scale_99 : decode cX6_scale 99 = .ok (.aload_n 0, 1) := by decide +kernel
theorem dX6_scale_100 : decode cX6_scale 100 = .ok (.aload 4, 2) := by decide +kernel
theorem dX6_scale_102 : decode cX6_scale 102 = .ok (.invokevirtual 185, 3) := by decide +kernel
theorem dX6_scale_105 : decode cX6_scale 105 = .ok (.ireturn, 1) := by decide +kernel
theorem dX6_eliminate_0 : decode cX6_eliminate 0 = .ok (.aload_n 0, 1) := by decide +kernel
theorem dX6_eliminate_1 : decode cX6_eliminate 1 = .ok (.iload_n 1, 1) := by decide +kernel
theorem dX6_eliminate_2 : decode cX6_eliminate 2 = .ok (.iload_n 2, 1) := by decide +kernel
theorem dX6_eliminate_3 : decode cX6_eliminate 3 = .ok (.invokevirtual 176, 3) := by decide +kernel
theorem dX6_eliminate_6 : decode cX6_eliminate 6 = .ok (.ifCond .eq 17, 3) := by decide +kernel
theorem dX6_eliminate_9 : decode cX6_eliminate 9 = .ok (.iload_n 1, 1) := by decide +kernel
theorem dX6_eliminate_10 : decode cX6_eliminate 10 = .ok (.iload_n 2, 1) := by decide +kernel
theorem dX6_eliminate_11 : decode cX6_eliminate 11 = .ok (.if_icmp .eq 12, 3) := by decide +kernel
theorem dX6_eliminate_14 : decode cX6_eliminate 14 = .ok (.aload_n 0, 1) := by decide +kernel
theorem dX6_eliminate_15 : decode cX6_eliminate 15 = .ok (.iload_n 1, 1) := by decide +kernel
theorem dX6_eliminate_16 : decode cX6_eliminate 16 = .ok (.iload_n 3, 1) := by decide +kernel
theorem dX6_eliminate_17 : decode cX6_eliminate 17 = .ok (.invokevirtual 169, 3) := by decide +kernel
theorem dX6_eliminate_20 : decode cX6_eliminate 20 = .ok (.ifCond .ne 6, 3) := by decide +kernel
theorem dX6_eliminate_23 : decode cX6_eliminate 23 = .ok (.bipush (-2), 2) := by decide +kernel
theorem dX6_eliminate_25 : decode cX6_eliminate 25 = .ok (.ireturn, 1) := by decide +kernel
theorem dX6_eliminate_26 : decode cX6_eliminate 26 = .ok (.aload_n 0, 1) := by decide +kernel
theorem dX6_eliminate_27 : decode cX6_eliminate 27 = .ok (.getfield 31, 3) := by decide +kernel
theorem dX6_eliminate_30 : decode cX6_eliminate 30 = .ok (.iload_n 1, 1) := by decide +kernel
theorem dX6_eliminate_31 : decode cX6_eliminate 31 = .ok (.aaload, 1) := by decide +kernel
theorem dX6_eliminate_32 : decode cX6_eliminate 32 = .ok (.getfield 173, 3) := by decide +kernel
theorem dX6_eliminate_35 : decode cX6_eliminate 35 = .ok (.astore 4, 2) := by decide +kernel
theorem dX6_eliminate_37 : decode cX6_eliminate 37 = .ok (.aload_n 0, 1) := by decide +kernel
theorem dX6_eliminate_38 : decode cX6_eliminate 38 = .ok (.getfield 31, 3) := by decide +kernel
theorem dX6_eliminate_41 : decode cX6_eliminate 41 = .ok (.iload_n 2, 1) := by decide +kernel
theorem dX6_eliminate_42 : decode cX6_eliminate 42 = .ok (.aaload, 1) := by decide +kernel
theorem dX6_eliminate_43 : decode cX6_eliminate 43 = .ok (.getfield 173, 3) := by decide +kernel
theorem dX6_eliminate_46 : decode cX6_eliminate 46 = .ok (.astore 5, 2) := by decide +kernel
theorem dX6_eliminate_48 : decode cX6_eliminate 48 = .ok (.aload 5, 2) := by decide +kernel
theorem dX6_eliminate_50 : decode cX6_eliminate 50 = .ok (.iload_n 3, 1) := by decide +kernel
theorem dX6_eliminate_51 : decode cX6_eliminate 51 = .ok (.aaload, 1) := by decide +kernel
theorem dX6_eliminate_52 : decode cX6_eliminate 52 = .ok (.getfield 61, 3) := by decide +kernel
theorem dX6_eliminate_55 : decode cX6_eliminate 55 = .ok (.ifCond .ne 6, 3) := by decide +kernel
theorem dX6_eliminate_58 : decode cX6_eliminate 58 = .ok (.bipush (-5), 2) := by decide +kernel
theorem dX6_eliminate_60 : decode cX6_eliminate 60 = .ok (.ireturn, 1) := by decide +kernel
theorem dX6_eliminate_61 : decode cX6_eliminate 61 = .ok (.aload 4, 2) := by decide +kernel
theorem dX6_eliminate_63 : decode cX6_eliminate 63 = .ok (.iload_n 3, 1) := by decide +kernel
theorem dX6_eliminate_64 : decode cX6_eliminate 64 = .ok (.aaload, 1) := by decide +kernel
theorem dX6_eliminate_65 : decode cX6_eliminate 65 = .ok (.getfield 61, 3) := by decide +kernel
theorem dX6_eliminate_68 : decode cX6_eliminate 68 = .ok (.ifCond .ne 5, 3) := by decide +kernel
theorem dX6_eliminate_71 : decode cX6_eliminate 71 = .ok (.iconst 0, 1) := by decide +kernel
theorem dX6_eliminate_72 : decode cX6_eliminate 72 = .ok (.ireturn, 1) := by decide +kernel
theorem dX6_eliminate_73 : decode cX6_eliminate 73 = .ok (.aload_n 0, 1) := by decide +kernel
theorem dX6_eliminate_74 : decode cX6_eliminate 74 = .ok (.getfield 10, 3) := by decide +kernel
theorem dX6_eliminate_77 : decode cX6_eliminate 77 = .ok (.aload 4, 2) := by decide +kernel
theorem dX6_eliminate_79 : decode cX6_eliminate 79 = .ok (.iload_n 3, 1) := by decide +kernel
theorem dX6_eliminate_80 : decode cX6_eliminate 80 = .ok (.aaload, 1) := by decide +kernel
theorem dX6_eliminate_81 : decode cX6_eliminate 81 = .ok (.aload 5, 2) := by decide +kernel
theorem dX6_eliminate_83 : decode cX6_eliminate 83 = .ok (.iload_n 3, 1) := by decide +kernel
theorem dX6_eliminate_84 : decode cX6_eliminate 84 = .ok (.aaload, 1) := by decide +kernel
theorem dX6_eliminate_85 : decode cX6_eliminate 85 = .ok (.invokevirtual 75, 3) := by decide +kernel
theorem dX6_eliminate_88 : decode cX6_eliminate 88 = .ok (.astore 6, 2) := by decide +kernel
theorem dX6_eliminate_90 : decode cX6_eliminate 90 = .ok (.iconst 0, 1) := by decide +kernel
theorem dX6_eliminate_91 : decode cX6_eliminate 91 = .ok (.istore 7, 2) := by decide +kernel
theorem dX6_eliminate_93 : decode cX6_eliminate 93 = .ok (.iload 7, 2) := by decide +kernel
theorem dX6_eliminate_95 : decode cX6_eliminate 95 = .ok (.aload 4, 2) := by decide +kernel
theorem dX6_eliminate_97 : decode cX6_eliminate 97 = .ok (.arraylength, 1) := by decide +kernel
theorem dX6_eliminate_98 : decode cX6_eliminate 98 = .ok (.if_icmp .ge 85, 3) := by decide +kernel
theorem dX6_eliminate_101 : decode cX6_eliminate 101 = .ok (.aload 6, 2) := by decide +kernel
theorem dX6_eliminate_103 : decode cX6_eliminate 103 = .ok (.ifnonnull 7, 3) := by decide +kernel
theorem dX6_eliminate_106 : decode cX6_eliminate 106 = .ok (.aconst_null, 1) := by decide +kernel
theorem dX6_eliminate_107 : decode cX6_eliminate 107 = .ok (.goto 17, 3) := by decide +kernel
theorem dX6_eliminate_110 : decode cX6_eliminate 110 = .ok (.aload_n 0, 1) := by decide +kernel
theorem dX6_eliminate_111 : decode cX6_eliminate 111 = .ok (.getfield 10, 3) := by decide +kernel
theorem dX6_eliminate_114 : decode cX6_eliminate 114 = .ok (.aload 6, 2) := by decide +kernel
theorem dX6_eliminate_116 : decode cX6_eliminate 116 = .ok (.aload 5, 2) := by decide +kernel
theorem dX6_eliminate_118 : decode cX6_eliminate 118 = .ok (.iload 7, 2) := by decide +kernel
theorem dX6_eliminate_120 : decode cX6_eliminate 120 = .ok (.aaload, 1) := by decide +kernel
theorem dX6_eliminate_121 : decode cX6_eliminate 121 = .ok (.invokevirtual 69, 3) := by decide +kernel
theorem dX6_eliminate_124 : decode cX6_eliminate 124 = .ok (.astore 8, 2) := by decide +kernel
theorem dX6_eliminate_126 : decode cX6_eliminate 126 = .ok (.aload_n 0, 1) := by decide +kernel
theorem dX6_eliminate_127 : decode cX6_eliminate 127 = .ok (.getfield 35, 3) := by decide +kernel
theorem dX6_eliminate_130 : decode cX6_eliminate 130 = .ok (.iload 7, 2) := by decide +kernel
theorem dX6_eliminate_132 : decode cX6_eliminate 132 = .ok (.aload 8, 2) := by decide +kernel
theorem dX6_eliminate_134 : decode cX6_eliminate 134 = .ok (.ifnonnull 7, 3) := by decide +kernel
theorem dX6_eliminate_137 : decode cX6_eliminate 137 = .ok (.aconst_null, 1) := by decide +kernel
theorem dX6_eliminate_138 : decode cX6_eliminate 138 = .ok (.goto 23, 3) := by decide +kernel
theorem dX6_eliminate_141 : decode cX6_eliminate 141 = .ok (.aload_n 0, 1) := by decide +kernel
theorem dX6_eliminate_142 : decode cX6_eliminate 142 = .ok (.getfield 10, 3) := by decide +kernel
theorem dX6_eliminate_145 : decode cX6_eliminate 145 = .ok (.aload 4, 2) := by decide +kernel
theorem dX6_eliminate_147 : decode cX6_eliminate 147 = .ok (.iload 7, 2) := by decide +kernel
theorem dX6_eliminate_149 : decode cX6_eliminate 149 = .ok (.aaload, 1) := by decide +kernel
theorem dX6_eliminate_150 : decode cX6_eliminate 150 = .ok (.aload 8, 2) := by decide +kernel
theorem dX6_eliminate_152 : decode cX6_eliminate 152 = .ok (.aload 8, 2) := by decide +kernel
theorem dX6_eliminate_154 : decode cX6_eliminate 154 = .ok (.getfield 61, 3) := by decide +kernel
theorem dX6_eliminate_157 : decode cX6_eliminate 157 = .ok (.ineg, 1) := by decide +kernel
theorem dX6_eliminate_158 : decode cX6_eliminate 158 = .ok (.invokevirtual 65, 3) := by decide +kernel
theorem dX6_eliminate_161 : decode cX6_eliminate 161 = .ok (.aastore, 1) := by decide +kernel
theorem dX6_eliminate_162 : decode cX6_eliminate 162 = .ok (.aload_n 0, 1) := by decide +kernel
theorem dX6_eliminate_163 : decode cX6_eliminate 163 = .ok (.getfield 35, 3) := by decide +kernel
theorem dX6_eliminate_166 : decode cX6_eliminate 166 = .ok (.iload 7, 2) := by decide +kernel
theorem dX6_eliminate_168 : decode cX6_eliminate 168 = .ok (.aaload, 1) := by decide +kernel
theorem dX6_eliminate_169 : decode cX6_eliminate 169 = .ok (.ifnonnull 8, 3) := by decide +kernel
theorem dX6_eliminate_172 : decode cX6_eliminate 172 = .ok (.aload_n 0, 1) := by decide +kernel
theorem dX6_eliminate_173 : decode cX6_eliminate 173 = .ok (.invokevirtual 182, 3) := by decide +kernel
theorem dX6_eliminate_176 : decode cX6_eliminate 176 = .ok (.ireturn, 1) := by decide +kernel
theorem dX6_eliminate_177 : decode cX6_eliminate 177 = .ok (.iinc 7 1, 3) := by decide +kernel
theorem dX6_eliminate_180 : decode cX6_eliminate 180 = .ok (.goto (-87), 3) := by decide +kernel
theorem dX6_eliminate_183 : decode cX6_eliminate 183 = .ok (.aload_n 0, 1) := by decide +kernel
theorem dX6_eliminate_184 : decode cX6_eliminate 184 = .ok (.aload 4, 2) := by decide +kernel
theorem dX6_eliminate_186 : decode cX6_eliminate 186 = .ok (.invokevirtual 185, 3) := by decide +kernel
theorem dX6_eliminate_189 : decode cX6_eliminate 189 = .ok (.ireturn, 1) := by decide +kernel
theorem dX6_primitive_0 : decode cX6_primitive 0 = .ok (.aload_n 0, 1) := by decide +kernel
theorem dX6_primitive_1 : decode cX6_primitive 1 = .ok (.iload_n 1, 1) := by decide +kernel
theorem dX6_primitive_2 : decode cX6_primitive 2 = .ok (.invokevirtual 179, 3) := by decide +kernel
theorem dX6_primitive_5 : decode cX6_primitive 5 = .ok (.ifCond .ne 6, 3) := by decide +kernel
theorem dX6_primitive_8 : decode cX6_primitive 8 = .ok (.bipush (-2), 2) := by decide +kernel
theorem dX6_primitive_10 : decode cX6_primitive 10 = .ok (.ireturn, 1) := by decide +kernel
theorem dX6_primitive_11 : decode cX6_primitive 11 = .ok (.aload_n 0, 1) := by decide +kernel
theorem dX6_primitive_12 : decode cX6_primitive 12 = .ok (.getfield 31, 3) := by decide +kernel
theorem dX6_primitive_15 : decode cX6_primitive 15 = .ok (.iload_n 1, 1) := by decide +kernel
theorem dX6_primitive_16 : decode cX6_primitive 16 = .ok (.aaload, 1) := by decide +kernel
theorem dX6_primitive_17 : decode cX6_primitive 17 = .ok (.getfield 173, 3) := by decide +kernel
theorem dX6_primitive_20 : decode cX6_primitive 20 = .ok (.astore_n 2, 1) := by decide +kernel
theorem dX6_primitive_21 : decode cX6_primitive 21 = .ok (.aload_n 0, 1) := by decide +kernel
theorem dX6_primitive_22 : decode cX6_primitive 22 = .ok (.aload_n 2, 1) := by decide +kernel
theorem dX6_primitive_23 : decode cX6_primitive 23 = .ok (.invokevirtual 189, 3) := by decide +kernel
theorem dX6_primitive_26 : decode cX6_primitive 26 = .ok (.astore_n 3, 1) := by decide +kernel
theorem dX6_primitive_27 : decode cX6_primitive 27 = .ok (.aload_n 3, 1) := by decide +kernel
theorem dX6_primitive_28 : decode cX6_primitive 28 = .ok (.ifnonnull 8, 3) := by decide +kernel
theorem dX6_primitive_31 : decode cX6_primitive 31 = .ok (.aload_n 0, 1) := by decide +kernel
theorem dX6_primitive_32 : decode cX6_primitive 32 = .ok (.invokevirtual 182, 3) := by decide +kernel
theorem dX6_primitive_35 : decode cX6_primitive 35 = .ok (.ireturn, 1) := by decide +kernel
theorem dX6_primitive_36 : decode cX6_primitive 36 = .ok (.aload_n 3, 1) := by decide +kernel
theorem dX6_primitive_37 : decode cX6_primitive 37 = .ok (.getfield 61, 3) := by decide +kernel
theorem dX6_primitive_40 : decode cX6_primitive 40 = .ok (.ifCond .ne 5, 3) := by decide +kernel
theorem dX6_primitive_43 : decode cX6_primitive 43 = .ok (.iconst 0, 1) := by decide +kernel
theorem dX6_primitive_44 : decode cX6_primitive 44 = .ok (.ireturn, 1) := by decide +kernel
theorem dX6_primitive_45 : decode cX6_primitive 45 = .ok (.iconst 0, 1) := by decide +kernel
theorem dX6_primitive_46 : decode cX6_primitive 46 = .ok (.istore 4, 2) := by decide +kernel
theorem dX6_primitive_48 : decode cX6_primitive 48 = .ok (.iload 4, 2) := by decide +kernel
theorem dX6_primitive_50 : decode cX6_primitive 50 = .ok (.aload_n 2, 1) := by decide +kernel
theorem dX6_primitive_51 : decode cX6_primitive 51 = .ok (.arraylength, 1) := by decide +kernel
theorem dX6_primitive_52 : decode cX6_primitive 52 = .ok (.if_icmp .ge 43, 3) := by decide +kernel
theorem dX6_primitive_55 : decode cX6_primitive 55 = .ok (.aload_n 0, 1) := by decide +kernel
theorem dX6_primitive_56 : decode cX6_primitive 56 = .ok (.getfield 35, 3) := by decide +kernel
theorem dX6_primitive_59 : decode cX6_primitive 59 = .ok (.iload 4, 2) := by decide +kernel
theorem dX6_primitive_61 : decode cX6_primitive 61 = .ok (.aload_n 0, 1) := by decide +kernel
theorem dX6_primitive_62 : decode cX6_primitive 62 = .ok (.getfield 10, 3) := by decide +kernel
theorem dX6_primitive_65 : decode cX6_primitive 65 = .ok (.aload_n 2, 1) := by decide +kernel
theorem dX6_primitive_66 : decode cX6_primitive 66 = .ok (.iload 4, 2) := by decide +kernel
theorem dX6_primitive_68 : decode cX6_primitive 68 = .ok (.aaload, 1) := by decide +kernel
theorem dX6_primitive_69 : decode cX6_primitive 69 = .ok (.aload_n 3, 1) := by decide +kernel
theorem dX6_primitive_70 : decode cX6_primitive 70 = .ok (.invokevirtual 75, 3) := by decide +kernel
theorem dX6_primitive_73 : decode cX6_primitive 73 = .ok (.aastore, 1) := by decide +kernel
theorem dX6_primitive_74 : decode cX6_primitive 74 = .ok (.aload_n 0, 1) := by decide +kernel
theorem dX6_primitive_75 : decode cX6_primitive 75 = .ok (.getfield 35, 3) := by decide +kernel
theorem dX6_primitive_78 : decode cX6_primitive 78 = .ok (.iload 4, 2) := by decide +kernel
theorem dX6_primitive_80 : decode cX6_primitive 80 = .ok (.aaload, 1) := by decide +kernel
theorem dX6_primitive_81 : decode cX6_primitive 81 = .ok (.ifnonnull 8, 3) := by decide +kernel
theorem dX6_primitive_84 : decode cX6_primitive 84 = .ok (.aload_n 0, 1) := by decide +kernel
theorem dX6_primitive_85 : decode cX6_primitive 85 = .ok (.invokevirtual 182, 3) := by decide +kernel
theorem dX6_primitive_88 : decode cX6_primitive 88 = .ok (.ireturn, 1) := by decide +kernel
theorem dX6_primitive_89 : decode cX6_primitive 89 = .ok (.iinc 4 1, 3) := by decide +kernel
theorem dX6_primitive_92 : decode cX6_primitive 92 = .ok (.goto (-44), 3) := by decide +kernel
theorem dX6_primitive_95 : decode cX6_primitive 95 = .ok (.aload_n 0, 1) := by decide +kernel
theorem dX6_primitive_96 : decode cX6_primitive 96 = .ok (.aload_n 2, 1) := by decide +kernel
theorem dX6_primitive_97 : decode cX6_primitive 97 = .ok (.invokevirtual 185, 3) := by decide +kernel
theorem dX6_primitive_100 : decode cX6_primitive 100 = .ok (.ireturn, 1) := by decide +kernel
theorem dX6_lead_0 : decode cX6_lead 0 = .ok (.aload_n 0, 1) := by decide +kernel
theorem dX6_lead_1 : decode cX6_lead 1 = .ok (.iload_n 1, 1) := by decide +kernel
theorem dX6_lead_2 : decode cX6_lead 2 = .ok (.invokevirtual 179, 3) := by decide +kernel
theorem dX6_lead_5 : decode cX6_lead 5 = .ok (.ifCond .eq 15, 3) := by decide +kernel
theorem dX6_lead_8 : decode cX6_lead 8 = .ok (.aload_n 0, 1) := by decide +kernel
theorem dX6_lead_9 : decode cX6_lead 9 = .ok (.getfield 31, 3) := by decide +kernel
theorem dX6_lead_12 : decode cX6_lead 12 = .ok (.iload_n 1, 1) := by decide +kernel
theorem dX6_lead_13 : decode cX6_lead 13 = .ok (.aaload, 1) := by decide +kernel
theorem dX6_lead_14 : decode cX6_lead 14 = .ok (.invokevirtual 193, 3) := by decide +kernel
theorem dX6_lead_17 : decode cX6_lead 17 = .ok (.goto 5, 3) := by decide +kernel
theorem dX6_lead_20 : decode cX6_lead 20 = .ok (.bipush (-2), 2) := by decide +kernel
theorem dX6_lead_22 : decode cX6_lead 22 = .ok (.ireturn, 1) := by decide +kernel
theorem dX6_alike_0 : decode cX6_alike 0 = .ok (.aload_n 0, 1) := by decide +kernel
theorem dX6_alike_1 : decode cX6_alike 1 = .ok (.iload_n 1, 1) := by decide +kernel
theorem dX6_alike_2 : decode cX6_alike 2 = .ok (.iload_n 2, 1) := by decide +kernel
theorem dX6_alike_3 : decode cX6_alike 3 = .ok (.invokevirtual 176, 3) := by decide +kernel
theorem dX6_alike_6 : decode cX6_alike 6 = .ok (.ifCond .eq 12, 3) := by decide +kernel
theorem dX6_alike_9 : decode cX6_alike 9 = .ok (.iload_n 3, 1) := by decide +kernel
theorem dX6_alike_10 : decode cX6_alike 10 = .ok (.ifCond .lt 8, 3) := by decide +kernel
theorem dX6_alike_13 : decode cX6_alike 13 = .ok (.iload_n 3, 1) := by decide +kernel
theorem dX6_alike_14 : decode cX6_alike 14 = .ok (.iconst 1, 1) := by decide +kernel
theorem dX6_alike_15 : decode cX6_alike 15 = .ok (.if_icmp .le 6, 3) := by decide +kernel
theorem dX6_alike_18 : decode cX6_alike 18 = .ok (.bipush (-2), 2) := by decide +kernel
theorem dX6_alike_20 : decode cX6_alike 20 = .ok (.ireturn, 1) := by decide +kernel
theorem dX6_alike_21 : decode cX6_alike 21 = .ok (.iload_n 3, 1) := by decide +kernel
theorem dX6_alike_22 : decode cX6_alike 22 = .ok (.ifCond .ne 22, 3) := by decide +kernel
theorem dX6_alike_25 : decode cX6_alike 25 = .ok (.aload_n 0, 1) := by decide +kernel
theorem dX6_alike_26 : decode cX6_alike 26 = .ok (.aload_n 0, 1) := by decide +kernel
theorem dX6_alike_27 : decode cX6_alike 27 = .ok (.getfield 31, 3) := by decide +kernel
theorem dX6_alike_30 : decode cX6_alike 30 = .ok (.iload_n 1, 1) := by decide +kernel
theorem dX6_alike_31 : decode cX6_alike 31 = .ok (.aaload, 1) := by decide +kernel
theorem dX6_alike_32 : decode cX6_alike 32 = .ok (.aload_n 0, 1) := by decide +kernel
theorem dX6_alike_33 : decode cX6_alike 33 = .ok (.getfield 31, 3) := by decide +kernel
theorem dX6_alike_36 : decode cX6_alike 36 = .ok (.iload_n 2, 1) := by decide +kernel
theorem dX6_alike_37 : decode cX6_alike 37 = .ok (.aaload, 1) := by decide +kernel
theorem dX6_alike_38 : decode cX6_alike 38 = .ok (.invokevirtual 196, 3) := by decide +kernel
theorem dX6_alike_41 : decode cX6_alike 41 = .ok (.goto 19, 3) := by decide +kernel
theorem dX6_alike_44 : decode cX6_alike 44 = .ok (.aload_n 0, 1) := by decide +kernel
theorem dX6_alike_45 : decode cX6_alike 45 = .ok (.aload_n 0, 1) := by decide +kernel
theorem dX6_alike_46 : decode cX6_alike 46 = .ok (.getfield 31, 3) := by decide +kernel
theorem dX6_alike_49 : decode cX6_alike 49 = .ok (.iload_n 1, 1) := by decide +kernel
theorem dX6_alike_50 : decode cX6_alike 50 = .ok (.aaload, 1) := by decide +kernel
theorem dX6_alike_51 : decode cX6_alike 51 = .ok (.aload_n 0, 1) := by decide +kernel
theorem dX6_alike_52 : decode cX6_alike 52 = .ok (.getfield 31, 3) := by decide +kernel
theorem dX6_alike_55 : decode cX6_alike 55 = .ok (.iload_n 2, 1) := by decide +kernel
theorem dX6_alike_56 : decode cX6_alike 56 = .ok (.aaload, 1) := by decide +kernel
theorem dX6_alike_57 : decode cX6_alike 57 = .ok (.invokevirtual 200, 3) := by decide +kernel
theorem dX6_alike_60 : decode cX6_alike 60 = .ok (.istore 4, 2) := by decide +kernel
theorem dX6_alike_62 : decode cX6_alike 62 = .ok (.iload 4, 2) := by decide +kernel
theorem dX6_alike_64 : decode cX6_alike 64 = .ok (.ifCond .eq 7, 3) := by decide +kernel
theorem dX6_alike_67 : decode cX6_alike 67 = .ok (.iconst 1, 1) := by decide +kernel
theorem dX6_alike_68 : decode cX6_alike 68 = .ok (.goto 4, 3) := by decide +kernel
theorem dX6_alike_71 : decode cX6_alike 71 = .ok (.iconst 0, 1) := by decide +kernel
theorem dX6_alike_72 : decode cX6_alike 72 = .ok (.ireturn, 1) := by decide +kernel
theorem dX6_decimal_0 : decode cX6_decimal 0 = .ok (.aload_n 0, 1) := by decide +kernel
theorem dX6_decimal_1 : decode cX6_decimal 1 = .ok (.iload_n 1, 1) := by decide +kernel
theorem dX6_decimal_2 : decode cX6_decimal 2 = .ok (.invokevirtual 57, 3) := by decide +kernel
theorem dX6_decimal_5 : decode cX6_decimal 5 = .ok (.ifCond .eq 22, 3) := by decide +kernel
theorem dX6_decimal_8 : decode cX6_decimal 8 = .ok (.iload_n 2, 1) := by decide +kernel
theorem dX6_decimal_9 : decode cX6_decimal 9 = .ok (.ifCond .lt 18, 3) := by decide +kernel
theorem dX6_decimal_12 : decode cX6_decimal 12 = .ok (.iload_n 2, 1) := by decide +kernel
theorem dX6_decimal_13 : decode cX6_decimal 13 = .ok (.bipush 30, 2) := by decide +kernel
theorem dX6_decimal_15 : decode cX6_decimal 15 = .ok (.if_icmp .gt 12, 3) := by decide +kernel
theorem dX6_decimal_18 : decode cX6_decimal 18 = .ok (.iload_n 3, 1) := by decide +kernel
theorem dX6_decimal_19 : decode cX6_decimal 19 = .ok (.ifCond .lt 8, 3) := by decide +kernel
theorem dX6_decimal_22 : decode cX6_decimal 22 = .ok (.iload_n 3, 1) := by decide +kernel
theorem dX6_decimal_23 : decode cX6_decimal 23 = .ok (.iconst 1, 1) := by decide +kernel
theorem dX6_decimal_24 : decode cX6_decimal 24 = .ok (.if_icmp .le 6, 3) := by decide +kernel
theorem dX6_decimal_27 : decode cX6_decimal 27 = .ok (.bipush (-2), 2) := by decide +kernel
theorem dX6_decimal_29 : decode cX6_decimal 29 = .ok (.ireturn, 1) := by decide +kernel
theorem dX6_decimal_30 : decode cX6_decimal 30 = .ok (.aload_n 0, 1) := by decide +kernel
theorem dX6_decimal_31 : decode cX6_decimal 31 = .ok (.getfield 25, 3) := by decide +kernel
theorem dX6_decimal_34 : decode cX6_decimal 34 = .ok (.iload_n 1, 1) := by decide +kernel
theorem dX6_decimal_35 : decode cX6_decimal 35 = .ok (.aaload, 1) := by decide +kernel
theorem dX6_decimal_36 : decode cX6_decimal 36 = .ok (.getfield 61, 3) := by decide +kernel
theorem dX6_decimal_39 : decode cX6_decimal 39 = .ok (.ifCond .ge 7, 3) := by decide +kernel
theorem dX6_decimal_42 : decode cX6_decimal 42 = .ok (.iconst 1, 1) := by decide +kernel
theorem dX6_decimal_43 : decode cX6_decimal 43 = .ok (.goto 4, 3) := by decide +kernel
theorem dX6_decimal_46 : decode cX6_decimal 46 = .ok (.iconst 0, 1) := by decide +kernel
theorem dX6_decimal_47 : decode cX6_decimal 47 = .ok (.istore 4, 2) := by decide +kernel
theorem dX6_decimal_49 : decode cX6_decimal 49 = .ok (.aload_n 0, 1) := by decide +kernel
theorem dX6_decimal_50 : decode cX6_decimal 50 = .ok (.getfield 19, 3) := by decide +kernel
theorem dX6_decimal_53 : decode cX6_decimal 53 = .ok (.iload 4, 2) := by decide +kernel
theorem dX6_decimal_55 : decode cX6_decimal 55 = .ok (.aload_n 0, 1) := by decide +kernel
theorem dX6_decimal_56 : decode cX6_decimal 56 = .ok (.getfield 10, 3) := by decide +kernel
theorem dX6_decimal_59 : decode cX6_decimal 59 = .ok (.aload_n 0, 1) := by decide +kernel
theorem dX6_decimal_60 : decode cX6_decimal 60 = .ok (.getfield 25, 3) := by decide +kernel
theorem dX6_decimal_63 : decode cX6_decimal 63 = .ok (.iload_n 1, 1) := by decide +kernel
theorem dX6_decimal_64 : decode cX6_decimal 64 = .ok (.aaload, 1) := by decide +kernel
theorem dX6_decimal_65 : decode cX6_decimal 65 = .ok (.iload_n 2, 1) := by decide +kernel
theorem dX6_decimal_66 : decode cX6_decimal 66 = .ok (.iload_n 3, 1) := by decide +kernel
theorem dX6_decimal_67 : decode cX6_decimal 67 = .ok (.invokevirtual 203, 3) := by decide +kernel
theorem dX6_decimal_70 : decode cX6_decimal 70 = .ok (.iload_n 2, 1) := by decide +kernel
theorem dX6_decimal_71 : decode cX6_decimal 71 = .ok (.invokevirtual 207, 3) := by decide +kernel
theorem dX6_decimal_74 : decode cX6_decimal 74 = .ok (.aload_n 0, 1) := by decide +kernel
theorem dX6_decimal_75 : decode cX6_decimal 75 = .ok (.getfield 19, 3) := by decide +kernel
theorem dX6_decimal_78 : decode cX6_decimal 78 = .ok (.getfield 211, 3) := by decide +kernel
theorem dX6_decimal_81 : decode cX6_decimal 81 = .ok (.ireturn, 1) := by decide +kernel
theorem dX6_letter_0 : decode cX6_letter 0 = .ok (.iload_n 1, 1) := by decide +kernel
theorem dX6_letter_1 : decode cX6_letter 1 = .ok (.ifCond .lt 26, 3) := by decide +kernel
theorem dX6_letter_4 : decode cX6_letter 4 = .ok (.iload_n 1, 1) := by decide +kernel
theorem dX6_letter_5 : decode cX6_letter 5 = .ok (.aload_n 0, 1) := by decide +kernel
theorem dX6_letter_6 : decode cX6_letter 6 = .ok (.getfield 19, 3) := by decide +kernel
theorem dX6_letter_9 : decode cX6_letter 9 = .ok (.getfield 211, 3) := by decide +kernel
theorem dX6_letter_12 : decode cX6_letter 12 = .ok (.if_icmp .ge 15, 3) := by decide +kernel
theorem dX6_letter_15 : decode cX6_letter 15 = .ok (.aload_n 0, 1) := by decide +kernel
theorem dX6_letter_16 : decode cX6_letter 16 = .ok (.getfield 19, 3) := by decide +kernel
theorem dX6_letter_19 : decode cX6_letter 19 = .ok (.getfield 214, 3) := by decide +kernel
theorem dX6_letter_22 : decode cX6_letter 22 = .ok (.iload_n 1, 1) := by decide +kernel
theorem dX6_letter_23 : decode cX6_letter 23 = .ok (.baload, 1) := by decide +kernel
theorem dX6_letter_24 : decode cX6_letter 24 = .ok (.goto 4, 3) := by decide +kernel
theorem dX6_letter_27 : decode cX6_letter 27 = .ok (.iconst (-1), 1) := by decide +kernel
theorem dX6_letter_28 : decode cX6_letter 28 = .ok (.ireturn, 1) := by decide +kernel
theorem dX6_count_0 : decode cX6_count 0 = .ok (.iload_n 1, 1) := by decide +kernel
theorem dX6_count_1 : decode cX6_count 1 = .ok (.tableswitch 60 0 4 #[35, 40, 45, 50, 55], 35) := by decide +kernel
theorem dX6_count_36 : decode cX6_count 36 = .ok (.aload_n 0, 1) := by decide +kernel
theorem dX6_count_37 : decode cX6_count 37 = .ok (.getfield 218, 3) := by decide +kernel
theorem dX6_count_40 : decode cX6_count 40 = .ok (.ireturn, 1) := by decide +kernel
theorem dX6_count_41 : decode cX6_count 41 = .ok (.aload_n 0, 1) := by decide +kernel
theorem dX6_count_42 : decode cX6_count 42 = .ok (.getfield 159, 3) := by decide +kernel
theorem dX6_count_45 : decode cX6_count 45 = .ok (.ireturn, 1) := by decide +kernel
theorem dX6_count_46 : decode cX6_count 46 = .ok (.aload_n 0, 1) := by decide +kernel
theorem dX6_count_47 : decode cX6_count 47 = .ok (.getfield 221, 3) := by decide +kernel
theorem dX6_count_50 : decode cX6_count 50 = .ok (.ireturn, 1) := by decide +kernel
theorem dX6_count_51 : decode cX6_count 51 = .ok (.aload_n 0, 1) := by decide +kernel
theorem dX6_count_52 : decode cX6_count 52 = .ok (.getfield 224, 3) := by decide +kernel
theorem dX6_count_55 : decode cX6_count 55 = .ok (.ireturn, 1) := by decide +kernel
theorem dX6_count_56 : decode cX6_count 56 = .ok (.aload_n 0, 1) := by decide +kernel
theorem dX6_count_57 : decode cX6_count 57 = .ok (.getfield 227, 3) := by decide +kernel
theorem dX6_count_60 : decode cX6_count 60 = .ok (.ireturn, 1) := by decide +kernel
theorem dX6_count_61 : decode cX6_count 61 = .ok (.bipush (-2), 2) := by decide +kernel
theorem dX6_count_63 : decode cX6_count 63 = .ok (.ireturn, 1) := by decide +kernel
theorem dX6_clear_0 : decode cX6_clear 0 = .ok (.aload_n 0, 1) := by decide +kernel
theorem dX6_clear_1 : decode cX6_clear 1 = .ok (.getfield 218, 3) := by decide +kernel
theorem dX6_clear_4 : decode cX6_clear 4 = .ok (.istore_n 1, 1) := by decide +kernel
theorem dX6_clear_5 : decode cX6_clear 5 = .ok (.aload_n 0, 1) := by decide +kernel
theorem dX6_clear_6 : decode cX6_clear 6 = .ok (.iconst 0, 1) := by decide +kernel
theorem dX6_clear_7 : decode cX6_clear 7 = .ok (.putfield 218, 3) := by decide +kernel
theorem dX6_clear_10 : decode cX6_clear 10 = .ok (.aload_n 0, 1) := by decide +kernel
theorem dX6_clear_11 : decode cX6_clear 11 = .ok (.iconst 0, 1) := by decide +kernel
theorem dX6_clear_12 : decode cX6_clear 12 = .ok (.putfield 159, 3) := by decide +kernel
theorem dX6_clear_15 : decode cX6_clear 15 = .ok (.aload_n 0, 1) := by decide +kernel
theorem dX6_clear_16 : decode cX6_clear 16 = .ok (.iconst 0, 1) := by decide +kernel
theorem dX6_clear_17 : decode cX6_clear 17 = .ok (.putfield 221, 3) := by decide +kernel
theorem dX6_clear_20 : decode cX6_clear 20 = .ok (.aload_n 0, 1) := by decide +kernel
theorem dX6_clear_21 : decode cX6_clear 21 = .ok (.iconst 0, 1) := by decide +kernel
theorem dX6_clear_22 : decode cX6_clear 22 = .ok (.putfield 224, 3) := by decide +kernel
theorem dX6_clear_25 : decode cX6_clear 25 = .ok (.aload_n 0, 1) := by decide +kernel
theorem dX6_clear_26 : decode cX6_clear 26 = .ok (.iconst 0, 1) := by decide +kernel
theorem dX6_clear_27 : decode cX6_clear 27 = .ok (.putfield 227, 3) := by decide +kernel
theorem dX6_clear_30 : decode cX6_clear 30 = .ok (.aload_n 0, 1) := by decide +kernel
theorem dX6_clear_31 : decode cX6_clear 31 = .ok (.getfield 19, 3) := by decide +kernel
theorem dX6_clear_34 : decode cX6_clear 34 = .ok (.iconst 0, 1) := by decide +kernel
theorem dX6_clear_35 : decode cX6_clear 35 = .ok (.putfield 211, 3) := by decide +kernel
theorem dX6_clear_38 : decode cX6_clear 38 = .ok (.iload_n 1, 1) := by decide +kernel
theorem dX6_clear_39 : decode cX6_clear 39 = .ok (.ireturn, 1) := by decide +kernel
theorem dX6_isValue_0 : decode cX6_isValue 0 = .ok (.iload_n 1, 1) := by decide +kernel
theorem dX6_isValue_1 : decode cX6_isValue 1 = .ok (.ifCond .lt 15, 3) := by decide +kernel
theorem dX6_isValue_4 : decode cX6_isValue 4 = .ok (.iload_n 1, 1) := by decide +kernel
theorem dX6_isValue_5 : decode cX6_isValue 5 = .ok (.aload_n 0, 1) := by decide +kernel
theorem dX6_isValue_6 : decode cX6_isValue 6 = .ok (.getfield 218, 3) := by decide +kernel
theorem dX6_isValue_9 : decode cX6_isValue 9 = .ok (.if_icmp .ge 7, 3) := by decide +kernel
theorem dX6_isValue_12 : decode cX6_isValue 12 = .ok (.iconst 1, 1) := by decide +kernel
theorem dX6_isValue_13 : decode cX6_isValue 13 = .ok (.goto 4, 3) := by decide +kernel
theorem dX6_isValue_16 : decode cX6_isValue 16 = .ok (.iconst 0, 1) := by decide +kernel
theorem dX6_isValue_17 : decode cX6_isValue 17 = .ok (.ireturn, 1) := by decide +kernel
theorem dX6_isRow_0 : decode cX6_isRow 0 = .ok (.iload_n 1, 1) := by decide +kernel
theorem dX6_isRow_1 : decode cX6_isRow 1 = .ok (.ifCond .lt 15, 3) := by decide +kernel
theorem dX6_isRow_4 : decode cX6_isRow 4 = .ok (.iload_n 1, 1) := by decide +kernel
theorem dX6_isRow_5 : decode cX6_isRow 5 = .ok (.aload_n 0, 1) := by decide +kernel
theorem dX6_isRow_6 : decode cX6_isRow 6 = .ok (.getfield 159, 3) := by decide +kernel
theorem dX6_isRow_9 : decode cX6_isRow 9 = .ok (.if_icmp .ge 7, 3) := by decide +kernel
theorem dX6_isRow_12 : decode cX6_isRow 12 = .ok (.iconst 1, 1) := by decide +kernel
theorem dX6_isRow_13 : decode cX6_isRow 13 = .ok (.goto 4, 3) := by decide +kernel
theorem dX6_isRow_16 : decode cX6_isRow 16 = .ok (.iconst 0, 1) := by decide +kernel
theorem dX6_isRow_17 : decode cX6_isRow 17 = .ok (.ireturn, 1) := by decide +kernel
theorem dX6_isPlace_0 : decode cX6_isPlace 0 = .ok (.aload_n 0, 1) := by decide +kernel
theorem dX6_isPlace_1 : decode cX6_isPlace 1 = .ok (.iload_n 1, 1) := by decide +kernel
theorem dX6_isPlace_2 : decode cX6_isPlace 2 = .ok (.invokevirtual 179, 3) := by decide +kernel
theorem dX6_isPlace_5 : decode cX6_isPlace 5 = .ok (.ifCond .eq 25, 3) := by decide +kernel
theorem dX6_isPlace_8 : decode cX6_isPlace 8 = .ok (.iload_n 2, 1) := by decide +kernel
theorem dX6_isPlace_9 : decode cX6_isPlace 9 = .ok (.ifCond .lt 21, 3) := by decide +kernel
theorem dX6_isPlace_12 : decode cX6_isPlace 12 = .ok (.iload_n 2, 1) := by decide +kernel
theorem dX6_isPlace_13 : decode cX6_isPlace 13 = .ok (.aload_n 0, 1) := by decide +kernel
theorem dX6_isPlace_14 : decode cX6_isPlace 14 = .ok (.getfield 31, 3) := by decide +kernel
theorem dX6_isPlace_17 : decode cX6_isPlace 17 = .ok (.iload_n 1, 1) := by decide +kernel
theorem dX6_isPlace_18 : decode cX6_isPlace 18 = .ok (.aaload, 1) := by decide +kernel
theorem dX6_isPlace_19 : decode cX6_isPlace 19 = .ok (.getfield 173, 3) := by decide +kernel
theorem dX6_isPlace_22 : decode cX6_isPlace 22 = .ok (.arraylength, 1) := by decide +kernel
theorem dX6_isPlace_23 : decode cX6_isPlace 23 = .ok (.if_icmp .ge 7, 3) := by decide +kernel
theorem dX6_isPlace_26 : decode cX6_isPlace 26 = .ok (.iconst 1, 1) := by decide +kernel
theorem dX6_isPlace_27 : decode cX6_isPlace 27 = .ok (.goto 4, 3) := by decide +kernel
theorem dX6_isPlace_30 : decode cX6_isPlace 30 = .ok (.iconst 0, 1) := by decide +kernel
theorem dX6_isPlace_31 : decode cX6_isPlace 31 = .ok (.ireturn, 1) := by decide +kernel
theorem dX6_areAsLong_0 : decode cX6_areAsLong 0 = .ok (.aload_n 0, 1) := by decide +kernel
theorem dX6_areAsLong_1 : decode cX6_areAsLong 1 = .ok (.iload_n 1, 1) := by decide +kernel
theorem dX6_areAsLong_2 : decode cX6_areAsLong 2 = .ok (.invokevirtual 179, 3) := by decide +kernel
theorem dX6_areAsLong_5 : decode cX6_areAsLong 5 = .ok (.ifCond .eq 38, 3) := by decide +kernel
theorem dX6_areAsLong_8 : decode cX6_areAsLong 8 = .ok (.aload_n 0, 1) := by decide +kernel
theorem dX6_areAsLong_9 : decode cX6_areAsLong 9 = .ok (.iload_n 2, 1) := by decide +kernel
theorem dX6_areAsLong_10 : decode cX6_areAsLong 10 = .ok (.invokevirtual 179, 3) := by decide +kernel
theorem dX6_areAsLong_13 : decode cX6_areAsLong 13 = .ok (.ifCond .eq 30, 3) := by decide +kernel
theorem dX6_areAsLong_16 : decode cX6_areAsLong 16 = .ok (.aload_n 0, 1) := by decide +kernel
theorem dX6_areAsLong_17 : decode cX6_areAsLong 17 = .ok (.getfield 31, 3) := by decide +kernel
theorem dX6_areAsLong_20 : decode cX6_areAsLong 20 = .ok (.iload_n 1, 1) := by decide +kernel
theorem dX6_areAsLong_21 : decode cX6_areAsLong 21 = .ok (.aaload, 1) := by decide +kernel
theorem dX6_areAsLong_22 : decode cX6_areAsLong 22 = .ok (.getfield 173, 3) := by decide +kernel
theorem dX6_areAsLong_25 : decode cX6_areAsLong 25 = .ok (.arraylength, 1) := by decide +kernel
theorem dX6_areAsLong_26 : decode cX6_areAsLong 26 = .ok (.aload_n 0, 1) := by decide +kernel
theorem dX6_areAsLong_27 : decode cX6_areAsLong 27 = .ok (.getfield 31, 3) := by decide +kernel
theorem dX6_areAsLong_30 : decode cX6_areAsLong 30 = .ok (.iload_n 2, 1) := by decide +kernel
theorem dX6_areAsLong_31 : decode cX6_areAsLong 31 = .ok (.aaload, 1) := by decide +kernel
theorem dX6_areAsLong_32 : decode cX6_areAsLong 32 = .ok (.getfield 173, 3) := by decide +kernel
theorem dX6_areAsLong_35 : decode cX6_areAsLong 35 = .ok (.arraylength, 1) := by decide +kernel
theorem dX6_areAsLong_36 : decode cX6_areAsLong 36 = .ok (.if_icmp .ne 7, 3) := by decide +kernel
theorem dX6_areAsLong_39 : decode cX6_areAsLong 39 = .ok (.iconst 1, 1) := by decide +kernel
theorem dX6_areAsLong_40 : decode cX6_areAsLong 40 = .ok (.goto 4, 3) := by decide +kernel
theorem dX6_areAsLong_43 : decode cX6_areAsLong 43 = .ok (.iconst 0, 1) := by decide +kernel
theorem dX6_areAsLong_44 : decode cX6_areAsLong 44 = .ok (.ireturn, 1) := by decide +kernel
theorem dX6_isFull_0 : decode cX6_isFull 0 = .ok (.aload_n 0, 1) := by decide +kernel
theorem dX6_isFull_1 : decode cX6_isFull 1 = .ok (.getfield 218, 3) := by decide +kernel
theorem dX6_isFull_4 : decode cX6_isFull 4 = .ok (.sipush 240, 3) := by decide +kernel
theorem dX6_isFull_7 : decode cX6_isFull 7 = .ok (.if_icmp .lt 7, 3) := by decide +kernel
theorem dX6_isFull_10 : decode cX6_isFull 10 = .ok (.iconst 1, 1) := by decide +kernel
theorem dX6_isFull_11 : decode cX6_isFull 11 = .ok (.goto 4, 3) := by decide +kernel
theorem dX6_isFull_14 : decode cX6_isFull 14 = .ok (.iconst 0, 1) := by decide +kernel
theorem dX6_isFull_15 : decode cX6_isFull 15 = .ok (.ireturn, 1) := by decide +kernel
theorem dX6_tooWide_0 : decode cX6_tooWide 0 = .ok (.aload_n 0, 1) := by decide +kernel
theorem dX6_tooWide_1 : decode cX6_tooWide 1 = .ok (.dup, 1) := by decide +kernel
theorem dX6_tooWide_2 : decode cX6_tooWide 2 = .ok (.getfield 224, 3) := by decide +kernel
theorem dX6_tooWide_5 : decode cX6_tooWide 5 = .ok (.iconst 1, 1) := by decide +kernel
theorem dX6_tooWide_6 : decode cX6_tooWide 6 = .ok (.iadd, 1) := by decide +kernel
theorem dX6_tooWide_7 : decode cX6_tooWide 7 = .ok (.putfield 224, 3) := by decide +kernel
theorem dX6_tooWide_10 : decode cX6_tooWide 10 = .ok (.bipush (-4), 2) := by decide +kernel
theorem dX6_tooWide_12 : decode cX6_tooWide 12 = .ok (.ireturn, 1) := by decide +kernel
theorem dX6_keep_0 : decode cX6_keep 0 = .ok (.aload_n 1, 1) := by decide +kernel
theorem dX6_keep_1 : decode cX6_keep 1 = .ok (.ifnonnull 8, 3) := by decide +kernel
theorem dX6_keep_4 : decode cX6_keep 4 = .ok (.aload_n 0, 1) := by decide +kernel
theorem dX6_keep_5 : decode cX6_keep 5 = .ok (.invokevirtual 182, 3) := by decide +kernel
theorem dX6_keep_8 : decode cX6_keep 8 = .ok (.ireturn, 1) := by decide +kernel
theorem dX6_keep_9 : decode cX6_keep 9 = .ok (.aload_n 0, 1) := by decide +kernel
theorem dX6_keep_10 : decode cX6_keep 10 = .ok (.getfield 25, 3) := by decide +kernel
theorem dX6_keep_13 : decode cX6_keep 13 = .ok (.aload_n 0, 1) := by decide +kernel
theorem dX6_keep_14 : decode cX6_keep 14 = .ok (.getfield 218, 3) := by decide +kernel
theorem dX6_keep_17 : decode cX6_keep 17 = .ok (.aload_n 1, 1) := by decide +kernel
theorem dX6_keep_18 : decode cX6_keep 18 = .ok (.aastore, 1) := by decide +kernel
theorem dX6_keep_19 : decode cX6_keep 19 = .ok (.aload_n 0, 1) := by decide +kernel
theorem dX6_keep_20 : decode cX6_keep 20 = .ok (.dup, 1) := by decide +kernel
theorem dX6_keep_21 : decode cX6_keep 21 = .ok (.getfield 218, 3) := by decide +kernel
theorem dX6_keep_24 : decode cX6_keep 24 = .ok (.iconst 1, 1) := by decide +kernel
theorem dX6_keep_25 : decode cX6_keep 25 = .ok (.iadd, 1) := by decide +kernel
theorem dX6_keep_26 : decode cX6_keep 26 = .ok (.putfield 218, 3) := by decide +kernel
theorem dX6_keep_29 : decode cX6_keep 29 = .ok (.aload_n 1, 1) := by decide +kernel
theorem dX6_keep_30 : decode cX6_keep 30 = .ok (.invokevirtual 92, 3) := by decide +kernel
theorem dX6_keep_33 : decode cX6_keep 33 = .ok (.ifCond .eq 13, 3) := by decide +kernel
theorem dX6_keep_36 : decode cX6_keep 36 = .ok (.aload_n 0, 1) := by decide +kernel
theorem dX6_keep_37 : decode cX6_keep 37 = .ok (.dup, 1) := by decide +kernel
theorem dX6_keep_38 : decode cX6_keep 38 = .ok (.getfield 221, 3) := by decide +kernel
theorem dX6_keep_41 : decode cX6_keep 41 = .ok (.iconst 1, 1) := by decide +kernel
theorem dX6_keep_42 : decode cX6_keep 42 = .ok (.iadd, 1) := by decide +kernel
theorem dX6_keep_43 : decode cX6_keep 43 = .ok (.putfield 221, 3) := by decide +kernel
theorem dX6_keep_46 : decode cX6_keep 46 = .ok (.aload_n 0, 1) := by decide +kernel
theorem dX6_keep_47 : decode cX6_keep 47 = .ok (.aload_n 0, 1) := by decide +kernel
theorem dX6_keep_48 : decode cX6_keep 48 = .ok (.getfield 227, 3) := by decide +kernel
theorem dX6_keep_51 : decode cX6_keep 51 = .ok (.aload_n 1, 1) := by decide +kernel
theorem dX6_keep_52 : decode cX6_keep 52 = .ok (.invokevirtual 230, 3) := by decide +kernel
theorem dX6_keep_55 : decode cX6_keep 55 = .ok (.invokestatic 233, 3) := by decide +kernel
theorem dX6_keep_58 : decode cX6_keep 58 = .ok (.putfield 227, 3) := by decide +kernel
theorem dX6_keep_61 : decode cX6_keep 61 = .ok (.aload_n 0, 1) := by decide +kernel
theorem dX6_keep_62 : decode cX6_keep 62 = .ok (.getfield 218, 3) := by decide +kernel
theorem dX6_keep_65 : decode cX6_keep 65 = .ok (.iconst 1, 1) := by decide +kernel
theorem dX6_keep_66 : decode cX6_keep 66 = .ok (.isub, 1) := by decide +kernel
theorem dX6_keep_67 : decode cX6_keep 67 = .ok (.ireturn, 1) := by decide +kernel
theorem dX6_renew_0 : decode cX6_renew 0 = .ok (.iconst 0, 1) := by decide +kernel
theorem dX6_renew_1 : decode cX6_renew 1 = .ok (.istore_n 2, 1) := by decide +kernel
theorem dX6_renew_2 : decode cX6_renew 2 = .ok (.iload_n 2, 1) := by decide +kernel
theorem dX6_renew_3 : decode cX6_renew 3 = .ok (.aload_n 1, 1) := by decide +kernel
theorem dX6_renew_4 : decode cX6_renew 4 = .ok (.arraylength, 1) := by decide +kernel
theorem dX6_renew_5 : decode cX6_renew 5 = .ok (.if_icmp .ge 18, 3) := by decide +kernel
theorem dX6_renew_8 : decode cX6_renew 8 = .ok (.aload_n 1, 1) := by decide +kernel
theorem dX6_renew_9 : decode cX6_renew 9 = .ok (.iload_n 2, 1) := by decide +kernel
theorem dX6_renew_10 : decode cX6_renew 10 = .ok (.aload_n 0, 1) := by decide +kernel
theorem dX6_renew_11 : decode cX6_renew 11 = .ok (.getfield 35, 3) := by decide +kernel
theorem dX6_renew_14 : decode cX6_renew 14 = .ok (.iload_n 2, 1) := by decide +kernel
theorem dX6_renew_15 : decode cX6_renew 15 = .ok (.aaload, 1) := by decide +kernel
theorem dX6_renew_16 : decode cX6_renew 16 = .ok (.aastore, 1) := by decide +kernel
theorem dX6_renew_17 : decode cX6_renew 17 = .ok (.iinc 2 1, 3) := by decide +kernel
theorem dX6_renew_20 : decode cX6_renew 20 = .ok (.goto (-18), 3) := by decide +kernel
theorem dX6_renew_23 : decode cX6_renew 23 = .ok (.iconst 1, 1) := by decide +kernel
theorem dX6_renew_24 : decode cX6_renew 24 = .ok (.ireturn, 1) := by decide +kernel
theorem dX6_commonMeasureOfAll_0 : decode cX6_commonMeasureOfAll 0 = .ok (.aload_n 0, 1) := by decide +kernel
theorem dX6_commonMeasureOfAll_1 : decode cX6_commonMeasureOfAll 1 = .ok (.getfield 10, 3) := by decide +kernel
theorem dX6_commonMeasureOfAll_4 : decode cX6_commonMeasureOfAll 4 = .ok (.getfield 162, 3) := by decide +kernel
theorem dX6_commonMeasureOfAll_7 : decode cX6_commonMeasureOfAll 7 = .ok (.astore_n 2, 1) := by decide +kernel
theorem dX6_commonMeasureOfAll_8 : decode cX6_commonMeasureOfAll 8 = .ok (.iconst 0, 1) := by decide +kernel
theorem dX6_commonMeasureOfAll_9 : decode cX6_commonMeasureOfAll 9 = .ok (.istore_n 3, 1) := by decide +kernel
theorem dX6_commonMeasureOfAll_10 : decode cX6_commonMeasureOfAll 10 = .ok (.iload_n 3, 1) := by decide +kernel
theorem dX6_commonMeasureOfAll_11 : decode cX6_commonMeasureOfAll 11 = .ok (.aload_n 1, 1) := by decide +kernel
theorem dX6_commonMeasureOfAll_12 : decode cX6_commonMeasureOfAll 12 = .ok (.arraylength, 1) := by decide +kernel
theorem dX6_commonMeasureOfAll_13 : decode cX6_commonMeasureOfAll 13 = .ok (.if_icmp .ge 25, 3) := by decide +kernel
theorem dX6_commonMeasureOfAll_16 : decode cX6_commonMeasureOfAll 16 = .ok (.aload_n 2, 1) := by decide +kernel
theorem dX6_commonMeasureOfAll_17 : decode cX6_commonMeasureOfAll 17 = .ok (.ifnull 21, 3) := by decide +kernel
theorem dX6_commonMeasureOfAll_20 : decode cX6_commonMeasureOfAll 20 = .ok (.aload_n 0, 1) := by decide +kernel
theorem dX6_commonMeasureOfAll_21 : decode cX6_commonMeasureOfAll 21 = .ok (.getfield 10, 3) := by decide +kernel
theorem dX6_commonMeasureOfAll_24 : decode cX6_commonMeasureOfAll 24 = .ok (.aload_n 2, 1) := by decide +kernel
theorem dX6_commonMeasureOfAll_25 : decode cX6_commonMeasureOfAll 25 = .ok (.aload_n 1, 1) := by decide +kernel
theorem dX6_commonMeasureOfAll_26 : decode cX6_commonMeasureOfAll 26 = .ok (.iload_n 3, 1) := by decide +kernel
theorem dX6_commonMeasureOfAll_27 : decode cX6_commonMeasureOfAll 27 = .ok (.aaload, 1) := by decide +kernel
theorem dX6_commonMeasureOfAll_28 : decode cX6_commonMeasureOfAll 28 = .ok (.invokevirtual 81, 3) := by decide +kernel
theorem dX6_commonMeasureOfAll_31 : decode cX6_commonMeasureOfAll 31 = .ok (.astore_n 2, 1) := by decide +kernel
theorem dX6_commonMeasureOfAll_32 : decode cX6_commonMeasureOfAll 32 = .ok (.iinc 3 1, 3) := by decide +kernel
theorem dX6_commonMeasureOfAll_35 : decode cX6_commonMeasureOfAll 35 = .ok (.goto (-25), 3) := by decide +kernel
theorem dX6_commonMeasureOfAll_38 : decode cX6_commonMeasureOfAll 38 = .ok (.aload_n 2, 1) := by decide +kernel
theorem dX6_commonMeasureOfAll_39 : decode cX6_commonMeasureOfAll 39 = .ok (.areturn, 1) := by decide +kernel
theorem dX6_areEqual_0 : decode cX6_areEqual 0 = .ok (.iconst 0, 1) := by decide +kernel
theorem dX6_areEqual_1 : decode cX6_areEqual 1 = .ok (.istore_n 3, 1) := by decide +kernel
theorem dX6_areEqual_2 : decode cX6_areEqual 2 = .ok (.iload_n 3, 1) := by decide +kernel
theorem dX6_areEqual_3 : decode cX6_areEqual 3 = .ok (.aload_n 1, 1) := by decide +kernel
theorem dX6_areEqual_4 : decode cX6_areEqual 4 = .ok (.getfield 173, 3) := by decide +kernel
theorem dX6_areEqual_7 : decode cX6_areEqual 7 = .ok (.arraylength, 1) := by decide +kernel
theorem dX6_areEqual_8 : decode cX6_areEqual 8 = .ok (.if_icmp .ge 29, 3) := by decide +kernel
theorem dX6_areEqual_11 : decode cX6_areEqual 11 = .ok (.aload_n 1, 1) := by decide +kernel
theorem dX6_areEqual_12 : decode cX6_areEqual 12 = .ok (.getfield 173, 3) := by decide +kernel
theorem dX6_areEqual_15 : decode cX6_areEqual 15 = .ok (.iload_n 3, 1) := by decide +kernel
theorem dX6_areEqual_16 : decode cX6_areEqual 16 = .ok (.aaload, 1) := by decide +kernel
theorem dX6_areEqual_17 : decode cX6_areEqual 17 = .ok (.aload_n 2, 1) := by decide +kernel
theorem dX6_areEqual_18 : decode cX6_areEqual 18 = .ok (.getfield 173, 3) := by decide +kernel
theorem dX6_areEqual_21 : decode cX6_areEqual 21 = .ok (.iload_n 3, 1) := by decide +kernel
theorem dX6_areEqual_22 : decode cX6_areEqual 22 = .ok (.aaload, 1) := by decide +kernel
theorem dX6_areEqual_23 : decode cX6_areEqual 23 = .ok (.invokevirtual 239, 3) := by decide +kernel
theorem dX6_areEqual_26 : decode cX6_areEqual 26 = .ok (.ifCond .ne 5, 3) := by decide +kernel
theorem dX6_areEqual_29 : decode cX6_areEqual 29 = .ok (.iconst 0, 1) := by decide +kernel
theorem dX6_areEqual_30 : decode cX6_areEqual 30 = .ok (.ireturn, 1) := by decide +kernel
theorem dX6_areEqual_31 : decode cX6_areEqual 31 = .ok (.iinc 3 1, 3) := by decide +kernel
theorem dX6_areEqual_34 : decode cX6_areEqual 34 = .ok (.goto (-32), 3) := by decide +kernel
theorem dX6_areEqual_37 : decode cX6_areEqual 37 = .ok (.iconst 1, 1) := by decide +kernel
theorem dX6_areEqual_38 : decode cX6_areEqual 38 = .ok (.ireturn, 1) := by decide +kernel
theorem dX6_areInProportion_0 : decode cX6_areInProportion 0 = .ok (.aload_n 1, 1) := by decide +kernel
theorem dX6_areInProportion_1 : decode cX6_areInProportion 1 = .ok (.invokevirtual 193, 3) := by decide +kernel
theorem dX6_areInProportion_4 : decode cX6_areInProportion 4 = .ok (.istore_n 3, 1) := by decide +kernel
theorem dX6_areInProportion_5 : decode cX6_areInProportion 5 = .ok (.iload_n 3, 1) := by decide +kernel
theorem dX6_areInProportion_6 : decode cX6_areInProportion 6 = .ok (.aload_n 2, 1) := by decide +kernel
theorem dX6_areInProportion_7 : decode cX6_areInProportion 7 = .ok (.invokevirtual 193, 3) := by decide +kernel
theorem dX6_areInProportion_10 : decode cX6_areInProportion 10 = .ok (.if_icmp .eq 5, 3) := by decide +kernel
theorem dX6_areInProportion_13 : decode cX6_areInProportion 13 = .ok (.iconst 0, 1) := by decide +kernel
theorem dX6_areInProportion_14 : decode cX6_areInProportion 14 = .ok (.ireturn, 1) := by decide +kernel
theorem dX6_areInProportion_15 : decode cX6_areInProportion 15 = .ok (.iload_n 3, 1) := by decide +kernel
theorem dX6_areInProportion_16 : decode cX6_areInProportion 16 = .ok (.iconst (-1), 1) := by decide +kernel
theorem dX6_areInProportion_17 : decode cX6_areInProportion 17 = .ok (.if_icmp .ne 5, 3) := by decide +kernel
theorem dX6_areInProportion_20 : decode cX6_areInProportion 20 = .ok (.iconst 1, 1) := by decide +kernel
theorem dX6_areInProportion_21 : decode cX6_areInProportion 21 = .ok (.ireturn, 1) := by decide +kernel
theorem dX6_areInProportion_22 : decode cX6_areInProportion 22 = .ok (.iload_n 3, 1) := by decide +kernel
theorem dX6_areInProportion_23 : decode cX6_areInProportion 23 = .ok (.iconst 1, 1) := by decide +kernel
theorem dX6_areInProportion_24 : decode cX6_areInProportion 24 = .ok (.iadd, 1) := by decide +kernel
theorem dX6_areInProportion_25 : decode cX6_areInProportion 25 = .ok (.istore 4, 2) := by decide +kernel
theorem dX6_areInProportion_27 : decode cX6_areInProportion 27 = .ok (.iload 4, 2) := by decide +kernel
theorem dX6_areInProportion_29 : decode cX6_areInProportion 29 = .ok (.aload_n 1, 1) := by decide +kernel
theorem dX6_areInProportion_30 : decode cX6_areInProportion 30 = .ok (.getfield 173, 3) := by decide +kernel
theorem dX6_areInProportion_33 : decode cX6_areInProportion 33 = .ok (.arraylength, 1) := by decide +kernel
theorem dX6_areInProportion_34 : decode cX6_areInProportion 34 = .ok (.if_icmp .ge 47, 3) := by decide +kernel
theorem dX6_areInProportion_37 : decode cX6_areInProportion 37 = .ok (.aload_n 0, 1) := by decide +kernel
theorem dX6_areInProportion_38 : decode cX6_areInProportion 38 = .ok (.getfield 10, 3) := by decide +kernel
theorem dX6_areInProportion_41 : decode cX6_areInProportion 41 = .ok (.aload_n 1, 1) := by decide +kernel
theorem dX6_areInProportion_42 : decode cX6_areInProportion 42 = .ok (.getfield 173, 3) := by decide +kernel
theorem dX6_areInProportion_45 : decode cX6_areInProportion 45 = .ok (.iload 4, 2) := by decide +kernel
theorem dX6_areInProportion_47 : decode cX6_areInProportion 47 = .ok (.aaload, 1) := by decide +kernel
theorem dX6_areInProportion_48 : decode cX6_areInProportion 48 = .ok (.aload_n 1, 1) := by decide +kernel
theorem dX6_areInProportion_49 : decode cX6_areInProportion 49 = .ok (.getfield 173, 3) := by decide +kernel
theorem dX6_areInProportion_52 : decode cX6_areInProportion 52 = .ok (.iload_n 3, 1) := by decide +kernel
theorem dX6_areInProportion_53 : decode cX6_areInProportion 53 = .ok (.aaload, 1) := by decide +kernel
theorem dX6_areInProportion_54 : decode cX6_areInProportion 54 = .ok (.aload_n 2, 1) := by decide +kernel
theorem dX6_areInProportion_55 : decode cX6_areInProportion 55 = .ok (.getfield 173, 3) := by decide +kernel
theorem dX6_areInProportion_58 : decode cX6_areInProportion 58 = .ok (.iload 4, 2) := by decide +kernel
theorem dX6_areInProportion_60 : decode cX6_areInProportion 60 = .ok (.aaload, 1) := by decide +kernel
theorem dX6_areInProportion_61 : decode cX6_areInProportion 61 = .ok (.aload_n 2, 1) := by decide +kernel
theorem dX6_areInProportion_62 : decode cX6_areInProportion 62 = .ok (.getfield 173, 3) := by decide +kernel
theorem dX6_areInProportion_65 : decode cX6_areInProportion 65 = .ok (.iload_n 3, 1) := by decide +kernel
theorem dX6_areInProportion_66 : decode cX6_areInProportion 66 = .ok (.aaload, 1) := by decide +kernel
theorem dX6_areInProportion_67 : decode cX6_areInProportion 67 = .ok (.invokevirtual 243, 3) := by decide +kernel
theorem dX6_areInProportion_70 : decode cX6_areInProportion 70 = .ok (.ifCond .ne 5, 3) := by decide +kernel
theorem dX6_areInProportion_73 : decode cX6_areInProportion 73 = .ok (.iconst 0, 1) := by decide +kernel
theorem dX6_areInProportion_74 : decode cX6_areInProportion 74 = .ok (.ireturn, 1) := by decide +kernel
theorem dX6_areInProportion_75 : decode cX6_areInProportion 75 = .ok (.iinc 4 1, 3) := by decide +kernel
theorem dX6_areInProportion_78 : decode cX6_areInProportion 78 = .ok (.goto (-51), 3) := by decide +kernel
theorem dX6_areInProportion_81 : decode cX6_areInProportion 81 = .ok (.iconst 1, 1) := by decide +kernel
theorem dX6_areInProportion_82 : decode cX6_areInProportion 82 = .ok (.ireturn, 1) := by decide +kernel
theorem dX6_exactSum_0 : decode cX6_exactSum 0 = .ok (.lload_n 0, 1) := by decide +kernel
theorem dX6_exactSum_1 : decode cX6_exactSum 1 = .ok (.lload_n 2, 1) := by decide +kernel
theorem dX6_exactSum_2 : decode cX6_exactSum 2 = .ok (.ladd, 1) := by decide +kernel
theorem dX6_exactSum_3 : decode cX6_exactSum 3 = .ok (.lstore 4, 2) := by decide +kernel
theorem dX6_exactSum_5 : decode cX6_exactSum 5 = .ok (.lload_n 0, 1) := by decide +kernel
theorem dX6_exactSum_6 : decode cX6_exactSum 6 = .ok (.lload 4, 2) := by decide +kernel
theorem dX6_exactSum_8 : decode cX6_exactSum 8 = .ok (.lxor, 1) := by decide +kernel
theorem dX6_exactSum_9 : decode cX6_exactSum 9 = .ok (.lload_n 2, 1) := by decide +kernel
theorem dX6_exactSum_10 : decode cX6_exactSum 10 = .ok (.lload 4, 2) := by decide +kernel
theorem dX6_exactSum_12 : decode cX6_exactSum 12 = .ok (.lxor, 1) := by decide +kernel
theorem dX6_exactSum_13 : decode cX6_exactSum 13 = .ok (.land, 1) := by decide +kernel
theorem dX6_exactSum_14 : decode cX6_exactSum 14 = .ok (.lconst 0, 1) := by decide +kernel
theorem dX6_exactSum_15 : decode cX6_exactSum 15 = .ok (.lcmp, 1) := by decide +kernel
theorem dX6_exactSum_16 : decode cX6_exactSum 16 = .ok (.ifCond .ge 13, 3) := by decide +kernel
theorem dX6_exactSum_19 : decode cX6_exactSum 19 = .ok (.new 38, 3) := by decide +kernel
theorem dX6_exactSum_22 : decode cX6_exactSum 22 = .ok (.dup, 1) := by decide +kernel
theorem dX6_exactSum_23 : decode cX6_exactSum 23 = .ok (.ldc 247, 2) := by decide +kernel
theorem dX6_exactSum_25 : decode cX6_exactSum 25 = .ok (.invokespecial 42, 3) := by decide +kernel
theorem dX6_exactSum_28 : decode cX6_exactSum 28 = .ok (.athrow, 1) := by decide +kernel
theorem dX6_exactSum_29 : decode cX6_exactSum 29 = .ok (.lload 4, 2) := by decide +kernel
theorem dX6_exactSum_31 : decode cX6_exactSum 31 = .ok (.lreturn, 1) := by decide +kernel
theorem dX6_exactDifference_0 : decode cX6_exactDifference 0 = .ok (.lload_n 0, 1) := by decide +kernel
theorem dX6_exactDifference_1 : decode cX6_exactDifference 1 = .ok (.lload_n 2, 1) := by decide +kernel
theorem dX6_exactDifference_2 : decode cX6_exactDifference 2 = .ok (.lsub, 1) := by decide +kernel
theorem dX6_exactDifference_3 : decode cX6_exactDifference 3 = .ok (.lstore 4, 2) := by decide +kernel
theorem dX6_exactDifference_5 : decode cX6_exactDifference 5 = .ok (.lload_n 0, 1) := by decide +kernel
theorem dX6_exactDifference_6 : decode cX6_exactDifference 6 = .ok (.lload_n 2, 1) := by decide +kernel
theorem dX6_exactDifference_7 : decode cX6_exactDifference 7 = .ok (.lxor, 1) := by decide +kernel
theorem dX6_exactDifference_8 : decode cX6_exactDifference 8 = .ok (.lload_n 0, 1) := by decide +kernel
theorem dX6_exactDifference_9 : decode cX6_exactDifference 9 = .ok (.lload 4, 2) := by decide +kernel
theorem dX6_exactDifference_11 : decode cX6_exactDifference 11 = .ok (.lxor, 1) := by decide +kernel
theorem dX6_exactDifference_12 : decode cX6_exactDifference 12 = .ok (.land, 1) := by decide +kernel
theorem dX6_exactDifference_13 : decode cX6_exactDifference 13 = .ok (.lconst 0, 1) := by decide +kernel
theorem dX6_exactDifference_14 : decode cX6_exactDifference 14 = .ok (.lcmp, 1) := by decide +kernel
theorem dX6_exactDifference_15 : decode cX6_exactDifference 15 = .ok (.ifCond .ge 13, 3) := by decide +kernel
theorem dX6_exactDifference_18 : decode cX6_exactDifference 18 = .ok (.new 38, 3) := by decide +kernel
theorem dX6_exactDifference_21 : decode cX6_exactDifference 21 = .ok (.dup, 1) := by decide +kernel
theorem dX6_exactDifference_22 : decode cX6_exactDifference 22 = .ok (.ldc 249, 2) := by decide +kernel
theorem dX6_exactDifference_24 : decode cX6_exactDifference 24 = .ok (.invokespecial 42, 3) := by decide +kernel
theorem dX6_exactDifference_27 : decode cX6_exactDifference 27 = .ok (.athrow, 1) := by decide +kernel
theorem dX6_exactDifference_28 : decode cX6_exactDifference 28 = .ok (.lload 4, 2) := by decide +kernel
theorem dX6_exactDifference_30 : decode cX6_exactDifference 30 = .ok (.lreturn, 1) := by decide +kernel
theorem dX6_exactProduct_0 : decode cX6_exactProduct 0 = .ok (.lload_n 0, 1) := by decide +kernel
theorem dX6_exactProduct_1 : decode cX6_exactProduct 1 = .ok (.lconst 0, 1) := by decide +kernel
theorem dX6_exactProduct_2 : decode cX6_exactProduct 2 = .ok (.lcmp, 1) := by decide +kernel
theorem dX6_exactProduct_3 : decode cX6_exactProduct 3 = .ok (.ifCond .ne 5, 3) := by decide +kernel
theorem dX6_exactProduct_6 : decode cX6_exactProduct 6 = .ok (.lconst 0, 1) := by decide +kernel
theorem dX6_exactProduct_7 : decode cX6_exactProduct 7 = .ok (.lreturn, 1) := by decide +kernel
theorem dX6_exactProduct_8 : decode cX6_exactProduct 8 = .ok (.lload_n 0, 1) := by decide +kernel
theorem dX6_exactProduct_9 : decode cX6_exactProduct 9 = .ok (.lload_n 2, 1) := by decide +kernel
theorem dX6_exactProduct_10 : decode cX6_exactProduct 10 = .ok (.lmul, 1) := by decide +kernel
theorem dX6_exactProduct_11 : decode cX6_exactProduct 11 = .ok (.lstore 4, 2) := by decide +kernel
theorem dX6_exactProduct_13 : decode cX6_exactProduct 13 = .ok (.lload 4, 2) := by decide +kernel
theorem dX6_exactProduct_15 : decode cX6_exactProduct 15 = .ok (.lload_n 0, 1) := by decide +kernel
theorem dX6_exactProduct_16 : decode cX6_exactProduct 16 = .ok (.ldiv, 1) := by decide +kernel
theorem dX6_exactProduct_17 : decode cX6_exactProduct 17 = .ok (.lload_n 2, 1) := by decide +kernel
theorem dX6_exactProduct_18 : decode cX6_exactProduct 18 = .ok (.lcmp, 1) := by decide +kernel
theorem dX6_exactProduct_19 : decode cX6_exactProduct 19 = .ok (.ifCond .ne 19, 3) := by decide +kernel
theorem dX6_exactProduct_22 : decode cX6_exactProduct 22 = .ok (.lload_n 0, 1) := by decide +kernel
theorem dX6_exactProduct_23 : decode cX6_exactProduct 23 = .ok (.ldc2_w 251, 3) := by decide +kernel
theorem dX6_exactProduct_26 : decode cX6_exactProduct 26 = .ok (.lcmp, 1) := by decide +kernel
theorem dX6_exactProduct_27 : decode cX6_exactProduct 27 = .ok (.ifCond .ne 22, 3) := by decide +kernel
theorem dX6_exactProduct_30 : decode cX6_exactProduct 30 = .ok (.lload_n 2, 1) := by decide +kernel
theorem dX6_exactProduct_31 : decode cX6_exactProduct 31 = .ok (.ldc2_w 255, 3) := by decide +kernel
theorem dX6_exactProduct_34 : decode cX6_exactProduct 34 = .ok (.lcmp, 1) := by decide +kernel
theorem dX6_exactProduct_35 : decode cX6_exactProduct 35 = .ok (.ifCond .ne 14, 3) := by decide +kernel
theorem dX6_exactProduct_38 : decode cX6_exactProduct 38 = .ok (.new 38, 3) := by decide +kernel
theorem dX6_exactProduct_41 : decode cX6_exactProduct 41 = .ok (.dup, 1) := by decide +kernel
theorem dX6_exactProduct_42 : decode cX6_exactProduct 42 = .ok (.ldc_w 257, 3) := by decide +kernel
theorem dX6_exactProduct_45 : decode cX6_exactProduct 45 = .ok (.invokespecial 42, 3) := by decide +kernel
theorem dX6_exactProduct_48 : decode cX6_exactProduct 48 = .ok (.athrow, 1) := by decide +kernel
theorem dX6_exactProduct_49 : decode cX6_exactProduct 49 = .ok (.lload 4, 2) := by decide +kernel
theorem dX6_exactProduct_51 : decode cX6_exactProduct 51 = .ok (.lreturn, 1) := by decide +kernel
theorem dX6_exactDivision_0 : decode cX6_exactDivision 0 = .ok (.lload_n 3, 1) := by decide +kernel
theorem dX6_exactDivision_1 : decode cX6_exactDivision 1 = .ok (.lconst 0, 1) := by decide +kernel
theorem dX6_exactDivision_2 : decode cX6_exactDivision 2 = .ok (.lcmp, 1) := by decide +kernel
theorem dX6_exactDivision_3 : decode cX6_exactDivision 3 = .ok (.ifCond .ne 13, 3) := by decide +kernel
theorem dX6_exactDivision_6 : decode cX6_exactDivision 6 = .ok (.new 38, 3) := by decide +kernel
theorem dX6_exactDivision_9 : decode cX6_exactDivision 9 = .ok (.dup, 1) := by decide +kernel
theorem dX6_exactDivision_10 : decode cX6_exactDivision 10 = .ok (.ldc 73, 2) := by decide +kernel
theorem dX6_exactDivision_12 : decode cX6_exactDivision 12 = .ok (.invokespecial 42, 3) := by decide +kernel
theorem dX6_exactDivision_15 : decode cX6_exactDivision 15 = .ok (.athrow, 1) := by decide +kernel
theorem dX6_exactDivision_16 : decode cX6_exactDivision 16 = .ok (.iload_n 0, 1) := by decide +kernel
theorem dX6_exactDivision_17 : decode cX6_exactDivision 17 = .ok (.iconst 4, 1) := by decide +kernel
theorem dX6_exactDivision_18 : decode cX6_exactDivision 18 = .ok (.if_icmp .ne 7, 3) := by decide +kernel
theorem dX6_exactDivision_21 : decode cX6_exactDivision 21 = .ok (.lload_n 1, 1) := by decide +kernel
theorem dX6_exactDivision_22 : decode cX6_exactDivision 22 = .ok (.lload_n 3, 1) := by decide +kernel
theorem dX6_exactDivision_23 : decode cX6_exactDivision 23 = .ok (.lrem, 1) := by decide +kernel
theorem dX6_exactDivision_24 : decode cX6_exactDivision 24 = .ok (.lreturn, 1) := by decide +kernel
theorem dX6_exactDivision_25 : decode cX6_exactDivision 25 = .ok (.iload_n 0, 1) := by decide +kernel
theorem dX6_exactDivision_26 : decode cX6_exactDivision 26 = .ok (.bipush 6, 2) := by decide +kernel
theorem dX6_exactDivision_28 : decode cX6_exactDivision 28 = .ok (.if_icmp .ne 9, 3) := by decide +kernel
theorem dX6_exactDivision_31 : decode cX6_exactDivision 31 = .ok (.lload_n 1, 1) := by decide +kernel
theorem dX6_exactDivision_32 : decode cX6_exactDivision 32 = .ok (.lload_n 3, 1) := by decide +kernel
theorem dX6_exactDivision_33 : decode cX6_exactDivision 33 = .ok (.invokestatic 259, 3) := by decide +kernel
theorem dX6_exactDivision_36 : decode cX6_exactDivision 36 = .ok (.lreturn, 1) := by decide +kernel
theorem dX6_exactDivision_37 : decode cX6_exactDivision 37 = .ok (.lload_n 1, 1) := by decide +kernel
theorem dX6_exactDivision_38 : decode cX6_exactDivision 38 = .ok (.ldc2_w 255, 3) := by decide +kernel
theorem dX6_exactDivision_41 : decode cX6_exactDivision 41 = .ok (.lcmp, 1) := by decide +kernel
theorem dX6_exactDivision_42 : decode cX6_exactDivision 42 = .ok (.ifCond .ne 22, 3) := by decide +kernel
theorem dX6_exactDivision_45 : decode cX6_exactDivision 45 = .ok (.lload_n 3, 1) := by decide +kernel
theorem dX6_exactDivision_46 : decode cX6_exactDivision 46 = .ok (.ldc2_w 251, 3) := by decide +kernel
theorem dX6_exactDivision_49 : decode cX6_exactDivision 49 = .ok (.lcmp, 1) := by decide +kernel
theorem dX6_exactDivision_50 : decode cX6_exactDivision 50 = .ok (.ifCond .ne 14, 3) := by decide +kernel
theorem dX6_exactDivision_53 : decode cX6_exactDivision 53 = .ok (.new 38, 3) := by decide +kernel
theorem dX6_exactDivision_56 : decode cX6_exactDivision 56 = .ok (.dup, 1) := by decide +kernel
theorem dX6_exactDivision_57 : decode cX6_exactDivision 57 = .ok (.ldc_w 262, 3) := by decide +kernel
theorem dX6_exactDivision_60 : decode cX6_exactDivision 60 = .ok (.invokespecial 42, 3) := by decide +kernel
theorem dX6_exactDivision_63 : decode cX6_exactDivision 63 = .ok (.athrow, 1) := by decide +kernel
theorem dX6_exactDivision_64 : decode cX6_exactDivision 64 = .ok (.iload_n 0, 1) := by decide +kernel
theorem dX6_exactDivision_65 : decode cX6_exactDivision 65 = .ok (.iconst 3, 1) := by decide +kernel
theorem dX6_exactDivision_66 : decode cX6_exactDivision 66 = .ok (.if_icmp .ne 9, 3) := by decide +kernel
theorem dX6_exactDivision_69 : decode cX6_exactDivision 69 = .ok (.lload_n 1, 1) := by decide +kernel
theorem dX6_exactDivision_70 : decode cX6_exactDivision 70 = .ok (.lload_n 3, 1) := by decide +kernel
theorem dX6_exactDivision_71 : decode cX6_exactDivision 71 = .ok (.ldiv, 1) := by decide +kernel
theorem dX6_exactDivision_72 : decode cX6_exactDivision 72 = .ok (.goto 8, 3) := by decide +kernel
theorem dX6_exactDivision_75 : decode cX6_exactDivision 75 = .ok (.lload_n 1, 1) := by decide +kernel
theorem dX6_exactDivision_76 : decode cX6_exactDivision 76 = .ok (.lload_n 3, 1) := by decide +kernel
theorem dX6_exactDivision_77 : decode cX6_exactDivision 77 = .ok (.invokestatic 264, 3) := by decide +kernel
theorem dX6_exactDivision_80 : decode cX6_exactDivision 80 = .ok (.lreturn, 1) := by decide +kernel
theorem dX6_exactInt_0 : decode cX6_exactInt 0 = .ok (.lload_n 0, 1) := by decide +kernel
theorem dX6_exactInt_1 : decode cX6_exactInt 1 = .ok (.lload_n 0, 1) := by decide +kernel
theorem dX6_exactInt_2 : decode cX6_exactInt 2 = .ok (.l2i, 1) := by decide +kernel
theorem dX6_exactInt_3 : decode cX6_exactInt 3 = .ok (.i2l, 1) := by decide +kernel
theorem dX6_exactInt_4 : decode cX6_exactInt 4 = .ok (.lcmp, 1) := by decide +kernel
theorem dX6_exactInt_5 : decode cX6_exactInt 5 = .ok (.ifCond .eq 14, 3) := by decide +kernel
theorem dX6_exactInt_8 : decode cX6_exactInt 8 = .ok (.new 38, 3) := by decide +kernel
theorem dX6_exactInt_11 : decode cX6_exactInt 11 = .ok (.dup, 1) := by decide +kernel
theorem dX6_exactInt_12 : decode cX6_exactInt 12 = .ok (.ldc_w 267, 3) := by decide +kernel
theorem dX6_exactInt_15 : decode cX6_exactInt 15 = .ok (.invokespecial 42, 3) := by decide +kernel
theorem dX6_exactInt_18 : decode cX6_exactInt 18 = .ok (.athrow, 1) := by decide +kernel
theorem dX6_exactInt_19 : decode cX6_exactInt 19 = .ok (.lload_n 0, 1) := by decide +kernel
theorem dX6_exactInt_20 : decode cX6_exactInt 20 = .ok (.lreturn, 1) := by decide +kernel
