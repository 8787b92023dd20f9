theorem dX7_init_0 : decode cX7_init 0 = .ok (.aload_n 0, 1) := by decide +kernel
theorem dX7_init_1 : decode cX7_init 1 = .ok (.invokespecial 1, 3) := by decide +kernel
theorem dX7_init_4 : decode cX7_init 4 = .ok (.aload_n 0, 1) := by decide +kernel
theorem dX7_init_5 : decode cX7_init 5 = .ok (.sipush 3040, 3) := by decide +kernel
theorem dX7_init_8 : decode cX7_init 8 = .ok (.newarray .int, 2) := by decide +kernel
theorem dX7_init_10 : decode cX7_init 10 = .ok (.putfield 7, 3) := by decide +kernel
theorem dX7_init_13 : decode cX7_init 13 = .ok (.aload_n 0, 1) := by decide +kernel
theorem dX7_init_14 : decode cX7_init 14 = .ok (.bipush 19, 2) := by decide +kernel
theorem dX7_init_16 : decode cX7_init 16 = .ok (.newarray .int, 2) := by decide +kernel
theorem dX7_init_18 : decode cX7_init 18 = .ok (.putfield 13, 3) := by decide +kernel
theorem dX7_init_21 : decode cX7_init 21 = .ok (.aload_n 0, 1) := by decide +kernel
theorem dX7_init_22 : decode cX7_init 22 = .ok (.iconst 4, 1) := by decide +kernel
theorem dX7_init_23 : decode cX7_init 23 = .ok (.newarray .int, 2) := by decide +kernel
theorem dX7_init_25 : decode cX7_init 25 = .ok (.putfield 16, 3) := by decide +kernel
theorem dX7_init_28 : decode cX7_init 28 = .ok (.aload_n 0, 1) := by decide +kernel
theorem dX7_init_29 : decode cX7_init 29 = .ok (.sipush 450, 3) := by decide +kernel
theorem dX7_init_32 : decode cX7_init 32 = .ok (.newarray .int, 2) := by decide +kernel
theorem dX7_init_34 : decode cX7_init 34 = .ok (.putfield 19, 3) := by decide +kernel
theorem dX7_init_37 : decode cX7_init 37 = .ok (.aload_n 0, 1) := by decide +kernel
theorem dX7_init_38 : decode cX7_init 38 = .ok (.sipush 14400, 3) := by decide +kernel
theorem dX7_init_41 : decode cX7_init 41 = .ok (.newarray .int, 2) := by decide +kernel
theorem dX7_init_43 : decode cX7_init 43 = .ok (.putfield 22, 3) := by decide +kernel
theorem dX7_init_46 : decode cX7_init 46 = .ok (.aload_n 0, 1) := by decide +kernel
theorem dX7_init_47 : decode cX7_init 47 = .ok (.sipush 450, 3) := by decide +kernel
theorem dX7_init_50 : decode cX7_init 50 = .ok (.newarray .int, 2) := by decide +kernel
theorem dX7_init_52 : decode cX7_init 52 = .ok (.putfield 25, 3) := by decide +kernel
theorem dX7_init_55 : decode cX7_init 55 = .ok (.aload_n 0, 1) := by decide +kernel
theorem dX7_init_56 : decode cX7_init 56 = .ok (.sipush 14400, 3) := by decide +kernel
theorem dX7_init_59 : decode cX7_init 59 = .ok (.newarray .int, 2) := by decide +kernel
theorem dX7_init_61 : decode cX7_init 61 = .ok (.putfield 28, 3) := by decide +kernel
theorem dX7_init_64 : decode cX7_init 64 = .ok (.aload_n 0, 1) := by decide +kernel
theorem dX7_init_65 : decode cX7_init 65 = .ok (.sipush 450, 3) := by decide +kernel
theorem dX7_init_68 : decode cX7_init 68 = .ok (.newarray .int, 2) := by decide +kernel
theorem dX7_init_70 : decode cX7_init 70 = .ok (.putfield 31, 3) := by decide +kernel
theorem dX7_init_73 : decode cX7_init 73 = .ok (.aload_n 0, 1) := by decide +kernel
theorem dX7_init_74 : decode cX7_init 74 = .ok (.bipush 20, 2) := by decide +kernel
theorem dX7_init_76 : decode cX7_init 76 = .ok (.newarray .int, 2) := by decide +kernel
theorem dX7_init_78 : decode cX7_init 78 = .ok (.putfield 34, 3) := by decide +kernel
theorem dX7_init_81 : decode cX7_init 81 = .ok (.aload_n 0, 1) := by decide +kernel
theorem dX7_init_82 : decode cX7_init 82 = .ok (.sipush 400, 3) := by decide +kernel
theorem dX7_init_85 : decode cX7_init 85 = .ok (.newarray .int, 2) := by decide +kernel
theorem dX7_init_87 : decode cX7_init 87 = .ok (.putfield 37, 3) := by decide +kernel
theorem dX7_init_90 : decode cX7_init 90 = .ok (.aload_n 0, 1) := by decide +kernel
theorem dX7_init_91 : decode cX7_init 91 = .ok (.sipush 400, 3) := by decide +kernel
theorem dX7_init_94 : decode cX7_init 94 = .ok (.newarray .int, 2) := by decide +kernel
theorem dX7_init_96 : decode cX7_init 96 = .ok (.putfield 40, 3) := by decide +kernel
theorem dX7_init_99 : decode cX7_init 99 = .ok (.aload_n 0, 1) := by decide +kernel
theorem dX7_init_100 : decode cX7_init 100 = .ok (.bipush 18, 2) := by decide +kernel
theorem dX7_init_102 : decode cX7_init 102 = .ok (.lconst 1, 1) := by decide +kernel
theorem dX7_init_103 : decode cX7_init 103 = .ok (.invokevirtual 43, 3) := by decide +kernel
theorem dX7_init_106 : decode cX7_init 106 = .ok (.return_, 1) := by decide +kernel
theorem dX7_thrown_0 : decode cX7_thrown 0 = .ok (.aload_n 0, 1) := by decide +kernel
theorem dX7_thrown_1 : decode cX7_thrown 1 = .ok (.getfield 47, 3) := by decide +kernel
theorem dX7_thrown_4 : decode cX7_thrown 4 = .ok (.ireturn, 1) := by decide +kernel
theorem dX7_throwing_0 : decode cX7_throwing 0 = .ok (.aload_n 0, 1) := by decide +kernel
theorem dX7_throwing_1 : decode cX7_throwing 1 = .ok (.iload_n 1, 1) := by decide +kernel
theorem dX7_throwing_2 : decode cX7_throwing 2 = .ok (.putfield 47, 3) := by decide +kernel
theorem dX7_throwing_5 : decode cX7_throwing 5 = .ok (.iconst 0, 1) := by decide +kernel
theorem dX7_throwing_6 : decode cX7_throwing 6 = .ok (.ireturn, 1) := by decide +kernel
theorem dX7_at_0 : decode cX7_at 0 = .ok (.iload_n 2, 1) := by decide +kernel
theorem dX7_at_1 : decode cX7_at 1 = .ok (.ifCond .lt 28, 3) := by decide +kernel
theorem dX7_at_4 : decode cX7_at 4 = .ok (.iload_n 2, 1) := by decide +kernel
theorem dX7_at_5 : decode cX7_at 5 = .ok (.aload_n 0, 1) := by decide +kernel
theorem dX7_at_6 : decode cX7_at 6 = .ok (.getfield 13, 3) := by decide +kernel
theorem dX7_at_9 : decode cX7_at 9 = .ok (.iload_n 1, 1) := by decide +kernel
theorem dX7_at_10 : decode cX7_at 10 = .ok (.iaload, 1) := by decide +kernel
theorem dX7_at_11 : decode cX7_at 11 = .ok (.if_icmp .ge 18, 3) := by decide +kernel
theorem dX7_at_14 : decode cX7_at 14 = .ok (.aload_n 0, 1) := by decide +kernel
theorem dX7_at_15 : decode cX7_at 15 = .ok (.getfield 7, 3) := by decide +kernel
theorem dX7_at_18 : decode cX7_at 18 = .ok (.sipush 160, 3) := by decide +kernel
theorem dX7_at_21 : decode cX7_at 21 = .ok (.iload_n 1, 1) := by decide +kernel
theorem dX7_at_22 : decode cX7_at 22 = .ok (.imul, 1) := by decide +kernel
theorem dX7_at_23 : decode cX7_at 23 = .ok (.iload_n 2, 1) := by decide +kernel
theorem dX7_at_24 : decode cX7_at 24 = .ok (.iadd, 1) := by decide +kernel
theorem dX7_at_25 : decode cX7_at 25 = .ok (.iaload, 1) := by decide +kernel
theorem dX7_at_26 : decode cX7_at 26 = .ok (.goto 4, 3) := by decide +kernel
theorem dX7_at_29 : decode cX7_at 29 = .ok (.iconst 0, 1) := by decide +kernel
theorem dX7_at_30 : decode cX7_at 30 = .ok (.ireturn, 1) := by decide +kernel
theorem dX7_trim_0 : decode cX7_trim 0 = .ok (.iload_n 2, 1) := by decide +kernel
theorem dX7_trim_1 : decode cX7_trim 1 = .ok (.istore_n 3, 1) := by decide +kernel
theorem dX7_trim_2 : decode cX7_trim 2 = .ok (.iload_n 3, 1) := by decide +kernel
theorem dX7_trim_3 : decode cX7_trim 3 = .ok (.ifCond .le 26, 3) := by decide +kernel
theorem dX7_trim_6 : decode cX7_trim 6 = .ok (.aload_n 0, 1) := by decide +kernel
theorem dX7_trim_7 : decode cX7_trim 7 = .ok (.getfield 7, 3) := by decide +kernel
theorem dX7_trim_10 : decode cX7_trim 10 = .ok (.sipush 160, 3) := by decide +kernel
theorem dX7_trim_13 : decode cX7_trim 13 = .ok (.iload_n 1, 1) := by decide +kernel
theorem dX7_trim_14 : decode cX7_trim 14 = .ok (.imul, 1) := by decide +kernel
theorem dX7_trim_15 : decode cX7_trim 15 = .ok (.iload_n 3, 1) := by decide +kernel
theorem dX7_trim_16 : decode cX7_trim 16 = .ok (.iadd, 1) := by decide +kernel
theorem dX7_trim_17 : decode cX7_trim 17 = .ok (.iconst 1, 1) := by decide +kernel
theorem dX7_trim_18 : decode cX7_trim 18 = .ok (.isub, 1) := by decide +kernel
theorem dX7_trim_19 : decode cX7_trim 19 = .ok (.iaload, 1) := by decide +kernel
theorem dX7_trim_20 : decode cX7_trim 20 = .ok (.ifCond .ne 9, 3) := by decide +kernel
theorem dX7_trim_23 : decode cX7_trim 23 = .ok (.iinc 3 (-1), 3) := by decide +kernel
theorem dX7_trim_26 : decode cX7_trim 26 = .ok (.goto (-24), 3) := by decide +kernel
theorem dX7_trim_29 : decode cX7_trim 29 = .ok (.aload_n 0, 1) := by decide +kernel
theorem dX7_trim_30 : decode cX7_trim 30 = .ok (.getfield 13, 3) := by decide +kernel
theorem dX7_trim_33 : decode cX7_trim 33 = .ok (.iload_n 1, 1) := by decide +kernel
theorem dX7_trim_34 : decode cX7_trim 34 = .ok (.iload_n 3, 1) := by decide +kernel
theorem dX7_trim_35 : decode cX7_trim 35 = .ok (.iastore, 1) := by decide +kernel
theorem dX7_trim_36 : decode cX7_trim 36 = .ok (.return_, 1) := by decide +kernel
theorem dX7_put_0 : decode cX7_put 0 = .ok (.iconst 0, 1) := by decide +kernel
theorem dX7_put_1 : decode cX7_put 1 = .ok (.istore 4, 2) := by decide +kernel
theorem dX7_put_3 : decode cX7_put 3 = .ok (.lload_n 2, 1) := by decide +kernel
theorem dX7_put_4 : decode cX7_put 4 = .ok (.lstore 5, 2) := by decide +kernel
theorem dX7_put_6 : decode cX7_put 6 = .ok (.lload 5, 2) := by decide +kernel
theorem dX7_put_8 : decode cX7_put 8 = .ok (.lconst 0, 1) := by decide +kernel
theorem dX7_put_9 : decode cX7_put 9 = .ok (.lcmp, 1) := by decide +kernel
theorem dX7_put_10 : decode cX7_put 10 = .ok (.ifCond .eq 36, 3) := by decide +kernel
theorem dX7_put_13 : decode cX7_put 13 = .ok (.aload_n 0, 1) := by decide +kernel
theorem dX7_put_14 : decode cX7_put 14 = .ok (.getfield 7, 3) := by decide +kernel
theorem dX7_put_17 : decode cX7_put 17 = .ok (.sipush 160, 3) := by decide +kernel
theorem dX7_put_20 : decode cX7_put 20 = .ok (.iload_n 1, 1) := by decide +kernel
theorem dX7_put_21 : decode cX7_put 21 = .ok (.imul, 1) := by decide +kernel
theorem dX7_put_22 : decode cX7_put 22 = .ok (.iload 4, 2) := by decide +kernel
theorem dX7_put_24 : decode cX7_put 24 = .ok (.iadd, 1) := by decide +kernel
theorem dX7_put_25 : decode cX7_put 25 = .ok (.lload 5, 2) := by decide +kernel
theorem dX7_put_27 : decode cX7_put 27 = .ok (.ldc2_w 51, 3) := by decide +kernel
theorem dX7_put_30 : decode cX7_put 30 = .ok (.land, 1) := by decide +kernel
theorem dX7_put_31 : decode cX7_put 31 = .ok (.l2i, 1) := by decide +kernel
theorem dX7_put_32 : decode cX7_put 32 = .ok (.iastore, 1) := by decide +kernel
theorem dX7_put_33 : decode cX7_put 33 = .ok (.iinc 4 1, 3) := by decide +kernel
theorem dX7_put_36 : decode cX7_put 36 = .ok (.lload 5, 2) := by decide +kernel
theorem dX7_put_38 : decode cX7_put 38 = .ok (.bipush 16, 2) := by decide +kernel
theorem dX7_put_40 : decode cX7_put 40 = .ok (.lushr, 1) := by decide +kernel
theorem dX7_put_41 : decode cX7_put 41 = .ok (.lstore 5, 2) := by decide +kernel
theorem dX7_put_43 : decode cX7_put 43 = .ok (.goto (-37), 3) := by decide +kernel
theorem dX7_put_46 : decode cX7_put 46 = .ok (.aload_n 0, 1) := by decide +kernel
theorem dX7_put_47 : decode cX7_put 47 = .ok (.getfield 13, 3) := by decide +kernel
theorem dX7_put_50 : decode cX7_put 50 = .ok (.iload_n 1, 1) := by decide +kernel
theorem dX7_put_51 : decode cX7_put 51 = .ok (.iload 4, 2) := by decide +kernel
theorem dX7_put_53 : decode cX7_put 53 = .ok (.iastore, 1) := by decide +kernel
theorem dX7_put_54 : decode cX7_put 54 = .ok (.return_, 1) := by decide +kernel
theorem dX7_lowest_0 : decode cX7_lowest 0 = .ok (.lconst 0, 1) := by decide +kernel
theorem dX7_lowest_1 : decode cX7_lowest 1 = .ok (.lstore_n 2, 1) := by decide +kernel
theorem dX7_lowest_2 : decode cX7_lowest 2 = .ok (.iconst 3, 1) := by decide +kernel
theorem dX7_lowest_3 : decode cX7_lowest 3 = .ok (.istore 4, 2) := by decide +kernel
theorem dX7_lowest_5 : decode cX7_lowest 5 = .ok (.iload 4, 2) := by decide +kernel
theorem dX7_lowest_7 : decode cX7_lowest 7 = .ok (.ifCond .lt 23, 3) := by decide +kernel
theorem dX7_lowest_10 : decode cX7_lowest 10 = .ok (.lload_n 2, 1) := by decide +kernel
theorem dX7_lowest_11 : decode cX7_lowest 11 = .ok (.bipush 16, 2) := by decide +kernel
theorem dX7_lowest_13 : decode cX7_lowest 13 = .ok (.lshl, 1) := by decide +kernel
theorem dX7_lowest_14 : decode cX7_lowest 14 = .ok (.aload_n 0, 1) := by decide +kernel
theorem dX7_lowest_15 : decode cX7_lowest 15 = .ok (.iload_n 1, 1) := by decide +kernel
theorem dX7_lowest_16 : decode cX7_lowest 16 = .ok (.iload 4, 2) := by decide +kernel
theorem dX7_lowest_18 : decode cX7_lowest 18 = .ok (.invokevirtual 53, 3) := by decide +kernel
theorem dX7_lowest_21 : decode cX7_lowest 21 = .ok (.i2l, 1) := by decide +kernel
theorem dX7_lowest_22 : decode cX7_lowest 22 = .ok (.lor, 1) := by decide +kernel
theorem dX7_lowest_23 : decode cX7_lowest 23 = .ok (.lstore_n 2, 1) := by decide +kernel
theorem dX7_lowest_24 : decode cX7_lowest 24 = .ok (.iinc 4 (-1), 3) := by decide +kernel
theorem dX7_lowest_27 : decode cX7_lowest 27 = .ok (.goto (-22), 3) := by decide +kernel
theorem dX7_lowest_30 : decode cX7_lowest 30 = .ok (.lload_n 2, 1) := by decide +kernel
theorem dX7_lowest_31 : decode cX7_lowest 31 = .ok (.lreturn, 1) := by decide +kernel
theorem dX7_copy_0 : decode cX7_copy 0 = .ok (.iconst 0, 1) := by decide +kernel
theorem dX7_copy_1 : decode cX7_copy 1 = .ok (.istore_n 3, 1) := by decide +kernel
theorem dX7_copy_2 : decode cX7_copy 2 = .ok (.iload_n 3, 1) := by decide +kernel
theorem dX7_copy_3 : decode cX7_copy 3 = .ok (.aload_n 0, 1) := by decide +kernel
theorem dX7_copy_4 : decode cX7_copy 4 = .ok (.getfield 13, 3) := by decide +kernel
theorem dX7_copy_7 : decode cX7_copy 7 = .ok (.iload_n 2, 1) := by decide +kernel
theorem dX7_copy_8 : decode cX7_copy 8 = .ok (.iaload, 1) := by decide +kernel
theorem dX7_copy_9 : decode cX7_copy 9 = .ok (.if_icmp .ge 33, 3) := by decide +kernel
theorem dX7_copy_12 : decode cX7_copy 12 = .ok (.aload_n 0, 1) := by decide +kernel
theorem dX7_copy_13 : decode cX7_copy 13 = .ok (.getfield 7, 3) := by decide +kernel
theorem dX7_copy_16 : decode cX7_copy 16 = .ok (.sipush 160, 3) := by decide +kernel
theorem dX7_copy_19 : decode cX7_copy 19 = .ok (.iload_n 1, 1) := by decide +kernel
theorem dX7_copy_20 : decode cX7_copy 20 = .ok (.imul, 1) := by decide +kernel
theorem dX7_copy_21 : decode cX7_copy 21 = .ok (.iload_n 3, 1) := by decide +kernel
theorem dX7_copy_22 : decode cX7_copy 22 = .ok (.iadd, 1) := by decide +kernel
theorem dX7_copy_23 : decode cX7_copy 23 = .ok (.aload_n 0, 1) := by decide +kernel
theorem dX7_copy_24 : decode cX7_copy 24 = .ok (.getfield 7, 3) := by decide +kernel
theorem dX7_copy_27 : decode cX7_copy 27 = .ok (.sipush 160, 3) := by decide +kernel
theorem dX7_copy_30 : decode cX7_copy 30 = .ok (.iload_n 2, 1) := by decide +kernel
theorem dX7_copy_31 : decode cX7_copy 31 = .ok (.imul, 1) := by decide +kernel
theorem dX7_copy_32 : decode cX7_copy 32 = .ok (.iload_n 3, 1) := by decide +kernel
theorem dX7_copy_33 : decode cX7_copy 33 = .ok (.iadd, 1) := by decide +kernel
theorem dX7_copy_34 : decode cX7_copy 34 = .ok (.iaload, 1) := by decide +kernel
theorem dX7_copy_35 : decode cX7_copy 35 = .ok (.iastore, 1) := by decide +kernel
theorem dX7_copy_36 : decode cX7_copy 36 = .ok (.iinc 3 1, 3) := by decide +kernel
theorem dX7_copy_39 : decode cX7_copy 39 = .ok (.goto (-37), 3) := by decide +kernel
theorem dX7_copy_42 : decode cX7_copy 42 = .ok (.aload_n 0, 1) := by decide +kernel
theorem dX7_copy_43 : decode cX7_copy 43 = .ok (.getfield 13, 3) := by decide +kernel
theorem dX7_copy_46 : decode cX7_copy 46 = .ok (.iload_n 1, 1) := by decide +kernel
theorem dX7_copy_47 : decode cX7_copy 47 = .ok (.aload_n 0, 1) := by decide +kernel
theorem dX7_copy_48 : decode cX7_copy 48 = .ok (.getfield 13, 3) := by decide +kernel
theorem dX7_copy_51 : decode cX7_copy 51 = .ok (.iload_n 2, 1) := by decide +kernel
theorem dX7_copy_52 : decode cX7_copy 52 = .ok (.iaload, 1) := by decide +kernel
theorem dX7_copy_53 : decode cX7_copy 53 = .ok (.iastore, 1) := by decide +kernel
theorem dX7_copy_54 : decode cX7_copy 54 = .ok (.return_, 1) := by decide +kernel
theorem dX7_bits_0 : decode cX7_bits 0 = .ok (.aload_n 0, 1) := by decide +kernel
theorem dX7_bits_1 : decode cX7_bits 1 = .ok (.getfield 13, 3) := by decide +kernel
theorem dX7_bits_4 : decode cX7_bits 4 = .ok (.iload_n 1, 1) := by decide +kernel
theorem dX7_bits_5 : decode cX7_bits 5 = .ok (.iaload, 1) := by decide +kernel
theorem dX7_bits_6 : decode cX7_bits 6 = .ok (.ifCond .ne 7, 3) := by decide +kernel
theorem dX7_bits_9 : decode cX7_bits 9 = .ok (.iconst 0, 1) := by decide +kernel
theorem dX7_bits_10 : decode cX7_bits 10 = .ok (.goto 15, 3) := by decide +kernel
theorem dX7_bits_13 : decode cX7_bits 13 = .ok (.bipush 16, 2) := by decide +kernel
theorem dX7_bits_15 : decode cX7_bits 15 = .ok (.aload_n 0, 1) := by decide +kernel
theorem dX7_bits_16 : decode cX7_bits 16 = .ok (.getfield 13, 3) := by decide +kernel
theorem dX7_bits_19 : decode cX7_bits 19 = .ok (.iload_n 1, 1) := by decide +kernel
theorem dX7_bits_20 : decode cX7_bits 20 = .ok (.iaload, 1) := by decide +kernel
theorem dX7_bits_21 : decode cX7_bits 21 = .ok (.imul, 1) := by decide +kernel
theorem dX7_bits_22 : decode cX7_bits 22 = .ok (.bipush 16, 2) := by decide +kernel
theorem dX7_bits_24 : decode cX7_bits 24 = .ok (.isub, 1) := by decide +kernel
theorem dX7_bits_25 : decode cX7_bits 25 = .ok (.istore_n 2, 1) := by decide +kernel
theorem dX7_bits_26 : decode cX7_bits 26 = .ok (.aload_n 0, 1) := by decide +kernel
theorem dX7_bits_27 : decode cX7_bits 27 = .ok (.iload_n 1, 1) := by decide +kernel
theorem dX7_bits_28 : decode cX7_bits 28 = .ok (.aload_n 0, 1) := by decide +kernel
theorem dX7_bits_29 : decode cX7_bits 29 = .ok (.getfield 13, 3) := by decide +kernel
theorem dX7_bits_32 : decode cX7_bits 32 = .ok (.iload_n 1, 1) := by decide +kernel
theorem dX7_bits_33 : decode cX7_bits 33 = .ok (.iaload, 1) := by decide +kernel
theorem dX7_bits_34 : decode cX7_bits 34 = .ok (.iconst 1, 1) := by decide +kernel
theorem dX7_bits_35 : decode cX7_bits 35 = .ok (.isub, 1) := by decide +kernel
theorem dX7_bits_36 : decode cX7_bits 36 = .ok (.invokevirtual 53, 3) := by decide +kernel
theorem dX7_bits_39 : decode cX7_bits 39 = .ok (.istore_n 3, 1) := by decide +kernel
theorem dX7_bits_40 : decode cX7_bits 40 = .ok (.iload_n 3, 1) := by decide +kernel
theorem dX7_bits_41 : decode cX7_bits 41 = .ok (.ifCond .le 13, 3) := by decide +kernel
theorem dX7_bits_44 : decode cX7_bits 44 = .ok (.iinc 2 1, 3) := by decide +kernel
theorem dX7_bits_47 : decode cX7_bits 47 = .ok (.iload_n 3, 1) := by decide +kernel
theorem dX7_bits_48 : decode cX7_bits 48 = .ok (.iconst 1, 1) := by decide +kernel
theorem dX7_bits_49 : decode cX7_bits 49 = .ok (.ishr, 1) := by decide +kernel
theorem dX7_bits_50 : decode cX7_bits 50 = .ok (.istore_n 3, 1) := by decide +kernel
theorem dX7_bits_51 : decode cX7_bits 51 = .ok (.goto (-11), 3) := by decide +kernel
theorem dX7_bits_54 : decode cX7_bits 54 = .ok (.iload_n 2, 1) := by decide +kernel
theorem dX7_bits_55 : decode cX7_bits 55 = .ok (.ireturn, 1) := by decide +kernel
theorem dX7_compare_0 : decode cX7_compare 0 = .ok (.aload_n 0, 1) := by decide +kernel
theorem dX7_compare_1 : decode cX7_compare 1 = .ok (.getfield 13, 3) := by decide +kernel
theorem dX7_compare_4 : decode cX7_compare 4 = .ok (.iload_n 1, 1) := by decide +kernel
theorem dX7_compare_5 : decode cX7_compare 5 = .ok (.iaload, 1) := by decide +kernel
theorem dX7_compare_6 : decode cX7_compare 6 = .ok (.aload_n 0, 1) := by decide +kernel
theorem dX7_compare_7 : decode cX7_compare 7 = .ok (.getfield 13, 3) := by decide +kernel
theorem dX7_compare_10 : decode cX7_compare 10 = .ok (.iload_n 2, 1) := by decide +kernel
theorem dX7_compare_11 : decode cX7_compare 11 = .ok (.iaload, 1) := by decide +kernel
theorem dX7_compare_12 : decode cX7_compare 12 = .ok (.if_icmp .eq 24, 3) := by decide +kernel
theorem dX7_compare_15 : decode cX7_compare 15 = .ok (.aload_n 0, 1) := by decide +kernel
theorem dX7_compare_16 : decode cX7_compare 16 = .ok (.getfield 13, 3) := by decide +kernel
theorem dX7_compare_19 : decode cX7_compare 19 = .ok (.iload_n 1, 1) := by decide +kernel
theorem dX7_compare_20 : decode cX7_compare 20 = .ok (.iaload, 1) := by decide +kernel
theorem dX7_compare_21 : decode cX7_compare 21 = .ok (.aload_n 0, 1) := by decide +kernel
theorem dX7_compare_22 : decode cX7_compare 22 = .ok (.getfield 13, 3) := by decide +kernel
theorem dX7_compare_25 : decode cX7_compare 25 = .ok (.iload_n 2, 1) := by decide +kernel
theorem dX7_compare_26 : decode cX7_compare 26 = .ok (.iaload, 1) := by decide +kernel
theorem dX7_compare_27 : decode cX7_compare 27 = .ok (.if_icmp .ge 7, 3) := by decide +kernel
theorem dX7_compare_30 : decode cX7_compare 30 = .ok (.iconst (-1), 1) := by decide +kernel
theorem dX7_compare_31 : decode cX7_compare 31 = .ok (.goto 4, 3) := by decide +kernel
theorem dX7_compare_34 : decode cX7_compare 34 = .ok (.iconst 1, 1) := by decide +kernel
theorem dX7_compare_35 : decode cX7_compare 35 = .ok (.ireturn, 1) := by decide +kernel
theorem dX7_compare_36 : decode cX7_compare 36 = .ok (.aload_n 0, 1) := by decide +kernel
theorem dX7_compare_37 : decode cX7_compare 37 = .ok (.getfield 13, 3) := by decide +kernel
theorem dX7_compare_40 : decode cX7_compare 40 = .ok (.iload_n 1, 1) := by decide +kernel
theorem dX7_compare_41 : decode cX7_compare 41 = .ok (.iaload, 1) := by decide +kernel
theorem dX7_compare_42 : decode cX7_compare 42 = .ok (.iconst 1, 1) := by decide +kernel
theorem dX7_compare_43 : decode cX7_compare 43 = .ok (.isub, 1) := by decide +kernel
theorem dX7_compare_44 : decode cX7_compare 44 = .ok (.istore_n 3, 1) := by decide +kernel
theorem dX7_compare_45 : decode cX7_compare 45 = .ok (.iload_n 3, 1) := by decide +kernel
theorem dX7_compare_46 : decode cX7_compare 46 = .ok (.ifCond .lt 69, 3) := by decide +kernel
theorem dX7_compare_49 : decode cX7_compare 49 = .ok (.aload_n 0, 1) := by decide +kernel
theorem dX7_compare_50 : decode cX7_compare 50 = .ok (.getfield 7, 3) := by decide +kernel
theorem dX7_compare_53 : decode cX7_compare 53 = .ok (.sipush 160, 3) := by decide +kernel
theorem dX7_compare_56 : decode cX7_compare 56 = .ok (.iload_n 1, 1) := by decide +kernel
theorem dX7_compare_57 : decode cX7_compare 57 = .ok (.imul, 1) := by decide +kernel
theorem dX7_compare_58 : decode cX7_compare 58 = .ok (.iload_n 3, 1) := by decide +kernel
theorem dX7_compare_59 : decode cX7_compare 59 = .ok (.iadd, 1) := by decide +kernel
theorem dX7_compare_60 : decode cX7_compare 60 = .ok (.iaload, 1) := by decide +kernel
theorem dX7_compare_61 : decode cX7_compare 61 = .ok (.aload_n 0, 1) := by decide +kernel
theorem dX7_compare_62 : decode cX7_compare 62 = .ok (.getfield 7, 3) := by decide +kernel
theorem dX7_compare_65 : decode cX7_compare 65 = .ok (.sipush 160, 3) := by decide +kernel
theorem dX7_compare_68 : decode cX7_compare 68 = .ok (.iload_n 2, 1) := by decide +kernel
theorem dX7_compare_69 : decode cX7_compare 69 = .ok (.imul, 1) := by decide +kernel
theorem dX7_compare_70 : decode cX7_compare 70 = .ok (.iload_n 3, 1) := by decide +kernel
theorem dX7_compare_71 : decode cX7_compare 71 = .ok (.iadd, 1) := by decide +kernel
theorem dX7_compare_72 : decode cX7_compare 72 = .ok (.iaload, 1) := by decide +kernel
theorem dX7_compare_73 : decode cX7_compare 73 = .ok (.if_icmp .eq 36, 3) := by decide +kernel
theorem dX7_compare_76 : decode cX7_compare 76 = .ok (.aload_n 0, 1) := by decide +kernel
theorem dX7_compare_77 : decode cX7_compare 77 = .ok (.getfield 7, 3) := by decide +kernel
theorem dX7_compare_80 : decode cX7_compare 80 = .ok (.sipush 160, 3) := by decide +kernel
theorem dX7_compare_83 : decode cX7_compare 83 = .ok (.iload_n 1, 1) := by decide +kernel
theorem dX7_compare_84 : decode cX7_compare 84 = .ok (.imul, 1) := by decide +kernel
theorem dX7_compare_85 : decode cX7_compare 85 = .ok (.iload_n 3, 1) := by decide +kernel
theorem dX7_compare_86 : decode cX7_compare 86 = .ok (.iadd, 1) := by decide +kernel
theorem dX7_compare_87 : decode cX7_compare 87 = .ok (.iaload, 1) := by decide +kernel
theorem dX7_compare_88 : decode cX7_compare 88 = .ok (.aload_n 0, 1) := by decide +kernel
theorem dX7_compare_89 : decode cX7_compare 89 = .ok (.getfield 7, 3) := by decide +kernel
theorem dX7_compare_92 : decode cX7_compare 92 = .ok (.sipush 160, 3) := by decide +kernel
theorem dX7_compare_95 : decode cX7_compare 95 = .ok (.iload_n 2, 1) := by decide +kernel
theorem dX7_compare_96 : decode cX7_compare 96 = .ok (.imul, 1) := by decide +kernel
theorem dX7_compare_97 : decode cX7_compare 97 = .ok (.iload_n 3, 1) := by decide +kernel
theorem dX7_compare_98 : decode cX7_compare 98 = .ok (.iadd, 1) := by decide +kernel
theorem dX7_compare_99 : decode cX7_compare 99 = .ok (.iaload, 1) := by decide +kernel
theorem dX7_compare_100 : decode cX7_compare 100 = .ok (.if_icmp .ge 7, 3) := by decide +kernel
theorem dX7_compare_103 : decode cX7_compare 103 = .ok (.iconst (-1), 1) := by decide +kernel
theorem dX7_compare_104 : decode cX7_compare 104 = .ok (.goto 4, 3) := by decide +kernel
theorem dX7_compare_107 : decode cX7_compare 107 = .ok (.iconst 1, 1) := by decide +kernel
theorem dX7_compare_108 : decode cX7_compare 108 = .ok (.ireturn, 1) := by decide +kernel
theorem dX7_compare_109 : decode cX7_compare 109 = .ok (.iinc 3 (-1), 3) := by decide +kernel
theorem dX7_compare_112 : decode cX7_compare 112 = .ok (.goto (-67), 3) := by decide +kernel
theorem dX7_compare_115 : decode cX7_compare 115 = .ok (.iconst 0, 1) := by decide +kernel
theorem dX7_compare_116 : decode cX7_compare 116 = .ok (.ireturn, 1) := by decide +kernel
theorem dX7_plus_0 : decode cX7_plus 0 = .ok (.aload_n 0, 1) := by decide +kernel
theorem dX7_plus_1 : decode cX7_plus 1 = .ok (.getfield 13, 3) := by decide +kernel
theorem dX7_plus_4 : decode cX7_plus 4 = .ok (.iload_n 2, 1) := by decide +kernel
theorem dX7_plus_5 : decode cX7_plus 5 = .ok (.iaload, 1) := by decide +kernel
theorem dX7_plus_6 : decode cX7_plus 6 = .ok (.aload_n 0, 1) := by decide +kernel
theorem dX7_plus_7 : decode cX7_plus 7 = .ok (.getfield 13, 3) := by decide +kernel
theorem dX7_plus_10 : decode cX7_plus 10 = .ok (.iload_n 3, 1) := by decide +kernel
theorem dX7_plus_11 : decode cX7_plus 11 = .ok (.iaload, 1) := by decide +kernel
theorem dX7_plus_12 : decode cX7_plus 12 = .ok (.if_icmp .le 12, 3) := by decide +kernel
theorem dX7_plus_15 : decode cX7_plus 15 = .ok (.aload_n 0, 1) := by decide +kernel
theorem dX7_plus_16 : decode cX7_plus 16 = .ok (.getfield 13, 3) := by decide +kernel
theorem dX7_plus_19 : decode cX7_plus 19 = .ok (.iload_n 2, 1) := by decide +kernel
theorem dX7_plus_20 : decode cX7_plus 20 = .ok (.iaload, 1) := by decide +kernel
theorem dX7_plus_21 : decode cX7_plus 21 = .ok (.goto 9, 3) := by decide +kernel
theorem dX7_plus_24 : decode cX7_plus 24 = .ok (.aload_n 0, 1) := by decide +kernel
theorem dX7_plus_25 : decode cX7_plus 25 = .ok (.getfield 13, 3) := by decide +kernel
theorem dX7_plus_28 : decode cX7_plus 28 = .ok (.iload_n 3, 1) := by decide +kernel
theorem dX7_plus_29 : decode cX7_plus 29 = .ok (.iaload, 1) := by decide +kernel
theorem dX7_plus_30 : decode cX7_plus 30 = .ok (.istore 4, 2) := by decide +kernel
theorem dX7_plus_32 : decode cX7_plus 32 = .ok (.iconst 0, 1) := by decide +kernel
theorem dX7_plus_33 : decode cX7_plus 33 = .ok (.istore 5, 2) := by decide +kernel
theorem dX7_plus_35 : decode cX7_plus 35 = .ok (.iconst 0, 1) := by decide +kernel
theorem dX7_plus_36 : decode cX7_plus 36 = .ok (.istore 6, 2) := by decide +kernel
theorem dX7_plus_38 : decode cX7_plus 38 = .ok (.iload 6, 2) := by decide +kernel
theorem dX7_plus_40 : decode cX7_plus 40 = .ok (.iload 4, 2) := by decide +kernel
theorem dX7_plus_42 : decode cX7_plus 42 = .ok (.if_icmp .ge 54, 3) := by decide +kernel
theorem dX7_plus_45 : decode cX7_plus 45 = .ok (.aload_n 0, 1) := by decide +kernel
theorem dX7_plus_46 : decode cX7_plus 46 = .ok (.iload_n 2, 1) := by decide +kernel
theorem dX7_plus_47 : decode cX7_plus 47 = .ok (.iload 6, 2) := by decide +kernel
theorem dX7_plus_49 : decode cX7_plus 49 = .ok (.invokevirtual 53, 3) := by decide +kernel
theorem dX7_plus_52 : decode cX7_plus 52 = .ok (.aload_n 0, 1) := by decide +kernel
theorem dX7_plus_53 : decode cX7_plus 53 = .ok (.iload_n 3, 1) := by decide +kernel
theorem dX7_plus_54 : decode cX7_plus 54 = .ok (.iload 6, 2) := by decide +kernel
theorem dX7_plus_56 : decode cX7_plus 56 = .ok (.invokevirtual 53, 3) := by decide +kernel
theorem dX7_plus_59 : decode cX7_plus 59 = .ok (.iadd, 1) := by decide +kernel
theorem dX7_plus_60 : decode cX7_plus 60 = .ok (.iload 5, 2) := by decide +kernel
theorem dX7_plus_62 : decode cX7_plus 62 = .ok (.iadd, 1) := by decide +kernel
theorem dX7_plus_63 : decode cX7_plus 63 = .ok (.istore 7, 2) := by decide +kernel
theorem dX7_plus_65 : decode cX7_plus 65 = .ok (.aload_n 0, 1) := by decide +kernel
theorem dX7_plus_66 : decode cX7_plus 66 = .ok (.getfield 7, 3) := by decide +kernel
theorem dX7_plus_69 : decode cX7_plus 69 = .ok (.sipush 160, 3) := by decide +kernel
theorem dX7_plus_72 : decode cX7_plus 72 = .ok (.iload_n 1, 1) := by decide +kernel
theorem dX7_plus_73 : decode cX7_plus 73 = .ok (.imul, 1) := by decide +kernel
theorem dX7_plus_74 : decode cX7_plus 74 = .ok (.iload 6, 2) := by decide +kernel
theorem dX7_plus_76 : decode cX7_plus 76 = .ok (.iadd, 1) := by decide +kernel
theorem dX7_plus_77 : decode cX7_plus 77 = .ok (.iload 7, 2) := by decide +kernel
theorem dX7_plus_79 : decode cX7_plus 79 = .ok (.ldc 57, 2) := by decide +kernel
theorem dX7_plus_81 : decode cX7_plus 81 = .ok (.iand, 1) := by decide +kernel
theorem dX7_plus_82 : decode cX7_plus 82 = .ok (.iastore, 1) := by decide +kernel
theorem dX7_plus_83 : decode cX7_plus 83 = .ok (.iload 7, 2) := by decide +kernel
theorem dX7_plus_85 : decode cX7_plus 85 = .ok (.bipush 16, 2) := by decide +kernel
theorem dX7_plus_87 : decode cX7_plus 87 = .ok (.ishr, 1) := by decide +kernel
theorem dX7_plus_88 : decode cX7_plus 88 = .ok (.istore 5, 2) := by decide +kernel
theorem dX7_plus_90 : decode cX7_plus 90 = .ok (.iinc 6 1, 3) := by decide +kernel
theorem dX7_plus_93 : decode cX7_plus 93 = .ok (.goto (-55), 3) := by decide +kernel
theorem dX7_plus_96 : decode cX7_plus 96 = .ok (.aload_n 0, 1) := by decide +kernel
theorem dX7_plus_97 : decode cX7_plus 97 = .ok (.getfield 7, 3) := by decide +kernel
theorem dX7_plus_100 : decode cX7_plus 100 = .ok (.sipush 160, 3) := by decide +kernel
theorem dX7_plus_103 : decode cX7_plus 103 = .ok (.iload_n 1, 1) := by decide +kernel
theorem dX7_plus_104 : decode cX7_plus 104 = .ok (.imul, 1) := by decide +kernel
theorem dX7_plus_105 : decode cX7_plus 105 = .ok (.iload 4, 2) := by decide +kernel
theorem dX7_plus_107 : decode cX7_plus 107 = .ok (.iadd, 1) := by decide +kernel
theorem dX7_plus_108 : decode cX7_plus 108 = .ok (.iload 5, 2) := by decide +kernel
theorem dX7_plus_110 : decode cX7_plus 110 = .ok (.iastore, 1) := by decide +kernel
theorem dX7_plus_111 : decode cX7_plus 111 = .ok (.aload_n 0, 1) := by decide +kernel
theorem dX7_plus_112 : decode cX7_plus 112 = .ok (.iload_n 1, 1) := by decide +kernel
theorem dX7_plus_113 : decode cX7_plus 113 = .ok (.iload 4, 2) := by decide +kernel
theorem dX7_plus_115 : decode cX7_plus 115 = .ok (.iconst 1, 1) := by decide +kernel
theorem dX7_plus_116 : decode cX7_plus 116 = .ok (.iadd, 1) := by decide +kernel
theorem dX7_plus_117 : decode cX7_plus 117 = .ok (.invokevirtual 58, 3) := by decide +kernel
theorem dX7_plus_120 : decode cX7_plus 120 = .ok (.return_, 1) := by decide +kernel
theorem dX7_shifted_0 : decode cX7_shifted 0 = .ok (.iload_n 3, 1) := by decide +kernel
theorem dX7_shifted_1 : decode cX7_shifted 1 = .ok (.iload_n 2, 1) := by decide +kernel
theorem dX7_shifted_2 : decode cX7_shifted 2 = .ok (.bipush 16, 2) := by decide +kernel
theorem dX7_shifted_4 : decode cX7_shifted 4 = .ok (.idiv, 1) := by decide +kernel
theorem dX7_shifted_5 : decode cX7_shifted 5 = .ok (.isub, 1) := by decide +kernel
theorem dX7_shifted_6 : decode cX7_shifted 6 = .ok (.istore 4, 2) := by decide +kernel
theorem dX7_shifted_8 : decode cX7_shifted 8 = .ok (.aload_n 0, 1) := by decide +kernel
theorem dX7_shifted_9 : decode cX7_shifted 9 = .ok (.iload_n 1, 1) := by decide +kernel
theorem dX7_shifted_10 : decode cX7_shifted 10 = .ok (.iload 4, 2) := by decide +kernel
theorem dX7_shifted_12 : decode cX7_shifted 12 = .ok (.invokevirtual 53, 3) := by decide +kernel
theorem dX7_shifted_15 : decode cX7_shifted 15 = .ok (.iload_n 2, 1) := by decide +kernel
theorem dX7_shifted_16 : decode cX7_shifted 16 = .ok (.bipush 16, 2) := by decide +kernel
theorem dX7_shifted_18 : decode cX7_shifted 18 = .ok (.irem, 1) := by decide +kernel
theorem dX7_shifted_19 : decode cX7_shifted 19 = .ok (.ishl, 1) := by decide +kernel
theorem dX7_shifted_20 : decode cX7_shifted 20 = .ok (.aload_n 0, 1) := by decide +kernel
theorem dX7_shifted_21 : decode cX7_shifted 21 = .ok (.iload_n 1, 1) := by decide +kernel
theorem dX7_shifted_22 : decode cX7_shifted 22 = .ok (.iload 4, 2) := by decide +kernel
theorem dX7_shifted_24 : decode cX7_shifted 24 = .ok (.iconst 1, 1) := by decide +kernel
theorem dX7_shifted_25 : decode cX7_shifted 25 = .ok (.isub, 1) := by decide +kernel
theorem dX7_shifted_26 : decode cX7_shifted 26 = .ok (.invokevirtual 53, 3) := by decide +kernel
theorem dX7_shifted_29 : decode cX7_shifted 29 = .ok (.bipush 16, 2) := by decide +kernel
theorem dX7_shifted_31 : decode cX7_shifted 31 = .ok (.iload_n 2, 1) := by decide +kernel
theorem dX7_shifted_32 : decode cX7_shifted 32 = .ok (.bipush 16, 2) := by decide +kernel
theorem dX7_shifted_34 : decode cX7_shifted 34 = .ok (.irem, 1) := by decide +kernel
theorem dX7_shifted_35 : decode cX7_shifted 35 = .ok (.isub, 1) := by decide +kernel
theorem dX7_shifted_36 : decode cX7_shifted 36 = .ok (.ishr, 1) := by decide +kernel
theorem dX7_shifted_37 : decode cX7_shifted 37 = .ok (.ior, 1) := by decide +kernel
theorem dX7_shifted_38 : decode cX7_shifted 38 = .ok (.ldc 57, 2) := by decide +kernel
theorem dX7_shifted_40 : decode cX7_shifted 40 = .ok (.iand, 1) := by decide +kernel
theorem dX7_shifted_41 : decode cX7_shifted 41 = .ok (.ireturn, 1) := by decide +kernel
theorem dX7_lessen_0 : decode cX7_lessen 0 = .ok (.iconst 0, 1) := by decide +kernel
theorem dX7_lessen_1 : decode cX7_lessen 1 = .ok (.istore 4, 2) := by decide +kernel
theorem dX7_lessen_3 : decode cX7_lessen 3 = .ok (.iload_n 3, 1) := by decide +kernel
theorem dX7_lessen_4 : decode cX7_lessen 4 = .ok (.bipush 16, 2) := by decide +kernel
theorem dX7_lessen_6 : decode cX7_lessen 6 = .ok (.idiv, 1) := by decide +kernel
theorem dX7_lessen_7 : decode cX7_lessen 7 = .ok (.istore 5, 2) := by decide +kernel
theorem dX7_lessen_9 : decode cX7_lessen 9 = .ok (.iload 5, 2) := by decide +kernel
theorem dX7_lessen_11 : decode cX7_lessen 11 = .ok (.aload_n 0, 1) := by decide +kernel
theorem dX7_lessen_12 : decode cX7_lessen 12 = .ok (.getfield 13, 3) := by decide +kernel
theorem dX7_lessen_15 : decode cX7_lessen 15 = .ok (.iload_n 1, 1) := by decide +kernel
theorem dX7_lessen_16 : decode cX7_lessen 16 = .ok (.iaload, 1) := by decide +kernel
theorem dX7_lessen_17 : decode cX7_lessen 17 = .ok (.if_icmp .ge 66, 3) := by decide +kernel
theorem dX7_lessen_20 : decode cX7_lessen 20 = .ok (.aload_n 0, 1) := by decide +kernel
theorem dX7_lessen_21 : decode cX7_lessen 21 = .ok (.getfield 7, 3) := by decide +kernel
theorem dX7_lessen_24 : decode cX7_lessen 24 = .ok (.sipush 160, 3) := by decide +kernel
theorem dX7_lessen_27 : decode cX7_lessen 27 = .ok (.iload_n 1, 1) := by decide +kernel
theorem dX7_lessen_28 : decode cX7_lessen 28 = .ok (.imul, 1) := by decide +kernel
theorem dX7_lessen_29 : decode cX7_lessen 29 = .ok (.iload 5, 2) := by decide +kernel
theorem dX7_lessen_31 : decode cX7_lessen 31 = .ok (.iadd, 1) := by decide +kernel
theorem dX7_lessen_32 : decode cX7_lessen 32 = .ok (.iaload, 1) := by decide +kernel
theorem dX7_lessen_33 : decode cX7_lessen 33 = .ok (.aload_n 0, 1) := by decide +kernel
theorem dX7_lessen_34 : decode cX7_lessen 34 = .ok (.iload_n 2, 1) := by decide +kernel
theorem dX7_lessen_35 : decode cX7_lessen 35 = .ok (.iload_n 3, 1) := by decide +kernel
theorem dX7_lessen_36 : decode cX7_lessen 36 = .ok (.iload 5, 2) := by decide +kernel
theorem dX7_lessen_38 : decode cX7_lessen 38 = .ok (.invokevirtual 62, 3) := by decide +kernel
theorem dX7_lessen_41 : decode cX7_lessen 41 = .ok (.isub, 1) := by decide +kernel
theorem dX7_lessen_42 : decode cX7_lessen 42 = .ok (.iload 4, 2) := by decide +kernel
theorem dX7_lessen_44 : decode cX7_lessen 44 = .ok (.isub, 1) := by decide +kernel
theorem dX7_lessen_45 : decode cX7_lessen 45 = .ok (.istore 6, 2) := by decide +kernel
theorem dX7_lessen_47 : decode cX7_lessen 47 = .ok (.iload 6, 2) := by decide +kernel
theorem dX7_lessen_49 : decode cX7_lessen 49 = .ok (.ifCond .ge 7, 3) := by decide +kernel
theorem dX7_lessen_52 : decode cX7_lessen 52 = .ok (.iconst 1, 1) := by decide +kernel
theorem dX7_lessen_53 : decode cX7_lessen 53 = .ok (.goto 4, 3) := by decide +kernel
theorem dX7_lessen_56 : decode cX7_lessen 56 = .ok (.iconst 0, 1) := by decide +kernel
theorem dX7_lessen_57 : decode cX7_lessen 57 = .ok (.istore 4, 2) := by decide +kernel
theorem dX7_lessen_59 : decode cX7_lessen 59 = .ok (.aload_n 0, 1) := by decide +kernel
theorem dX7_lessen_60 : decode cX7_lessen 60 = .ok (.getfield 7, 3) := by decide +kernel
theorem dX7_lessen_63 : decode cX7_lessen 63 = .ok (.sipush 160, 3) := by decide +kernel
theorem dX7_lessen_66 : decode cX7_lessen 66 = .ok (.iload_n 1, 1) := by decide +kernel
theorem dX7_lessen_67 : decode cX7_lessen 67 = .ok (.imul, 1) := by decide +kernel
theorem dX7_lessen_68 : decode cX7_lessen 68 = .ok (.iload 5, 2) := by decide +kernel
theorem dX7_lessen_70 : decode cX7_lessen 70 = .ok (.iadd, 1) := by decide +kernel
theorem dX7_lessen_71 : decode cX7_lessen 71 = .ok (.iload 6, 2) := by decide +kernel
theorem dX7_lessen_73 : decode cX7_lessen 73 = .ok (.ldc 57, 2) := by decide +kernel
theorem dX7_lessen_75 : decode cX7_lessen 75 = .ok (.iand, 1) := by decide +kernel
theorem dX7_lessen_76 : decode cX7_lessen 76 = .ok (.iastore, 1) := by decide +kernel
theorem dX7_lessen_77 : decode cX7_lessen 77 = .ok (.iinc 5 1, 3) := by decide +kernel
theorem dX7_lessen_80 : decode cX7_lessen 80 = .ok (.goto (-71), 3) := by decide +kernel
theorem dX7_lessen_83 : decode cX7_lessen 83 = .ok (.aload_n 0, 1) := by decide +kernel
theorem dX7_lessen_84 : decode cX7_lessen 84 = .ok (.iload_n 1, 1) := by decide +kernel
theorem dX7_lessen_85 : decode cX7_lessen 85 = .ok (.aload_n 0, 1) := by decide +kernel
theorem dX7_lessen_86 : decode cX7_lessen 86 = .ok (.getfield 13, 3) := by decide +kernel
theorem dX7_lessen_89 : decode cX7_lessen 89 = .ok (.iload_n 1, 1) := by decide +kernel
theorem dX7_lessen_90 : decode cX7_lessen 90 = .ok (.iaload, 1) := by decide +kernel
theorem dX7_lessen_91 : decode cX7_lessen 91 = .ok (.invokevirtual 58, 3) := by decide +kernel
theorem dX7_lessen_94 : decode cX7_lessen 94 = .ok (.return_, 1) := by decide +kernel
theorem dX7_isBelow_0 : decode cX7_isBelow 0 = .ok (.aload_n 0, 1) := by decide +kernel
theorem dX7_isBelow_1 : decode cX7_isBelow 1 = .ok (.getfield 13, 3) := by decide +kernel
theorem dX7_isBelow_4 : decode cX7_isBelow 4 = .ok (.iload_n 1, 1) := by decide +kernel
theorem dX7_isBelow_5 : decode cX7_isBelow 5 = .ok (.iaload, 1) := by decide +kernel
theorem dX7_isBelow_6 : decode cX7_isBelow 6 = .ok (.iconst 1, 1) := by decide +kernel
theorem dX7_isBelow_7 : decode cX7_isBelow 7 = .ok (.isub, 1) := by decide +kernel
theorem dX7_isBelow_8 : decode cX7_isBelow 8 = .ok (.istore 4, 2) := by decide +kernel
theorem dX7_isBelow_10 : decode cX7_isBelow 10 = .ok (.iload 4, 2) := by decide +kernel
theorem dX7_isBelow_12 : decode cX7_isBelow 12 = .ok (.ifCond .lt 61, 3) := by decide +kernel
theorem dX7_isBelow_15 : decode cX7_isBelow 15 = .ok (.aload_n 0, 1) := by decide +kernel
theorem dX7_isBelow_16 : decode cX7_isBelow 16 = .ok (.iload_n 2, 1) := by decide +kernel
theorem dX7_isBelow_17 : decode cX7_isBelow 17 = .ok (.iload_n 3, 1) := by decide +kernel
theorem dX7_isBelow_18 : decode cX7_isBelow 18 = .ok (.iload 4, 2) := by decide +kernel
theorem dX7_isBelow_20 : decode cX7_isBelow 20 = .ok (.invokevirtual 62, 3) := by decide +kernel
theorem dX7_isBelow_23 : decode cX7_isBelow 23 = .ok (.istore 5, 2) := by decide +kernel
theorem dX7_isBelow_25 : decode cX7_isBelow 25 = .ok (.aload_n 0, 1) := by decide +kernel
theorem dX7_isBelow_26 : decode cX7_isBelow 26 = .ok (.getfield 7, 3) := by decide +kernel
theorem dX7_isBelow_29 : decode cX7_isBelow 29 = .ok (.sipush 160, 3) := by decide +kernel
theorem dX7_isBelow_32 : decode cX7_isBelow 32 = .ok (.iload_n 1, 1) := by decide +kernel
theorem dX7_isBelow_33 : decode cX7_isBelow 33 = .ok (.imul, 1) := by decide +kernel
theorem dX7_isBelow_34 : decode cX7_isBelow 34 = .ok (.iload 4, 2) := by decide +kernel
theorem dX7_isBelow_36 : decode cX7_isBelow 36 = .ok (.iadd, 1) := by decide +kernel
theorem dX7_isBelow_37 : decode cX7_isBelow 37 = .ok (.iaload, 1) := by decide +kernel
theorem dX7_isBelow_38 : decode cX7_isBelow 38 = .ok (.iload 5, 2) := by decide +kernel
theorem dX7_isBelow_40 : decode cX7_isBelow 40 = .ok (.if_icmp .eq 27, 3) := by decide +kernel
theorem dX7_isBelow_43 : decode cX7_isBelow 43 = .ok (.aload_n 0, 1) := by decide +kernel
theorem dX7_isBelow_44 : decode cX7_isBelow 44 = .ok (.getfield 7, 3) := by decide +kernel
theorem dX7_isBelow_47 : decode cX7_isBelow 47 = .ok (.sipush 160, 3) := by decide +kernel
theorem dX7_isBelow_50 : decode cX7_isBelow 50 = .ok (.iload_n 1, 1) := by decide +kernel
theorem dX7_isBelow_51 : decode cX7_isBelow 51 = .ok (.imul, 1) := by decide +kernel
theorem dX7_isBelow_52 : decode cX7_isBelow 52 = .ok (.iload 4, 2) := by decide +kernel
theorem dX7_isBelow_54 : decode cX7_isBelow 54 = .ok (.iadd, 1) := by decide +kernel
theorem dX7_isBelow_55 : decode cX7_isBelow 55 = .ok (.iaload, 1) := by decide +kernel
theorem dX7_isBelow_56 : decode cX7_isBelow 56 = .ok (.iload 5, 2) := by decide +kernel
theorem dX7_isBelow_58 : decode cX7_isBelow 58 = .ok (.if_icmp .ge 7, 3) := by decide +kernel
theorem dX7_isBelow_61 : decode cX7_isBelow 61 = .ok (.iconst 1, 1) := by decide +kernel
theorem dX7_isBelow_62 : decode cX7_isBelow 62 = .ok (.goto 4, 3) := by decide +kernel
theorem dX7_isBelow_65 : decode cX7_isBelow 65 = .ok (.iconst 0, 1) := by decide +kernel
theorem dX7_isBelow_66 : decode cX7_isBelow 66 = .ok (.ireturn, 1) := by decide +kernel
theorem dX7_isBelow_67 : decode cX7_isBelow 67 = .ok (.iinc 4 (-1), 3) := by decide +kernel
theorem dX7_isBelow_70 : decode cX7_isBelow 70 = .ok (.goto (-60), 3) := by decide +kernel
theorem dX7_isBelow_73 : decode cX7_isBelow 73 = .ok (.iconst 0, 1) := by decide +kernel
theorem dX7_isBelow_74 : decode cX7_isBelow 74 = .ok (.ireturn, 1) := by decide +kernel
theorem dX7_divide_0 : decode cX7_divide 0 = .ok (.aload_n 0, 1) := by decide +kernel
theorem dX7_divide_1 : decode cX7_divide 1 = .ok (.getfield 13, 3) := by decide +kernel
theorem dX7_divide_4 : decode cX7_divide 4 = .ok (.iload_n 1, 1) := by decide +kernel
theorem dX7_divide_5 : decode cX7_divide 5 = .ok (.iaload, 1) := by decide +kernel
theorem dX7_divide_6 : decode cX7_divide 6 = .ok (.istore 4, 2) := by decide +kernel
theorem dX7_divide_8 : decode cX7_divide 8 = .ok (.iload 4, 2) := by decide +kernel
theorem dX7_divide_10 : decode cX7_divide 10 = .ok (.iconst 3, 1) := by decide +kernel
theorem dX7_divide_11 : decode cX7_divide 11 = .ok (.if_icmp .gt 53, 3) := by decide +kernel
theorem dX7_divide_14 : decode cX7_divide 14 = .ok (.aload_n 0, 1) := by decide +kernel
theorem dX7_divide_15 : decode cX7_divide 15 = .ok (.getfield 13, 3) := by decide +kernel
theorem dX7_divide_18 : decode cX7_divide 18 = .ok (.iload_n 2, 1) := by decide +kernel
theorem dX7_divide_19 : decode cX7_divide 19 = .ok (.iaload, 1) := by decide +kernel
theorem dX7_divide_20 : decode cX7_divide 20 = .ok (.iconst 3, 1) := by decide +kernel
theorem dX7_divide_21 : decode cX7_divide 21 = .ok (.if_icmp .gt 43, 3) := by decide +kernel
theorem dX7_divide_24 : decode cX7_divide 24 = .ok (.aload_n 0, 1) := by decide +kernel
theorem dX7_divide_25 : decode cX7_divide 25 = .ok (.iload_n 1, 1) := by decide +kernel
theorem dX7_divide_26 : decode cX7_divide 26 = .ok (.invokevirtual 66, 3) := by decide +kernel
theorem dX7_divide_29 : decode cX7_divide 29 = .ok (.lstore 5, 2) := by decide +kernel
theorem dX7_divide_31 : decode cX7_divide 31 = .ok (.aload_n 0, 1) := by decide +kernel
theorem dX7_divide_32 : decode cX7_divide 32 = .ok (.iload_n 2, 1) := by decide +kernel
theorem dX7_divide_33 : decode cX7_divide 33 = .ok (.invokevirtual 66, 3) := by decide +kernel
theorem dX7_divide_36 : decode cX7_divide 36 = .ok (.lstore 7, 2) := by decide +kernel
theorem dX7_divide_38 : decode cX7_divide 38 = .ok (.aload_n 0, 1) := by decide +kernel
theorem dX7_divide_39 : decode cX7_divide 39 = .ok (.iload_n 1, 1) := by decide +kernel
theorem dX7_divide_40 : decode cX7_divide 40 = .ok (.lload 5, 2) := by decide +kernel
theorem dX7_divide_42 : decode cX7_divide 42 = .ok (.lload 7, 2) := by decide +kernel
theorem dX7_divide_44 : decode cX7_divide 44 = .ok (.lrem, 1) := by decide +kernel
theorem dX7_divide_45 : decode cX7_divide 45 = .ok (.invokevirtual 43, 3) := by decide +kernel
theorem dX7_divide_48 : decode cX7_divide 48 = .ok (.iload_n 3, 1) := by decide +kernel
theorem dX7_divide_49 : decode cX7_divide 49 = .ok (.iconst (-1), 1) := by decide +kernel
theorem dX7_divide_50 : decode cX7_divide 50 = .ok (.if_icmp .eq 13, 3) := by decide +kernel
theorem dX7_divide_53 : decode cX7_divide 53 = .ok (.aload_n 0, 1) := by decide +kernel
theorem dX7_divide_54 : decode cX7_divide 54 = .ok (.iload_n 3, 1) := by decide +kernel
theorem dX7_divide_55 : decode cX7_divide 55 = .ok (.lload 5, 2) := by decide +kernel
theorem dX7_divide_57 : decode cX7_divide 57 = .ok (.lload 7, 2) := by decide +kernel
theorem dX7_divide_59 : decode cX7_divide 59 = .ok (.ldiv, 1) := by decide +kernel
theorem dX7_divide_60 : decode cX7_divide 60 = .ok (.invokevirtual 43, 3) := by decide +kernel
theorem dX7_divide_63 : decode cX7_divide 63 = .ok (.return_, 1) := by decide +kernel
theorem dX7_divide_64 : decode cX7_divide 64 = .ok (.iconst 0, 1) := by decide +kernel
theorem dX7_divide_65 : decode cX7_divide 65 = .ok (.istore 5, 2) := by decide +kernel
theorem dX7_divide_67 : decode cX7_divide 67 = .ok (.iload 5, 2) := by decide +kernel
theorem dX7_divide_69 : decode cX7_divide 69 = .ok (.iload 4, 2) := by decide +kernel
theorem dX7_divide_71 : decode cX7_divide 71 = .ok (.if_icmp .ge 28, 3) := by decide +kernel
theorem dX7_divide_74 : decode cX7_divide 74 = .ok (.iload_n 3, 1) := by decide +kernel
theorem dX7_divide_75 : decode cX7_divide 75 = .ok (.iconst (-1), 1) := by decide +kernel
theorem dX7_divide_76 : decode cX7_divide 76 = .ok (.if_icmp .eq 23, 3) := by decide +kernel
theorem dX7_divide_79 : decode cX7_divide 79 = .ok (.aload_n 0, 1) := by decide +kernel
theorem dX7_divide_80 : decode cX7_divide 80 = .ok (.getfield 7, 3) := by decide +kernel
theorem dX7_divide_83 : decode cX7_divide 83 = .ok (.sipush 160, 3) := by decide +kernel
theorem dX7_divide_86 : decode cX7_divide 86 = .ok (.iload_n 3, 1) := by decide +kernel
theorem dX7_divide_87 : decode cX7_divide 87 = .ok (.imul, 1) := by decide +kernel
theorem dX7_divide_88 : decode cX7_divide 88 = .ok (.iload 5, 2) := by decide +kernel
theorem dX7_divide_90 : decode cX7_divide 90 = .ok (.iadd, 1) := by decide +kernel
theorem dX7_divide_91 : decode cX7_divide 91 = .ok (.iconst 0, 1) := by decide +kernel
theorem dX7_divide_92 : decode cX7_divide 92 = .ok (.iastore, 1) := by decide +kernel
theorem dX7_divide_93 : decode cX7_divide 93 = .ok (.iinc 5 1, 3) := by decide +kernel
theorem dX7_divide_96 : decode cX7_divide 96 = .ok (.goto (-29), 3) := by decide +kernel
theorem dX7_divide_99 : decode cX7_divide 99 = .ok (.aload_n 0, 1) := by decide +kernel
theorem dX7_divide_100 : decode cX7_divide 100 = .ok (.iload_n 1, 1) := by decide +kernel
theorem dX7_divide_101 : decode cX7_divide 101 = .ok (.invokevirtual 70, 3) := by decide +kernel
theorem dX7_divide_104 : decode cX7_divide 104 = .ok (.aload_n 0, 1) := by decide +kernel
theorem dX7_divide_105 : decode cX7_divide 105 = .ok (.iload_n 2, 1) := by decide +kernel
theorem dX7_divide_106 : decode cX7_divide 106 = .ok (.invokevirtual 70, 3) := by decide +kernel
theorem dX7_divide_109 : decode cX7_divide 109 = .ok (.isub, 1) := by decide +kernel
theorem dX7_divide_110 : decode cX7_divide 110 = .ok (.istore 5, 2) := by decide +kernel
theorem dX7_divide_112 : decode cX7_divide 112 = .ok (.iload 5, 2) := by decide +kernel
theorem dX7_divide_114 : decode cX7_divide 114 = .ok (.ifCond .lt 84, 3) := by decide +kernel
theorem dX7_divide_117 : decode cX7_divide 117 = .ok (.iload 5, 2) := by decide +kernel
theorem dX7_divide_119 : decode cX7_divide 119 = .ok (.aload_n 0, 1) := by decide +kernel
theorem dX7_divide_120 : decode cX7_divide 120 = .ok (.iload_n 1, 1) := by decide +kernel
theorem dX7_divide_121 : decode cX7_divide 121 = .ok (.iload_n 2, 1) := by decide +kernel
theorem dX7_divide_122 : decode cX7_divide 122 = .ok (.iload 5, 2) := by decide +kernel
theorem dX7_divide_124 : decode cX7_divide 124 = .ok (.invokevirtual 74, 3) := by decide +kernel
theorem dX7_divide_127 : decode cX7_divide 127 = .ok (.ifCond .eq 7, 3) := by decide +kernel
theorem dX7_divide_130 : decode cX7_divide 130 = .ok (.iconst 1, 1) := by decide +kernel
theorem dX7_divide_131 : decode cX7_divide 131 = .ok (.goto 4, 3) := by decide +kernel
theorem dX7_divide_134 : decode cX7_divide 134 = .ok (.iconst 0, 1) := by decide +kernel
theorem dX7_divide_135 : decode cX7_divide 135 = .ok (.isub, 1) := by decide +kernel
theorem dX7_divide_136 : decode cX7_divide 136 = .ok (.istore 5, 2) := by decide +kernel
theorem dX7_divide_138 : decode cX7_divide 138 = .ok (.iload 5, 2) := by decide +kernel
theorem dX7_divide_140 : decode cX7_divide 140 = .ok (.ifCond .lt (-28), 3) := by decide +kernel
theorem dX7_divide_143 : decode cX7_divide 143 = .ok (.aload_n 0, 1) := by decide +kernel
theorem dX7_divide_144 : decode cX7_divide 144 = .ok (.iload_n 1, 1) := by decide +kernel
theorem dX7_divide_145 : decode cX7_divide 145 = .ok (.iload_n 2, 1) := by decide +kernel
theorem dX7_divide_146 : decode cX7_divide 146 = .ok (.iload 5, 2) := by decide +kernel
theorem dX7_divide_148 : decode cX7_divide 148 = .ok (.invokevirtual 78, 3) := by decide +kernel
theorem dX7_divide_151 : decode cX7_divide 151 = .ok (.iload_n 3, 1) := by decide +kernel
theorem dX7_divide_152 : decode cX7_divide 152 = .ok (.iconst (-1), 1) := by decide +kernel
theorem dX7_divide_153 : decode cX7_divide 153 = .ok (.if_icmp .eq 29, 3) := by decide +kernel
theorem dX7_divide_156 : decode cX7_divide 156 = .ok (.aload_n 0, 1) := by decide +kernel
theorem dX7_divide_157 : decode cX7_divide 157 = .ok (.getfield 7, 3) := by decide +kernel
theorem dX7_divide_160 : decode cX7_divide 160 = .ok (.sipush 160, 3) := by decide +kernel
theorem dX7_divide_163 : decode cX7_divide 163 = .ok (.iload_n 3, 1) := by decide +kernel
theorem dX7_divide_164 : decode cX7_divide 164 = .ok (.imul, 1) := by decide +kernel
theorem dX7_divide_165 : decode cX7_divide 165 = .ok (.iload 5, 2) := by decide +kernel
theorem dX7_divide_167 : decode cX7_divide 167 = .ok (.bipush 16, 2) := by decide +kernel
theorem dX7_divide_169 : decode cX7_divide 169 = .ok (.idiv, 1) := by decide +kernel
theorem dX7_divide_170 : decode cX7_divide 170 = .ok (.iadd, 1) := by decide +kernel
theorem dX7_divide_171 : decode cX7_divide 171 = .ok (.dup2, 1) := by decide +kernel
theorem dX7_divide_172 : decode cX7_divide 172 = .ok (.iaload, 1) := by decide +kernel
theorem dX7_divide_173 : decode cX7_divide 173 = .ok (.iconst 1, 1) := by decide +kernel
theorem dX7_divide_174 : decode cX7_divide 174 = .ok (.iload 5, 2) := by decide +kernel
theorem dX7_divide_176 : decode cX7_divide 176 = .ok (.bipush 16, 2) := by decide +kernel
theorem dX7_divide_178 : decode cX7_divide 178 = .ok (.irem, 1) := by decide +kernel
theorem dX7_divide_179 : decode cX7_divide 179 = .ok (.ishl, 1) := by decide +kernel
theorem dX7_divide_180 : decode cX7_divide 180 = .ok (.iadd, 1) := by decide +kernel
theorem dX7_divide_181 : decode cX7_divide 181 = .ok (.iastore, 1) := by decide +kernel
theorem dX7_divide_182 : decode cX7_divide 182 = .ok (.aload_n 0, 1) := by decide +kernel
theorem dX7_divide_183 : decode cX7_divide 183 = .ok (.iload_n 1, 1) := by decide +kernel
theorem dX7_divide_184 : decode cX7_divide 184 = .ok (.invokevirtual 70, 3) := by decide +kernel
theorem dX7_divide_187 : decode cX7_divide 187 = .ok (.aload_n 0, 1) := by decide +kernel
theorem dX7_divide_188 : decode cX7_divide 188 = .ok (.iload_n 2, 1) := by decide +kernel
theorem dX7_divide_189 : decode cX7_divide 189 = .ok (.invokevirtual 70, 3) := by decide +kernel
theorem dX7_divide_192 : decode cX7_divide 192 = .ok (.isub, 1) := by decide +kernel
theorem dX7_divide_193 : decode cX7_divide 193 = .ok (.istore 5, 2) := by decide +kernel
theorem dX7_divide_195 : decode cX7_divide 195 = .ok (.goto (-83), 3) := by decide +kernel
theorem dX7_divide_198 : decode cX7_divide 198 = .ok (.iload_n 3, 1) := by decide +kernel
theorem dX7_divide_199 : decode cX7_divide 199 = .ok (.iconst (-1), 1) := by decide +kernel
theorem dX7_divide_200 : decode cX7_divide 200 = .ok (.if_icmp .eq 10, 3) := by decide +kernel
theorem dX7_divide_203 : decode cX7_divide 203 = .ok (.aload_n 0, 1) := by decide +kernel
theorem dX7_divide_204 : decode cX7_divide 204 = .ok (.iload_n 3, 1) := by decide +kernel
theorem dX7_divide_205 : decode cX7_divide 205 = .ok (.iload 4, 2) := by decide +kernel
theorem dX7_divide_207 : decode cX7_divide 207 = .ok (.invokevirtual 58, 3) := by decide +kernel
theorem dX7_divide_210 : decode cX7_divide 210 = .ok (.return_, 1) := by decide +kernel
theorem dX7_multiply_0 : decode cX7_multiply 0 = .ok (.aload_n 0, 1) := by decide +kernel
theorem dX7_multiply_1 : decode cX7_multiply 1 = .ok (.getfield 13, 3) := by decide +kernel
theorem dX7_multiply_4 : decode cX7_multiply 4 = .ok (.iload_n 2, 1) := by decide +kernel
theorem dX7_multiply_5 : decode cX7_multiply 5 = .ok (.iaload, 1) := by decide +kernel
theorem dX7_multiply_6 : decode cX7_multiply 6 = .ok (.aload_n 0, 1) := by decide +kernel
theorem dX7_multiply_7 : decode cX7_multiply 7 = .ok (.getfield 13, 3) := by decide +kernel
theorem dX7_multiply_10 : decode cX7_multiply 10 = .ok (.iload_n 3, 1) := by decide +kernel
theorem dX7_multiply_11 : decode cX7_multiply 11 = .ok (.iaload, 1) := by decide +kernel
theorem dX7_multiply_12 : decode cX7_multiply 12 = .ok (.iadd, 1) := by decide +kernel
theorem dX7_multiply_13 : decode cX7_multiply 13 = .ok (.istore 4, 2) := by decide +kernel
theorem dX7_multiply_15 : decode cX7_multiply 15 = .ok (.iconst 0, 1) := by decide +kernel
theorem dX7_multiply_16 : decode cX7_multiply 16 = .ok (.istore 5, 2) := by decide +kernel
theorem dX7_multiply_18 : decode cX7_multiply 18 = .ok (.iload 5, 2) := by decide +kernel
theorem dX7_multiply_20 : decode cX7_multiply 20 = .ok (.iload 4, 2) := by decide +kernel
theorem dX7_multiply_22 : decode cX7_multiply 22 = .ok (.if_icmp .ge 23, 3) := by decide +kernel
theorem dX7_multiply_25 : decode cX7_multiply 25 = .ok (.aload_n 0, 1) := by decide +kernel
theorem dX7_multiply_26 : decode cX7_multiply 26 = .ok (.getfield 7, 3) := by decide +kernel
theorem dX7_multiply_29 : decode cX7_multiply 29 = .ok (.sipush 160, 3) := by decide +kernel
theorem dX7_multiply_32 : decode cX7_multiply 32 = .ok (.iload_n 1, 1) := by decide +kernel
theorem dX7_multiply_33 : decode cX7_multiply 33 = .ok (.imul, 1) := by decide +kernel
theorem dX7_multiply_34 : decode cX7_multiply 34 = .ok (.iload 5, 2) := by decide +kernel
theorem dX7_multiply_36 : decode cX7_multiply 36 = .ok (.iadd, 1) := by decide +kernel
theorem dX7_multiply_37 : decode cX7_multiply 37 = .ok (.iconst 0, 1) := by decide +kernel
theorem dX7_multiply_38 : decode cX7_multiply 38 = .ok (.iastore, 1) := by decide +kernel
theorem dX7_multiply_39 : decode cX7_multiply 39 = .ok (.iinc 5 1, 3) := by decide +kernel
theorem dX7_multiply_42 : decode cX7_multiply 42 = .ok (.goto (-24), 3) := by decide +kernel
theorem dX7_multiply_45 : decode cX7_multiply 45 = .ok (.iconst 0, 1) := by decide +kernel
theorem dX7_multiply_46 : decode cX7_multiply 46 = .ok (.istore 5, 2) := by decide +kernel
theorem dX7_multiply_48 : decode cX7_multiply 48 = .ok (.iload 5, 2) := by decide +kernel
theorem dX7_multiply_50 : decode cX7_multiply 50 = .ok (.aload_n 0, 1) := by decide +kernel
theorem dX7_multiply_51 : decode cX7_multiply 51 = .ok (.getfield 13, 3) := by decide +kernel
theorem dX7_multiply_54 : decode cX7_multiply 54 = .ok (.iload_n 2, 1) := by decide +kernel
theorem dX7_multiply_55 : decode cX7_multiply 55 = .ok (.iaload, 1) := by decide +kernel
theorem dX7_multiply_56 : decode cX7_multiply 56 = .ok (.if_icmp .ge 131, 3) := by decide +kernel
theorem dX7_multiply_59 : decode cX7_multiply 59 = .ok (.iconst 0, 1) := by decide +kernel
theorem dX7_multiply_60 : decode cX7_multiply 60 = .ok (.istore 6, 2) := by decide +kernel
theorem dX7_multiply_62 : decode cX7_multiply 62 = .ok (.iconst 0, 1) := by decide +kernel
theorem dX7_multiply_63 : decode cX7_multiply 63 = .ok (.istore 7, 2) := by decide +kernel
theorem dX7_multiply_65 : decode cX7_multiply 65 = .ok (.iload 7, 2) := by decide +kernel
theorem dX7_multiply_67 : decode cX7_multiply 67 = .ok (.aload_n 0, 1) := by decide +kernel
theorem dX7_multiply_68 : decode cX7_multiply 68 = .ok (.getfield 13, 3) := by decide +kernel
theorem dX7_multiply_71 : decode cX7_multiply 71 = .ok (.iload_n 3, 1) := by decide +kernel
theorem dX7_multiply_72 : decode cX7_multiply 72 = .ok (.iaload, 1) := by decide +kernel
theorem dX7_multiply_73 : decode cX7_multiply 73 = .ok (.if_icmp .ge 86, 3) := by decide +kernel
theorem dX7_multiply_76 : decode cX7_multiply 76 = .ok (.aload_n 0, 1) := by decide +kernel
theorem dX7_multiply_77 : decode cX7_multiply 77 = .ok (.getfield 7, 3) := by decide +kernel
theorem dX7_multiply_80 : decode cX7_multiply 80 = .ok (.sipush 160, 3) := by decide +kernel
theorem dX7_multiply_83 : decode cX7_multiply 83 = .ok (.iload_n 2, 1) := by decide +kernel
theorem dX7_multiply_84 : decode cX7_multiply 84 = .ok (.imul, 1) := by decide +kernel
theorem dX7_multiply_85 : decode cX7_multiply 85 = .ok (.iload 5, 2) := by decide +kernel
theorem dX7_multiply_87 : decode cX7_multiply 87 = .ok (.iadd, 1) := by decide +kernel
theorem dX7_multiply_88 : decode cX7_multiply 88 = .ok (.iaload, 1) := by decide +kernel
theorem dX7_multiply_89 : decode cX7_multiply 89 = .ok (.aload_n 0, 1) := by decide +kernel
theorem dX7_multiply_90 : decode cX7_multiply 90 = .ok (.getfield 7, 3) := by decide +kernel
theorem dX7_multiply_93 : decode cX7_multiply 93 = .ok (.sipush 160, 3) := by decide +kernel
theorem dX7_multiply_96 : decode cX7_multiply 96 = .ok (.iload_n 3, 1) := by decide +kernel
theorem dX7_multiply_97 : decode cX7_multiply 97 = .ok (.imul, 1) := by decide +kernel
theorem dX7_multiply_98 : decode cX7_multiply 98 = .ok (.iload 7, 2) := by decide +kernel
theorem dX7_multiply_100 : decode cX7_multiply 100 = .ok (.iadd, 1) := by decide +kernel
theorem dX7_multiply_101 : decode cX7_multiply 101 = .ok (.iaload, 1) := by decide +kernel
theorem dX7_multiply_102 : decode cX7_multiply 102 = .ok (.imul, 1) := by decide +kernel
theorem dX7_multiply_103 : decode cX7_multiply 103 = .ok (.aload_n 0, 1) := by decide +kernel
theorem dX7_multiply_104 : decode cX7_multiply 104 = .ok (.getfield 7, 3) := by decide +kernel
theorem dX7_multiply_107 : decode cX7_multiply 107 = .ok (.sipush 160, 3) := by decide +kernel
theorem dX7_multiply_110 : decode cX7_multiply 110 = .ok (.iload_n 1, 1) := by decide +kernel
theorem dX7_multiply_111 : decode cX7_multiply 111 = .ok (.imul, 1) := by decide +kernel
theorem dX7_multiply_112 : decode cX7_multiply 112 = .ok (.iload 5, 2) := by decide +kernel
theorem dX7_multiply_114 : decode cX7_multiply 114 = .ok (.iadd, 1) := by decide +kernel
theorem dX7_multiply_115 : decode cX7_multiply 115 = .ok (.iload 7, 2) := by decide +kernel
theorem dX7_multiply_117 : decode cX7_multiply 117 = .ok (.iadd, 1) := by decide +kernel
theorem dX7_multiply_118 : decode cX7_multiply 118 = .ok (.iaload, 1) := by decide +kernel
theorem dX7_multiply_119 : decode cX7_multiply 119 = .ok (.iadd, 1) := by decide +kernel
theorem dX7_multiply_120 : decode cX7_multiply 120 = .ok (.iload 6, 2) := by decide +kernel
theorem dX7_multiply_122 : decode cX7_multiply 122 = .ok (.iadd, 1) := by decide +kernel
theorem dX7_multiply_123 : decode cX7_multiply 123 = .ok (.istore 8, 2) := by decide +kernel
theorem dX7_multiply_125 : decode cX7_multiply 125 = .ok (.aload_n 0, 1) := by decide +kernel
theorem dX7_multiply_126 : decode cX7_multiply 126 = .ok (.getfield 7, 3) := by decide +kernel
theorem dX7_multiply_129 : decode cX7_multiply 129 = .ok (.sipush 160, 3) := by decide +kernel
theorem dX7_multiply_132 : decode cX7_multiply 132 = .ok (.iload_n 1, 1) := by decide +kernel
theorem dX7_multiply_133 : decode cX7_multiply 133 = .ok (.imul, 1) := by decide +kernel
theorem dX7_multiply_134 : decode cX7_multiply 134 = .ok (.iload 5, 2) := by decide +kernel
theorem dX7_multiply_136 : decode cX7_multiply 136 = .ok (.iadd, 1) := by decide +kernel
theorem dX7_multiply_137 : decode cX7_multiply 137 = .ok (.iload 7, 2) := by decide +kernel
theorem dX7_multiply_139 : decode cX7_multiply 139 = .ok (.iadd, 1) := by decide +kernel
theorem dX7_multiply_140 : decode cX7_multiply 140 = .ok (.iload 8, 2) := by decide +kernel
theorem dX7_multiply_142 : decode cX7_multiply 142 = .ok (.ldc 57, 2) := by decide +kernel
theorem dX7_multiply_144 : decode cX7_multiply 144 = .ok (.iand, 1) := by decide +kernel
theorem dX7_multiply_145 : decode cX7_multiply 145 = .ok (.iastore, 1) := by decide +kernel
theorem dX7_multiply_146 : decode cX7_multiply 146 = .ok (.iload 8, 2) := by decide +kernel
theorem dX7_multiply_148 : decode cX7_multiply 148 = .ok (.bipush 16, 2) := by decide +kernel
theorem dX7_multiply_150 : decode cX7_multiply 150 = .ok (.iushr, 1) := by decide +kernel
theorem dX7_multiply_151 : decode cX7_multiply 151 = .ok (.istore 6, 2) := by decide +kernel
theorem dX7_multiply_153 : decode cX7_multiply 153 = .ok (.iinc 7 1, 3) := by decide +kernel
theorem dX7_multiply_156 : decode cX7_multiply 156 = .ok (.goto (-91), 3) := by decide +kernel
theorem dX7_multiply_159 : decode cX7_multiply 159 = .ok (.aload_n 0, 1) := by decide +kernel
theorem dX7_multiply_160 : decode cX7_multiply 160 = .ok (.getfield 7, 3) := by decide +kernel
theorem dX7_multiply_163 : decode cX7_multiply 163 = .ok (.sipush 160, 3) := by decide +kernel
theorem dX7_multiply_166 : decode cX7_multiply 166 = .ok (.iload_n 1, 1) := by decide +kernel
theorem dX7_multiply_167 : decode cX7_multiply 167 = .ok (.imul, 1) := by decide +kernel
theorem dX7_multiply_168 : decode cX7_multiply 168 = .ok (.iload 5, 2) := by decide +kernel
theorem dX7_multiply_170 : decode cX7_multiply 170 = .ok (.iadd, 1) := by decide +kernel
theorem dX7_multiply_171 : decode cX7_multiply 171 = .ok (.aload_n 0, 1) := by decide +kernel
theorem dX7_multiply_172 : decode cX7_multiply 172 = .ok (.getfield 13, 3) := by decide +kernel
theorem dX7_multiply_175 : decode cX7_multiply 175 = .ok (.iload_n 3, 1) := by decide +kernel
theorem dX7_multiply_176 : decode cX7_multiply 176 = .ok (.iaload, 1) := by decide +kernel
theorem dX7_multiply_177 : decode cX7_multiply 177 = .ok (.iadd, 1) := by decide +kernel
theorem dX7_multiply_178 : decode cX7_multiply 178 = .ok (.iload 6, 2) := by decide +kernel
theorem dX7_multiply_180 : decode cX7_multiply 180 = .ok (.iastore, 1) := by decide +kernel
theorem dX7_multiply_181 : decode cX7_multiply 181 = .ok (.iinc 5 1, 3) := by decide +kernel
theorem dX7_multiply_184 : decode cX7_multiply 184 = .ok (.goto (-136), 3) := by decide +kernel
theorem dX7_multiply_187 : decode cX7_multiply 187 = .ok (.aload_n 0, 1) := by decide +kernel
theorem dX7_multiply_188 : decode cX7_multiply 188 = .ok (.iload_n 1, 1) := by decide +kernel
theorem dX7_multiply_189 : decode cX7_multiply 189 = .ok (.iload 4, 2) := by decide +kernel
theorem dX7_multiply_191 : decode cX7_multiply 191 = .ok (.invokevirtual 58, 3) := by decide +kernel
theorem dX7_multiply_194 : decode cX7_multiply 194 = .ok (.return_, 1) := by decide +kernel
theorem dX7_divisor_0 : decode cX7_divisor 0 = .ok (.aload_n 0, 1) := by decide +kernel
theorem dX7_divisor_1 : decode cX7_divisor 1 = .ok (.bipush 14, 2) := by decide +kernel
theorem dX7_divisor_3 : decode cX7_divisor 3 = .ok (.iload_n 2, 1) := by decide +kernel
theorem dX7_divisor_4 : decode cX7_divisor 4 = .ok (.invokevirtual 82, 3) := by decide +kernel
theorem dX7_divisor_7 : decode cX7_divisor 7 = .ok (.aload_n 0, 1) := by decide +kernel
theorem dX7_divisor_8 : decode cX7_divisor 8 = .ok (.bipush 15, 2) := by decide +kernel
theorem dX7_divisor_10 : decode cX7_divisor 10 = .ok (.iload_n 3, 1) := by decide +kernel
theorem dX7_divisor_11 : decode cX7_divisor 11 = .ok (.invokevirtual 82, 3) := by decide +kernel
theorem dX7_divisor_14 : decode cX7_divisor 14 = .ok (.bipush 14, 2) := by decide +kernel
theorem dX7_divisor_16 : decode cX7_divisor 16 = .ok (.istore 4, 2) := by decide +kernel
theorem dX7_divisor_18 : decode cX7_divisor 18 = .ok (.bipush 15, 2) := by decide +kernel
theorem dX7_divisor_20 : decode cX7_divisor 20 = .ok (.istore 5, 2) := by decide +kernel
theorem dX7_divisor_22 : decode cX7_divisor 22 = .ok (.aload_n 0, 1) := by decide +kernel
theorem dX7_divisor_23 : decode cX7_divisor 23 = .ok (.getfield 13, 3) := by decide +kernel
theorem dX7_divisor_26 : decode cX7_divisor 26 = .ok (.iload 5, 2) := by decide +kernel
theorem dX7_divisor_28 : decode cX7_divisor 28 = .ok (.iaload, 1) := by decide +kernel
theorem dX7_divisor_29 : decode cX7_divisor 29 = .ok (.ifCond .le 27, 3) := by decide +kernel
theorem dX7_divisor_32 : decode cX7_divisor 32 = .ok (.aload_n 0, 1) := by decide +kernel
theorem dX7_divisor_33 : decode cX7_divisor 33 = .ok (.iload 4, 2) := by decide +kernel
theorem dX7_divisor_35 : decode cX7_divisor 35 = .ok (.iload 5, 2) := by decide +kernel
theorem dX7_divisor_37 : decode cX7_divisor 37 = .ok (.iconst (-1), 1) := by decide +kernel
theorem dX7_divisor_38 : decode cX7_divisor 38 = .ok (.invokevirtual 85, 3) := by decide +kernel
theorem dX7_divisor_41 : decode cX7_divisor 41 = .ok (.iload 4, 2) := by decide +kernel
theorem dX7_divisor_43 : decode cX7_divisor 43 = .ok (.istore 6, 2) := by decide +kernel
theorem dX7_divisor_45 : decode cX7_divisor 45 = .ok (.iload 5, 2) := by decide +kernel
theorem dX7_divisor_47 : decode cX7_divisor 47 = .ok (.istore 4, 2) := by decide +kernel
theorem dX7_divisor_49 : decode cX7_divisor 49 = .ok (.iload 6, 2) := by decide +kernel
theorem dX7_divisor_51 : decode cX7_divisor 51 = .ok (.istore 5, 2) := by decide +kernel
theorem dX7_divisor_53 : decode cX7_divisor 53 = .ok (.goto (-31), 3) := by decide +kernel
theorem dX7_divisor_56 : decode cX7_divisor 56 = .ok (.aload_n 0, 1) := by decide +kernel
theorem dX7_divisor_57 : decode cX7_divisor 57 = .ok (.iload_n 1, 1) := by decide +kernel
theorem dX7_divisor_58 : decode cX7_divisor 58 = .ok (.iload 4, 2) := by decide +kernel
theorem dX7_divisor_60 : decode cX7_divisor 60 = .ok (.invokevirtual 82, 3) := by decide +kernel
theorem dX7_divisor_63 : decode cX7_divisor 63 = .ok (.return_, 1) := by decide +kernel
theorem dX7_least_0 : decode cX7_least 0 = .ok (.iconst 2, 1) := by decide +kernel
theorem dX7_least_1 : decode cX7_least 1 = .ok (.iload_n 1, 1) := by decide +kernel
theorem dX7_least_2 : decode cX7_least 2 = .ok (.imul, 1) := by decide +kernel
theorem dX7_least_3 : decode cX7_least 3 = .ok (.istore_n 2, 1) := by decide +kernel
theorem dX7_least_4 : decode cX7_least 4 = .ok (.iconst 2, 1) := by decide +kernel
theorem dX7_least_5 : decode cX7_least 5 = .ok (.iload_n 1, 1) := by decide +kernel
theorem dX7_least_6 : decode cX7_least 6 = .ok (.imul, 1) := by decide +kernel
theorem dX7_least_7 : decode cX7_least 7 = .ok (.iconst 1, 1) := by decide +kernel
theorem dX7_least_8 : decode cX7_least 8 = .ok (.iadd, 1) := by decide +kernel
theorem dX7_least_9 : decode cX7_least 9 = .ok (.istore_n 3, 1) := by decide +kernel
theorem dX7_least_10 : decode cX7_least 10 = .ok (.aload_n 0, 1) := by decide +kernel
theorem dX7_least_11 : decode cX7_least 11 = .ok (.getfield 13, 3) := by decide +kernel
theorem dX7_least_14 : decode cX7_least 14 = .ok (.iload_n 2, 1) := by decide +kernel
theorem dX7_least_15 : decode cX7_least 15 = .ok (.iaload, 1) := by decide +kernel
theorem dX7_least_16 : decode cX7_least 16 = .ok (.ifCond .ne 18, 3) := by decide +kernel
theorem dX7_least_19 : decode cX7_least 19 = .ok (.aload_n 0, 1) := by decide +kernel
theorem dX7_least_20 : decode cX7_least 20 = .ok (.getfield 16, 3) := by decide +kernel
theorem dX7_least_23 : decode cX7_least 23 = .ok (.iload_n 1, 1) := by decide +kernel
theorem dX7_least_24 : decode cX7_least 24 = .ok (.iconst 0, 1) := by decide +kernel
theorem dX7_least_25 : decode cX7_least 25 = .ok (.iastore, 1) := by decide +kernel
theorem dX7_least_26 : decode cX7_least 26 = .ok (.aload_n 0, 1) := by decide +kernel
theorem dX7_least_27 : decode cX7_least 27 = .ok (.iload_n 3, 1) := by decide +kernel
theorem dX7_least_28 : decode cX7_least 28 = .ok (.lconst 1, 1) := by decide +kernel
theorem dX7_least_29 : decode cX7_least 29 = .ok (.invokevirtual 43, 3) := by decide +kernel
theorem dX7_least_32 : decode cX7_least 32 = .ok (.iconst 1, 1) := by decide +kernel
theorem dX7_least_33 : decode cX7_least 33 = .ok (.ireturn, 1) := by decide +kernel
theorem dX7_least_34 : decode cX7_least 34 = .ok (.aload_n 0, 1) := by decide +kernel
theorem dX7_least_35 : decode cX7_least 35 = .ok (.bipush 13, 2) := by decide +kernel
theorem dX7_least_37 : decode cX7_least 37 = .ok (.iload_n 2, 1) := by decide +kernel
theorem dX7_least_38 : decode cX7_least 38 = .ok (.iload_n 3, 1) := by decide +kernel
theorem dX7_least_39 : decode cX7_least 39 = .ok (.invokevirtual 88, 3) := by decide +kernel
theorem dX7_least_42 : decode cX7_least 42 = .ok (.aload_n 0, 1) := by decide +kernel
theorem dX7_least_43 : decode cX7_least 43 = .ok (.bipush 13, 2) := by decide +kernel
theorem dX7_least_45 : decode cX7_least 45 = .ok (.bipush 18, 2) := by decide +kernel
theorem dX7_least_47 : decode cX7_least 47 = .ok (.invokevirtual 91, 3) := by decide +kernel
theorem dX7_least_50 : decode cX7_least 50 = .ok (.ifCond .eq 35, 3) := by decide +kernel
theorem dX7_least_53 : decode cX7_least 53 = .ok (.aload_n 0, 1) := by decide +kernel
theorem dX7_least_54 : decode cX7_least 54 = .ok (.bipush 12, 2) := by decide +kernel
theorem dX7_least_56 : decode cX7_least 56 = .ok (.iload_n 2, 1) := by decide +kernel
theorem dX7_least_57 : decode cX7_least 57 = .ok (.invokevirtual 82, 3) := by decide +kernel
theorem dX7_least_60 : decode cX7_least 60 = .ok (.aload_n 0, 1) := by decide +kernel
theorem dX7_least_61 : decode cX7_least 61 = .ok (.bipush 12, 2) := by decide +kernel
theorem dX7_least_63 : decode cX7_least 63 = .ok (.bipush 13, 2) := by decide +kernel
theorem dX7_least_65 : decode cX7_least 65 = .ok (.iload_n 2, 1) := by decide +kernel
theorem dX7_least_66 : decode cX7_least 66 = .ok (.invokevirtual 85, 3) := by decide +kernel
theorem dX7_least_69 : decode cX7_least 69 = .ok (.aload_n 0, 1) := by decide +kernel
theorem dX7_least_70 : decode cX7_least 70 = .ok (.bipush 12, 2) := by decide +kernel
theorem dX7_least_72 : decode cX7_least 72 = .ok (.iload_n 3, 1) := by decide +kernel
theorem dX7_least_73 : decode cX7_least 73 = .ok (.invokevirtual 82, 3) := by decide +kernel
theorem dX7_least_76 : decode cX7_least 76 = .ok (.aload_n 0, 1) := by decide +kernel
theorem dX7_least_77 : decode cX7_least 77 = .ok (.bipush 12, 2) := by decide +kernel
theorem dX7_least_79 : decode cX7_least 79 = .ok (.bipush 13, 2) := by decide +kernel
theorem dX7_least_81 : decode cX7_least 81 = .ok (.iload_n 3, 1) := by decide +kernel
theorem dX7_least_82 : decode cX7_least 82 = .ok (.invokevirtual 85, 3) := by decide +kernel
theorem dX7_least_85 : decode cX7_least 85 = .ok (.aload_n 0, 1) := by decide +kernel
theorem dX7_least_86 : decode cX7_least 86 = .ok (.iload_n 2, 1) := by decide +kernel
theorem dX7_least_87 : decode cX7_least 87 = .ok (.invokevirtual 70, 3) := by decide +kernel
theorem dX7_least_90 : decode cX7_least 90 = .ok (.sipush 512, 3) := by decide +kernel
theorem dX7_least_93 : decode cX7_least 93 = .ok (.if_icmp .gt 18, 3) := by decide +kernel
theorem dX7_least_96 : decode cX7_least 96 = .ok (.aload_n 0, 1) := by decide +kernel
theorem dX7_least_97 : decode cX7_least 97 = .ok (.iload_n 3, 1) := by decide +kernel
theorem dX7_least_98 : decode cX7_least 98 = .ok (.invokevirtual 70, 3) := by decide +kernel
theorem dX7_least_101 : decode cX7_least 101 = .ok (.sipush 512, 3) := by decide +kernel
theorem dX7_least_104 : decode cX7_least 104 = .ok (.if_icmp .gt 7, 3) := by decide +kernel
theorem dX7_least_107 : decode cX7_least 107 = .ok (.iconst 1, 1) := by decide +kernel
theorem dX7_least_108 : decode cX7_least 108 = .ok (.goto 4, 3) := by decide +kernel
theorem dX7_least_111 : decode cX7_least 111 = .ok (.iconst 0, 1) := by decide +kernel
theorem dX7_least_112 : decode cX7_least 112 = .ok (.ireturn, 1) := by decide +kernel
theorem dX7_across_0 : decode cX7_across 0 = .ok (.aload_n 0, 1) := by decide +kernel
theorem dX7_across_1 : decode cX7_across 1 = .ok (.bipush 10, 2) := by decide +kernel
theorem dX7_across_3 : decode cX7_across 3 = .ok (.iconst 2, 1) := by decide +kernel
theorem dX7_across_4 : decode cX7_across 4 = .ok (.iload_n 1, 1) := by decide +kernel
theorem dX7_across_5 : decode cX7_across 5 = .ok (.imul, 1) := by decide +kernel
theorem dX7_across_6 : decode cX7_across 6 = .ok (.iconst 2, 1) := by decide +kernel
theorem dX7_across_7 : decode cX7_across 7 = .ok (.iload_n 2, 1) := by decide +kernel
theorem dX7_across_8 : decode cX7_across 8 = .ok (.imul, 1) := by decide +kernel
theorem dX7_across_9 : decode cX7_across 9 = .ok (.iconst 1, 1) := by decide +kernel
theorem dX7_across_10 : decode cX7_across 10 = .ok (.iadd, 1) := by decide +kernel
theorem dX7_across_11 : decode cX7_across 11 = .ok (.invokevirtual 94, 3) := by decide +kernel
theorem dX7_across_14 : decode cX7_across 14 = .ok (.aload_n 0, 1) := by decide +kernel
theorem dX7_across_15 : decode cX7_across 15 = .ok (.bipush 11, 2) := by decide +kernel
theorem dX7_across_17 : decode cX7_across 17 = .ok (.iconst 2, 1) := by decide +kernel
theorem dX7_across_18 : decode cX7_across 18 = .ok (.iload_n 2, 1) := by decide +kernel
theorem dX7_across_19 : decode cX7_across 19 = .ok (.imul, 1) := by decide +kernel
theorem dX7_across_20 : decode cX7_across 20 = .ok (.iconst 2, 1) := by decide +kernel
theorem dX7_across_21 : decode cX7_across 21 = .ok (.iload_n 1, 1) := by decide +kernel
theorem dX7_across_22 : decode cX7_across 22 = .ok (.imul, 1) := by decide +kernel
theorem dX7_across_23 : decode cX7_across 23 = .ok (.iconst 1, 1) := by decide +kernel
theorem dX7_across_24 : decode cX7_across 24 = .ok (.iadd, 1) := by decide +kernel
theorem dX7_across_25 : decode cX7_across 25 = .ok (.invokevirtual 94, 3) := by decide +kernel
theorem dX7_across_28 : decode cX7_across 28 = .ok (.return_, 1) := by decide +kernel
theorem dX7_sum_0 : decode cX7_sum 0 = .ok (.aload_n 0, 1) := by decide +kernel
theorem dX7_sum_1 : decode cX7_sum 1 = .ok (.iload_n 1, 1) := by decide +kernel
theorem dX7_sum_2 : decode cX7_sum 2 = .ok (.iload_n 2, 1) := by decide +kernel
theorem dX7_sum_3 : decode cX7_sum 3 = .ok (.invokevirtual 97, 3) := by decide +kernel
theorem dX7_sum_6 : decode cX7_sum 6 = .ok (.aload_n 0, 1) := by decide +kernel
theorem dX7_sum_7 : decode cX7_sum 7 = .ok (.getfield 16, 3) := by decide +kernel
theorem dX7_sum_10 : decode cX7_sum 10 = .ok (.iload_n 1, 1) := by decide +kernel
theorem dX7_sum_11 : decode cX7_sum 11 = .ok (.iaload, 1) := by decide +kernel
theorem dX7_sum_12 : decode cX7_sum 12 = .ok (.istore 4, 2) := by decide +kernel
theorem dX7_sum_14 : decode cX7_sum 14 = .ok (.iload_n 3, 1) := by decide +kernel
theorem dX7_sum_15 : decode cX7_sum 15 = .ok (.ifCond .eq 13, 3) := by decide +kernel
theorem dX7_sum_18 : decode cX7_sum 18 = .ok (.aload_n 0, 1) := by decide +kernel
theorem dX7_sum_19 : decode cX7_sum 19 = .ok (.getfield 16, 3) := by decide +kernel
theorem dX7_sum_22 : decode cX7_sum 22 = .ok (.iload_n 2, 1) := by decide +kernel
theorem dX7_sum_23 : decode cX7_sum 23 = .ok (.iaload, 1) := by decide +kernel
theorem dX7_sum_24 : decode cX7_sum 24 = .ok (.ineg, 1) := by decide +kernel
theorem dX7_sum_25 : decode cX7_sum 25 = .ok (.goto 9, 3) := by decide +kernel
theorem dX7_sum_28 : decode cX7_sum 28 = .ok (.aload_n 0, 1) := by decide +kernel
theorem dX7_sum_29 : decode cX7_sum 29 = .ok (.getfield 16, 3) := by decide +kernel
theorem dX7_sum_32 : decode cX7_sum 32 = .ok (.iload_n 2, 1) := by decide +kernel
theorem dX7_sum_33 : decode cX7_sum 33 = .ok (.iaload, 1) := by decide +kernel
theorem dX7_sum_34 : decode cX7_sum 34 = .ok (.istore 5, 2) := by decide +kernel
theorem dX7_sum_36 : decode cX7_sum 36 = .ok (.iload 4, 2) := by decide +kernel
theorem dX7_sum_38 : decode cX7_sum 38 = .ok (.ifCond .eq 15, 3) := by decide +kernel
theorem dX7_sum_41 : decode cX7_sum 41 = .ok (.iload 5, 2) := by decide +kernel
theorem dX7_sum_43 : decode cX7_sum 43 = .ok (.ifCond .eq 10, 3) := by decide +kernel
theorem dX7_sum_46 : decode cX7_sum 46 = .ok (.iload 4, 2) := by decide +kernel
theorem dX7_sum_48 : decode cX7_sum 48 = .ok (.iload 5, 2) := by decide +kernel
theorem dX7_sum_50 : decode cX7_sum 50 = .ok (.if_icmp .ne 33, 3) := by decide +kernel
theorem dX7_sum_53 : decode cX7_sum 53 = .ok (.aload_n 0, 1) := by decide +kernel
theorem dX7_sum_54 : decode cX7_sum 54 = .ok (.iconst 0, 1) := by decide +kernel
theorem dX7_sum_55 : decode cX7_sum 55 = .ok (.bipush 10, 2) := by decide +kernel
theorem dX7_sum_57 : decode cX7_sum 57 = .ok (.bipush 11, 2) := by decide +kernel
theorem dX7_sum_59 : decode cX7_sum 59 = .ok (.invokevirtual 100, 3) := by decide +kernel
theorem dX7_sum_62 : decode cX7_sum 62 = .ok (.aload_n 0, 1) := by decide +kernel
theorem dX7_sum_63 : decode cX7_sum 63 = .ok (.getfield 16, 3) := by decide +kernel
theorem dX7_sum_66 : decode cX7_sum 66 = .ok (.iconst 0, 1) := by decide +kernel
theorem dX7_sum_67 : decode cX7_sum 67 = .ok (.iload 4, 2) := by decide +kernel
theorem dX7_sum_69 : decode cX7_sum 69 = .ok (.ifCond .ne 8, 3) := by decide +kernel
theorem dX7_sum_72 : decode cX7_sum 72 = .ok (.iload 5, 2) := by decide +kernel
theorem dX7_sum_74 : decode cX7_sum 74 = .ok (.goto 5, 3) := by decide +kernel
theorem dX7_sum_77 : decode cX7_sum 77 = .ok (.iload 4, 2) := by decide +kernel
theorem dX7_sum_79 : decode cX7_sum 79 = .ok (.iastore, 1) := by decide +kernel
theorem dX7_sum_80 : decode cX7_sum 80 = .ok (.goto 74, 3) := by decide +kernel
theorem dX7_sum_83 : decode cX7_sum 83 = .ok (.aload_n 0, 1) := by decide +kernel
theorem dX7_sum_84 : decode cX7_sum 84 = .ok (.bipush 10, 2) := by decide +kernel
theorem dX7_sum_86 : decode cX7_sum 86 = .ok (.bipush 11, 2) := by decide +kernel
theorem dX7_sum_88 : decode cX7_sum 88 = .ok (.invokevirtual 91, 3) := by decide +kernel
theorem dX7_sum_91 : decode cX7_sum 91 = .ok (.ifCond .lt 7, 3) := by decide +kernel
theorem dX7_sum_94 : decode cX7_sum 94 = .ok (.iconst 1, 1) := by decide +kernel
theorem dX7_sum_95 : decode cX7_sum 95 = .ok (.goto 4, 3) := by decide +kernel
theorem dX7_sum_98 : decode cX7_sum 98 = .ok (.iconst 0, 1) := by decide +kernel
theorem dX7_sum_99 : decode cX7_sum 99 = .ok (.istore 6, 2) := by decide +kernel
theorem dX7_sum_101 : decode cX7_sum 101 = .ok (.aload_n 0, 1) := by decide +kernel
theorem dX7_sum_102 : decode cX7_sum 102 = .ok (.iconst 0, 1) := by decide +kernel
theorem dX7_sum_103 : decode cX7_sum 103 = .ok (.iload 6, 2) := by decide +kernel
theorem dX7_sum_105 : decode cX7_sum 105 = .ok (.ifCond .eq 8, 3) := by decide +kernel
theorem dX7_sum_108 : decode cX7_sum 108 = .ok (.bipush 10, 2) := by decide +kernel
theorem dX7_sum_110 : decode cX7_sum 110 = .ok (.goto 5, 3) := by decide +kernel
theorem dX7_sum_113 : decode cX7_sum 113 = .ok (.bipush 11, 2) := by decide +kernel
theorem dX7_sum_115 : decode cX7_sum 115 = .ok (.invokevirtual 82, 3) := by decide +kernel
theorem dX7_sum_118 : decode cX7_sum 118 = .ok (.aload_n 0, 1) := by decide +kernel
theorem dX7_sum_119 : decode cX7_sum 119 = .ok (.iconst 0, 1) := by decide +kernel
theorem dX7_sum_120 : decode cX7_sum 120 = .ok (.iload 6, 2) := by decide +kernel
theorem dX7_sum_122 : decode cX7_sum 122 = .ok (.ifCond .eq 8, 3) := by decide +kernel
theorem dX7_sum_125 : decode cX7_sum 125 = .ok (.bipush 11, 2) := by decide +kernel
theorem dX7_sum_127 : decode cX7_sum 127 = .ok (.goto 5, 3) := by decide +kernel
theorem dX7_sum_130 : decode cX7_sum 130 = .ok (.bipush 10, 2) := by decide +kernel
theorem dX7_sum_132 : decode cX7_sum 132 = .ok (.iconst 0, 1) := by decide +kernel
theorem dX7_sum_133 : decode cX7_sum 133 = .ok (.invokevirtual 78, 3) := by decide +kernel
theorem dX7_sum_136 : decode cX7_sum 136 = .ok (.aload_n 0, 1) := by decide +kernel
theorem dX7_sum_137 : decode cX7_sum 137 = .ok (.getfield 16, 3) := by decide +kernel
theorem dX7_sum_140 : decode cX7_sum 140 = .ok (.iconst 0, 1) := by decide +kernel
theorem dX7_sum_141 : decode cX7_sum 141 = .ok (.iload 6, 2) := by decide +kernel
theorem dX7_sum_143 : decode cX7_sum 143 = .ok (.ifCond .eq 8, 3) := by decide +kernel
theorem dX7_sum_146 : decode cX7_sum 146 = .ok (.iload 4, 2) := by decide +kernel
theorem dX7_sum_148 : decode cX7_sum 148 = .ok (.goto 5, 3) := by decide +kernel
theorem dX7_sum_151 : decode cX7_sum 151 = .ok (.iload 5, 2) := by decide +kernel
theorem dX7_sum_153 : decode cX7_sum 153 = .ok (.iastore, 1) := by decide +kernel
theorem dX7_sum_154 : decode cX7_sum 154 = .ok (.aload_n 0, 1) := by decide +kernel
theorem dX7_sum_155 : decode cX7_sum 155 = .ok (.iconst 1, 1) := by decide +kernel
theorem dX7_sum_156 : decode cX7_sum 156 = .ok (.iconst 2, 1) := by decide +kernel
theorem dX7_sum_157 : decode cX7_sum 157 = .ok (.iload_n 1, 1) := by decide +kernel
theorem dX7_sum_158 : decode cX7_sum 158 = .ok (.imul, 1) := by decide +kernel
theorem dX7_sum_159 : decode cX7_sum 159 = .ok (.iconst 1, 1) := by decide +kernel
theorem dX7_sum_160 : decode cX7_sum 160 = .ok (.iadd, 1) := by decide +kernel
theorem dX7_sum_161 : decode cX7_sum 161 = .ok (.iconst 2, 1) := by decide +kernel
theorem dX7_sum_162 : decode cX7_sum 162 = .ok (.iload_n 2, 1) := by decide +kernel
theorem dX7_sum_163 : decode cX7_sum 163 = .ok (.imul, 1) := by decide +kernel
theorem dX7_sum_164 : decode cX7_sum 164 = .ok (.iconst 1, 1) := by decide +kernel
theorem dX7_sum_165 : decode cX7_sum 165 = .ok (.iadd, 1) := by decide +kernel
theorem dX7_sum_166 : decode cX7_sum 166 = .ok (.invokevirtual 94, 3) := by decide +kernel
theorem dX7_sum_169 : decode cX7_sum 169 = .ok (.aload_n 0, 1) := by decide +kernel
theorem dX7_sum_170 : decode cX7_sum 170 = .ok (.iconst 0, 1) := by decide +kernel
theorem dX7_sum_171 : decode cX7_sum 171 = .ok (.invokevirtual 103, 3) := by decide +kernel
theorem dX7_sum_174 : decode cX7_sum 174 = .ok (.ireturn, 1) := by decide +kernel
theorem dX7_product_0 : decode cX7_product 0 = .ok (.aload_n 0, 1) := by decide +kernel
theorem dX7_product_1 : decode cX7_product 1 = .ok (.iconst 0, 1) := by decide +kernel
theorem dX7_product_2 : decode cX7_product 2 = .ok (.iconst 2, 1) := by decide +kernel
theorem dX7_product_3 : decode cX7_product 3 = .ok (.iload_n 1, 1) := by decide +kernel
theorem dX7_product_4 : decode cX7_product 4 = .ok (.imul, 1) := by decide +kernel
theorem dX7_product_5 : decode cX7_product 5 = .ok (.iconst 2, 1) := by decide +kernel
theorem dX7_product_6 : decode cX7_product 6 = .ok (.iload_n 2, 1) := by decide +kernel
theorem dX7_product_7 : decode cX7_product 7 = .ok (.imul, 1) := by decide +kernel
theorem dX7_product_8 : decode cX7_product 8 = .ok (.invokevirtual 94, 3) := by decide +kernel
theorem dX7_product_11 : decode cX7_product 11 = .ok (.aload_n 0, 1) := by decide +kernel
theorem dX7_product_12 : decode cX7_product 12 = .ok (.iconst 1, 1) := by decide +kernel
theorem dX7_product_13 : decode cX7_product 13 = .ok (.iconst 2, 1) := by decide +kernel
theorem dX7_product_14 : decode cX7_product 14 = .ok (.iload_n 1, 1) := by decide +kernel
theorem dX7_product_15 : decode cX7_product 15 = .ok (.imul, 1) := by decide +kernel
theorem dX7_product_16 : decode cX7_product 16 = .ok (.iconst 1, 1) := by decide +kernel
theorem dX7_product_17 : decode cX7_product 17 = .ok (.iadd, 1) := by decide +kernel
theorem dX7_product_18 : decode cX7_product 18 = .ok (.iconst 2, 1) := by decide +kernel
theorem dX7_product_19 : decode cX7_product 19 = .ok (.iload_n 2, 1) := by decide +kernel
theorem dX7_product_20 : decode cX7_product 20 = .ok (.imul, 1) := by decide +kernel
theorem dX7_product_21 : decode cX7_product 21 = .ok (.iconst 1, 1) := by decide +kernel
theorem dX7_product_22 : decode cX7_product 22 = .ok (.iadd, 1) := by decide +kernel
theorem dX7_product_23 : decode cX7_product 23 = .ok (.invokevirtual 94, 3) := by decide +kernel
theorem dX7_product_26 : decode cX7_product 26 = .ok (.aload_n 0, 1) := by decide +kernel
theorem dX7_product_27 : decode cX7_product 27 = .ok (.getfield 16, 3) := by decide +kernel
theorem dX7_product_30 : decode cX7_product 30 = .ok (.iconst 0, 1) := by decide +kernel
theorem dX7_product_31 : decode cX7_product 31 = .ok (.aload_n 0, 1) := by decide +kernel
theorem dX7_product_32 : decode cX7_product 32 = .ok (.getfield 16, 3) := by decide +kernel
theorem dX7_product_35 : decode cX7_product 35 = .ok (.iload_n 1, 1) := by decide +kernel
theorem dX7_product_36 : decode cX7_product 36 = .ok (.iaload, 1) := by decide +kernel
theorem dX7_product_37 : decode cX7_product 37 = .ok (.aload_n 0, 1) := by decide +kernel
theorem dX7_product_38 : decode cX7_product 38 = .ok (.getfield 16, 3) := by decide +kernel
theorem dX7_product_41 : decode cX7_product 41 = .ok (.iload_n 2, 1) := by decide +kernel
theorem dX7_product_42 : decode cX7_product 42 = .ok (.iaload, 1) := by decide +kernel
theorem dX7_product_43 : decode cX7_product 43 = .ok (.imul, 1) := by decide +kernel
theorem dX7_product_44 : decode cX7_product 44 = .ok (.iastore, 1) := by decide +kernel
theorem dX7_product_45 : decode cX7_product 45 = .ok (.aload_n 0, 1) := by decide +kernel
theorem dX7_product_46 : decode cX7_product 46 = .ok (.iconst 0, 1) := by decide +kernel
theorem dX7_product_47 : decode cX7_product 47 = .ok (.invokevirtual 103, 3) := by decide +kernel
theorem dX7_product_50 : decode cX7_product 50 = .ok (.ireturn, 1) := by decide +kernel
theorem dX7_quotient_0 : decode cX7_quotient 0 = .ok (.aload_n 0, 1) := by decide +kernel
theorem dX7_quotient_1 : decode cX7_quotient 1 = .ok (.iconst 0, 1) := by decide +kernel
theorem dX7_quotient_2 : decode cX7_quotient 2 = .ok (.iconst 2, 1) := by decide +kernel
theorem dX7_quotient_3 : decode cX7_quotient 3 = .ok (.iload_n 1, 1) := by decide +kernel
theorem dX7_quotient_4 : decode cX7_quotient 4 = .ok (.imul, 1) := by decide +kernel
theorem dX7_quotient_5 : decode cX7_quotient 5 = .ok (.iconst 2, 1) := by decide +kernel
theorem dX7_quotient_6 : decode cX7_quotient 6 = .ok (.iload_n 2, 1) := by decide +kernel
theorem dX7_quotient_7 : decode cX7_quotient 7 = .ok (.imul, 1) := by decide +kernel
theorem dX7_quotient_8 : decode cX7_quotient 8 = .ok (.iconst 1, 1) := by decide +kernel
theorem dX7_quotient_9 : decode cX7_quotient 9 = .ok (.iadd, 1) := by decide +kernel
theorem dX7_quotient_10 : decode cX7_quotient 10 = .ok (.invokevirtual 94, 3) := by decide +kernel
theorem dX7_quotient_13 : decode cX7_quotient 13 = .ok (.aload_n 0, 1) := by decide +kernel
theorem dX7_quotient_14 : decode cX7_quotient 14 = .ok (.iconst 1, 1) := by decide +kernel
theorem dX7_quotient_15 : decode cX7_quotient 15 = .ok (.iconst 2, 1) := by decide +kernel
theorem dX7_quotient_16 : decode cX7_quotient 16 = .ok (.iload_n 1, 1) := by decide +kernel
theorem dX7_quotient_17 : decode cX7_quotient 17 = .ok (.imul, 1) := by decide +kernel
theorem dX7_quotient_18 : decode cX7_quotient 18 = .ok (.iconst 1, 1) := by decide +kernel
theorem dX7_quotient_19 : decode cX7_quotient 19 = .ok (.iadd, 1) := by decide +kernel
theorem dX7_quotient_20 : decode cX7_quotient 20 = .ok (.iconst 2, 1) := by decide +kernel
theorem dX7_quotient_21 : decode cX7_quotient 21 = .ok (.iload_n 2, 1) := by decide +kernel
theorem dX7_quotient_22 : decode cX7_quotient 22 = .ok (.imul, 1) := by decide +kernel
theorem dX7_quotient_23 : decode cX7_quotient 23 = .ok (.invokevirtual 94, 3) := by decide +kernel
theorem dX7_quotient_26 : decode cX7_quotient 26 = .ok (.aload_n 0, 1) := by decide +kernel
theorem dX7_quotient_27 : decode cX7_quotient 27 = .ok (.getfield 16, 3) := by decide +kernel
theorem dX7_quotient_30 : decode cX7_quotient 30 = .ok (.iconst 0, 1) := by decide +kernel
theorem dX7_quotient_31 : decode cX7_quotient 31 = .ok (.aload_n 0, 1) := by decide +kernel
theorem dX7_quotient_32 : decode cX7_quotient 32 = .ok (.getfield 16, 3) := by decide +kernel
theorem dX7_quotient_35 : decode cX7_quotient 35 = .ok (.iload_n 1, 1) := by decide +kernel
theorem dX7_quotient_36 : decode cX7_quotient 36 = .ok (.iaload, 1) := by decide +kernel
theorem dX7_quotient_37 : decode cX7_quotient 37 = .ok (.aload_n 0, 1) := by decide +kernel
theorem dX7_quotient_38 : decode cX7_quotient 38 = .ok (.getfield 16, 3) := by decide +kernel
theorem dX7_quotient_41 : decode cX7_quotient 41 = .ok (.iload_n 2, 1) := by decide +kernel
theorem dX7_quotient_42 : decode cX7_quotient 42 = .ok (.iaload, 1) := by decide +kernel
theorem dX7_quotient_43 : decode cX7_quotient 43 = .ok (.imul, 1) := by decide +kernel
theorem dX7_quotient_44 : decode cX7_quotient 44 = .ok (.iastore, 1) := by decide +kernel
theorem dX7_quotient_45 : decode cX7_quotient 45 = .ok (.aload_n 0, 1) := by decide +kernel
theorem dX7_quotient_46 : decode cX7_quotient 46 = .ok (.iconst 0, 1) := by decide +kernel
theorem dX7_quotient_47 : decode cX7_quotient 47 = .ok (.invokevirtual 103, 3) := by decide +kernel
theorem dX7_quotient_50 : decode cX7_quotient 50 = .ok (.ireturn, 1) := by decide +kernel
theorem dX7_left_0 : decode cX7_left 0 = .ok (.aload_n 0, 1) := by decide +kernel
theorem dX7_left_1 : decode cX7_left 1 = .ok (.iload_n 1, 1) := by decide +kernel
theorem dX7_left_2 : decode cX7_left 2 = .ok (.iload_n 2, 1) := by decide +kernel
theorem dX7_left_3 : decode cX7_left 3 = .ok (.invokevirtual 97, 3) := by decide +kernel
theorem dX7_left_6 : decode cX7_left 6 = .ok (.aload_n 0, 1) := by decide +kernel
theorem dX7_left_7 : decode cX7_left 7 = .ok (.bipush 10, 2) := by decide +kernel
theorem dX7_left_9 : decode cX7_left 9 = .ok (.bipush 11, 2) := by decide +kernel
theorem dX7_left_11 : decode cX7_left 11 = .ok (.iconst (-1), 1) := by decide +kernel
theorem dX7_left_12 : decode cX7_left 12 = .ok (.invokevirtual 85, 3) := by decide +kernel
theorem dX7_left_15 : decode cX7_left 15 = .ok (.aload_n 0, 1) := by decide +kernel
theorem dX7_left_16 : decode cX7_left 16 = .ok (.getfield 13, 3) := by decide +kernel
theorem dX7_left_19 : decode cX7_left 19 = .ok (.bipush 10, 2) := by decide +kernel
theorem dX7_left_21 : decode cX7_left 21 = .ok (.iaload, 1) := by decide +kernel
theorem dX7_left_22 : decode cX7_left 22 = .ok (.ifCond .eq 18, 3) := by decide +kernel
theorem dX7_left_25 : decode cX7_left 25 = .ok (.aload_n 0, 1) := by decide +kernel
theorem dX7_left_26 : decode cX7_left 26 = .ok (.getfield 16, 3) := by decide +kernel
theorem dX7_left_29 : decode cX7_left 29 = .ok (.iload_n 1, 1) := by decide +kernel
theorem dX7_left_30 : decode cX7_left 30 = .ok (.iaload, 1) := by decide +kernel
theorem dX7_left_31 : decode cX7_left 31 = .ok (.aload_n 0, 1) := by decide +kernel
theorem dX7_left_32 : decode cX7_left 32 = .ok (.getfield 16, 3) := by decide +kernel
theorem dX7_left_35 : decode cX7_left 35 = .ok (.iload_n 2, 1) := by decide +kernel
theorem dX7_left_36 : decode cX7_left 36 = .ok (.iaload, 1) := by decide +kernel
theorem dX7_left_37 : decode cX7_left 37 = .ok (.if_icmp .ne 13, 3) := by decide +kernel
theorem dX7_left_40 : decode cX7_left 40 = .ok (.aload_n 0, 1) := by decide +kernel
theorem dX7_left_41 : decode cX7_left 41 = .ok (.iconst 0, 1) := by decide +kernel
theorem dX7_left_42 : decode cX7_left 42 = .ok (.bipush 10, 2) := by decide +kernel
theorem dX7_left_44 : decode cX7_left 44 = .ok (.invokevirtual 82, 3) := by decide +kernel
theorem dX7_left_47 : decode cX7_left 47 = .ok (.goto 18, 3) := by decide +kernel
theorem dX7_left_50 : decode cX7_left 50 = .ok (.aload_n 0, 1) := by decide +kernel
theorem dX7_left_51 : decode cX7_left 51 = .ok (.iconst 0, 1) := by decide +kernel
theorem dX7_left_52 : decode cX7_left 52 = .ok (.bipush 11, 2) := by decide +kernel
theorem dX7_left_54 : decode cX7_left 54 = .ok (.invokevirtual 82, 3) := by decide +kernel
theorem dX7_left_57 : decode cX7_left 57 = .ok (.aload_n 0, 1) := by decide +kernel
theorem dX7_left_58 : decode cX7_left 58 = .ok (.iconst 0, 1) := by decide +kernel
theorem dX7_left_59 : decode cX7_left 59 = .ok (.bipush 10, 2) := by decide +kernel
theorem dX7_left_61 : decode cX7_left 61 = .ok (.iconst 0, 1) := by decide +kernel
theorem dX7_left_62 : decode cX7_left 62 = .ok (.invokevirtual 78, 3) := by decide +kernel
theorem dX7_left_65 : decode cX7_left 65 = .ok (.aload_n 0, 1) := by decide +kernel
theorem dX7_left_66 : decode cX7_left 66 = .ok (.getfield 16, 3) := by decide +kernel
theorem dX7_left_69 : decode cX7_left 69 = .ok (.iconst 0, 1) := by decide +kernel
theorem dX7_left_70 : decode cX7_left 70 = .ok (.aload_n 0, 1) := by decide +kernel
theorem dX7_left_71 : decode cX7_left 71 = .ok (.getfield 16, 3) := by decide +kernel
theorem dX7_left_74 : decode cX7_left 74 = .ok (.iload_n 2, 1) := by decide +kernel
theorem dX7_left_75 : decode cX7_left 75 = .ok (.iaload, 1) := by decide +kernel
theorem dX7_left_76 : decode cX7_left 76 = .ok (.iastore, 1) := by decide +kernel
theorem dX7_left_77 : decode cX7_left 77 = .ok (.aload_n 0, 1) := by decide +kernel
theorem dX7_left_78 : decode cX7_left 78 = .ok (.iconst 1, 1) := by decide +kernel
theorem dX7_left_79 : decode cX7_left 79 = .ok (.iconst 2, 1) := by decide +kernel
theorem dX7_left_80 : decode cX7_left 80 = .ok (.iload_n 1, 1) := by decide +kernel
theorem dX7_left_81 : decode cX7_left 81 = .ok (.imul, 1) := by decide +kernel
theorem dX7_left_82 : decode cX7_left 82 = .ok (.iconst 1, 1) := by decide +kernel
theorem dX7_left_83 : decode cX7_left 83 = .ok (.iadd, 1) := by decide +kernel
theorem dX7_left_84 : decode cX7_left 84 = .ok (.iconst 2, 1) := by decide +kernel
theorem dX7_left_85 : decode cX7_left 85 = .ok (.iload_n 2, 1) := by decide +kernel
theorem dX7_left_86 : decode cX7_left 86 = .ok (.imul, 1) := by decide +kernel
theorem dX7_left_87 : decode cX7_left 87 = .ok (.iconst 1, 1) := by decide +kernel
theorem dX7_left_88 : decode cX7_left 88 = .ok (.iadd, 1) := by decide +kernel
theorem dX7_left_89 : decode cX7_left 89 = .ok (.invokevirtual 94, 3) := by decide +kernel
theorem dX7_left_92 : decode cX7_left 92 = .ok (.aload_n 0, 1) := by decide +kernel
theorem dX7_left_93 : decode cX7_left 93 = .ok (.iconst 0, 1) := by decide +kernel
theorem dX7_left_94 : decode cX7_left 94 = .ok (.invokevirtual 103, 3) := by decide +kernel
theorem dX7_left_97 : decode cX7_left 97 = .ok (.ireturn, 1) := by decide +kernel
theorem dX7_common_0 : decode cX7_common 0 = .ok (.aload_n 0, 1) := by decide +kernel
theorem dX7_common_1 : decode cX7_common 1 = .ok (.iload_n 1, 1) := by decide +kernel
theorem dX7_common_2 : decode cX7_common 2 = .ok (.iload_n 2, 1) := by decide +kernel
theorem dX7_common_3 : decode cX7_common 3 = .ok (.invokevirtual 97, 3) := by decide +kernel
theorem dX7_common_6 : decode cX7_common 6 = .ok (.aload_n 0, 1) := by decide +kernel
theorem dX7_common_7 : decode cX7_common 7 = .ok (.iconst 0, 1) := by decide +kernel
theorem dX7_common_8 : decode cX7_common 8 = .ok (.bipush 10, 2) := by decide +kernel
theorem dX7_common_10 : decode cX7_common 10 = .ok (.bipush 11, 2) := by decide +kernel
theorem dX7_common_12 : decode cX7_common 12 = .ok (.invokevirtual 88, 3) := by decide +kernel
theorem dX7_common_15 : decode cX7_common 15 = .ok (.aload_n 0, 1) := by decide +kernel
theorem dX7_common_16 : decode cX7_common 16 = .ok (.getfield 16, 3) := by decide +kernel
theorem dX7_common_19 : decode cX7_common 19 = .ok (.iconst 0, 1) := by decide +kernel
theorem dX7_common_20 : decode cX7_common 20 = .ok (.iconst 1, 1) := by decide +kernel
theorem dX7_common_21 : decode cX7_common 21 = .ok (.iastore, 1) := by decide +kernel
theorem dX7_common_22 : decode cX7_common 22 = .ok (.aload_n 0, 1) := by decide +kernel
theorem dX7_common_23 : decode cX7_common 23 = .ok (.iconst 1, 1) := by decide +kernel
theorem dX7_common_24 : decode cX7_common 24 = .ok (.iconst 2, 1) := by decide +kernel
theorem dX7_common_25 : decode cX7_common 25 = .ok (.iload_n 1, 1) := by decide +kernel
theorem dX7_common_26 : decode cX7_common 26 = .ok (.imul, 1) := by decide +kernel
theorem dX7_common_27 : decode cX7_common 27 = .ok (.iconst 1, 1) := by decide +kernel
theorem dX7_common_28 : decode cX7_common 28 = .ok (.iadd, 1) := by decide +kernel
theorem dX7_common_29 : decode cX7_common 29 = .ok (.iconst 2, 1) := by decide +kernel
theorem dX7_common_30 : decode cX7_common 30 = .ok (.iload_n 2, 1) := by decide +kernel
theorem dX7_common_31 : decode cX7_common 31 = .ok (.imul, 1) := by decide +kernel
theorem dX7_common_32 : decode cX7_common 32 = .ok (.iconst 1, 1) := by decide +kernel
theorem dX7_common_33 : decode cX7_common 33 = .ok (.iadd, 1) := by decide +kernel
theorem dX7_common_34 : decode cX7_common 34 = .ok (.invokevirtual 94, 3) := by decide +kernel
theorem dX7_common_37 : decode cX7_common 37 = .ok (.aload_n 0, 1) := by decide +kernel
theorem dX7_common_38 : decode cX7_common 38 = .ok (.iconst 0, 1) := by decide +kernel
theorem dX7_common_39 : decode cX7_common 39 = .ok (.invokevirtual 103, 3) := by decide +kernel
theorem dX7_common_42 : decode cX7_common 42 = .ok (.ireturn, 1) := by decide +kernel
theorem dX7_move_0 : decode cX7_move 0 = .ok (.aload_n 0, 1) := by decide +kernel
theorem dX7_move_1 : decode cX7_move 1 = .ok (.iconst 2, 1) := by decide +kernel
theorem dX7_move_2 : decode cX7_move 2 = .ok (.iload_n 1, 1) := by decide +kernel
theorem dX7_move_3 : decode cX7_move 3 = .ok (.imul, 1) := by decide +kernel
theorem dX7_move_4 : decode cX7_move 4 = .ok (.iconst 2, 1) := by decide +kernel
theorem dX7_move_5 : decode cX7_move 5 = .ok (.iload_n 2, 1) := by decide +kernel
theorem dX7_move_6 : decode cX7_move 6 = .ok (.imul, 1) := by decide +kernel
theorem dX7_move_7 : decode cX7_move 7 = .ok (.invokevirtual 82, 3) := by decide +kernel
theorem dX7_move_10 : decode cX7_move 10 = .ok (.aload_n 0, 1) := by decide +kernel
theorem dX7_move_11 : decode cX7_move 11 = .ok (.iconst 2, 1) := by decide +kernel
theorem dX7_move_12 : decode cX7_move 12 = .ok (.iload_n 1, 1) := by decide +kernel
theorem dX7_move_13 : decode cX7_move 13 = .ok (.imul, 1) := by decide +kernel
theorem dX7_move_14 : decode cX7_move 14 = .ok (.iconst 1, 1) := by decide +kernel
theorem dX7_move_15 : decode cX7_move 15 = .ok (.iadd, 1) := by decide +kernel
theorem dX7_move_16 : decode cX7_move 16 = .ok (.iconst 2, 1) := by decide +kernel
theorem dX7_move_17 : decode cX7_move 17 = .ok (.iload_n 2, 1) := by decide +kernel
theorem dX7_move_18 : decode cX7_move 18 = .ok (.imul, 1) := by decide +kernel
theorem dX7_move_19 : decode cX7_move 19 = .ok (.iconst 1, 1) := by decide +kernel
theorem dX7_move_20 : decode cX7_move 20 = .ok (.iadd, 1) := by decide +kernel
theorem dX7_move_21 : decode cX7_move 21 = .ok (.invokevirtual 82, 3) := by decide +kernel
theorem dX7_move_24 : decode cX7_move 24 = .ok (.aload_n 0, 1) := by decide +kernel
theorem dX7_move_25 : decode cX7_move 25 = .ok (.getfield 16, 3) := by decide +kernel
theorem dX7_move_28 : decode cX7_move 28 = .ok (.iload_n 1, 1) := by decide +kernel
theorem dX7_move_29 : decode cX7_move 29 = .ok (.aload_n 0, 1) := by decide +kernel
theorem dX7_move_30 : decode cX7_move 30 = .ok (.getfield 16, 3) := by decide +kernel
theorem dX7_move_33 : decode cX7_move 33 = .ok (.iload_n 2, 1) := by decide +kernel
theorem dX7_move_34 : decode cX7_move 34 = .ok (.iaload, 1) := by decide +kernel
theorem dX7_move_35 : decode cX7_move 35 = .ok (.iastore, 1) := by decide +kernel
theorem dX7_move_36 : decode cX7_move 36 = .ok (.return_, 1) := by decide +kernel
theorem dX7_load_0 : decode cX7_load 0 = .ok (.aload_n 0, 1) := by decide +kernel
theorem dX7_load_1 : decode cX7_load 1 = .ok (.getfield 13, 3) := by decide +kernel
theorem dX7_load_4 : decode cX7_load 4 = .ok (.iconst 2, 1) := by decide +kernel
theorem dX7_load_5 : decode cX7_load 5 = .ok (.iload_n 1, 1) := by decide +kernel
theorem dX7_load_6 : decode cX7_load 6 = .ok (.imul, 1) := by decide +kernel
theorem dX7_load_7 : decode cX7_load 7 = .ok (.aload_n 0, 1) := by decide +kernel
theorem dX7_load_8 : decode cX7_load 8 = .ok (.getfield 25, 3) := by decide +kernel
theorem dX7_load_11 : decode cX7_load 11 = .ok (.iload_n 2, 1) := by decide +kernel
theorem dX7_load_12 : decode cX7_load 12 = .ok (.iaload, 1) := by decide +kernel
theorem dX7_load_13 : decode cX7_load 13 = .ok (.iastore, 1) := by decide +kernel
theorem dX7_load_14 : decode cX7_load 14 = .ok (.iconst 0, 1) := by decide +kernel
theorem dX7_load_15 : decode cX7_load 15 = .ok (.istore_n 3, 1) := by decide +kernel
theorem dX7_load_16 : decode cX7_load 16 = .ok (.iload_n 3, 1) := by decide +kernel
theorem dX7_load_17 : decode cX7_load 17 = .ok (.aload_n 0, 1) := by decide +kernel
theorem dX7_load_18 : decode cX7_load 18 = .ok (.getfield 25, 3) := by decide +kernel
theorem dX7_load_21 : decode cX7_load 21 = .ok (.iload_n 2, 1) := by decide +kernel
theorem dX7_load_22 : decode cX7_load 22 = .ok (.iaload, 1) := by decide +kernel
theorem dX7_load_23 : decode cX7_load 23 = .ok (.if_icmp .ge 34, 3) := by decide +kernel
theorem dX7_load_26 : decode cX7_load 26 = .ok (.aload_n 0, 1) := by decide +kernel
theorem dX7_load_27 : decode cX7_load 27 = .ok (.getfield 7, 3) := by decide +kernel
theorem dX7_load_30 : decode cX7_load 30 = .ok (.sipush 160, 3) := by decide +kernel
theorem dX7_load_33 : decode cX7_load 33 = .ok (.iconst 2, 1) := by decide +kernel
theorem dX7_load_34 : decode cX7_load 34 = .ok (.iload_n 1, 1) := by decide +kernel
theorem dX7_load_35 : decode cX7_load 35 = .ok (.imul, 1) := by decide +kernel
theorem dX7_load_36 : decode cX7_load 36 = .ok (.imul, 1) := by decide +kernel
theorem dX7_load_37 : decode cX7_load 37 = .ok (.iload_n 3, 1) := by decide +kernel
theorem dX7_load_38 : decode cX7_load 38 = .ok (.iadd, 1) := by decide +kernel
theorem dX7_load_39 : decode cX7_load 39 = .ok (.aload_n 0, 1) := by decide +kernel
theorem dX7_load_40 : decode cX7_load 40 = .ok (.getfield 22, 3) := by decide +kernel
theorem dX7_load_43 : decode cX7_load 43 = .ok (.bipush 32, 2) := by decide +kernel
theorem dX7_load_45 : decode cX7_load 45 = .ok (.iload_n 2, 1) := by decide +kernel
theorem dX7_load_46 : decode cX7_load 46 = .ok (.imul, 1) := by decide +kernel
theorem dX7_load_47 : decode cX7_load 47 = .ok (.iload_n 3, 1) := by decide +kernel
theorem dX7_load_48 : decode cX7_load 48 = .ok (.iadd, 1) := by decide +kernel
theorem dX7_load_49 : decode cX7_load 49 = .ok (.iaload, 1) := by decide +kernel
theorem dX7_load_50 : decode cX7_load 50 = .ok (.iastore, 1) := by decide +kernel
theorem dX7_load_51 : decode cX7_load 51 = .ok (.iinc 3 1, 3) := by decide +kernel
theorem dX7_load_54 : decode cX7_load 54 = .ok (.goto (-38), 3) := by decide +kernel
theorem dX7_load_57 : decode cX7_load 57 = .ok (.aload_n 0, 1) := by decide +kernel
theorem dX7_load_58 : decode cX7_load 58 = .ok (.getfield 13, 3) := by decide +kernel
theorem dX7_load_61 : decode cX7_load 61 = .ok (.iconst 2, 1) := by decide +kernel
theorem dX7_load_62 : decode cX7_load 62 = .ok (.iload_n 1, 1) := by decide +kernel
theorem dX7_load_63 : decode cX7_load 63 = .ok (.imul, 1) := by decide +kernel
theorem dX7_load_64 : decode cX7_load 64 = .ok (.iconst 1, 1) := by decide +kernel
theorem dX7_load_65 : decode cX7_load 65 = .ok (.iadd, 1) := by decide +kernel
theorem dX7_load_66 : decode cX7_load 66 = .ok (.aload_n 0, 1) := by decide +kernel
theorem dX7_load_67 : decode cX7_load 67 = .ok (.getfield 31, 3) := by decide +kernel
theorem dX7_load_70 : decode cX7_load 70 = .ok (.iload_n 2, 1) := by decide +kernel
theorem dX7_load_71 : decode cX7_load 71 = .ok (.iaload, 1) := by decide +kernel
theorem dX7_load_72 : decode cX7_load 72 = .ok (.iastore, 1) := by decide +kernel
theorem dX7_load_73 : decode cX7_load 73 = .ok (.iconst 0, 1) := by decide +kernel
theorem dX7_load_74 : decode cX7_load 74 = .ok (.istore_n 3, 1) := by decide +kernel
theorem dX7_load_75 : decode cX7_load 75 = .ok (.iload_n 3, 1) := by decide +kernel
theorem dX7_load_76 : decode cX7_load 76 = .ok (.aload_n 0, 1) := by decide +kernel
theorem dX7_load_77 : decode cX7_load 77 = .ok (.getfield 31, 3) := by decide +kernel
theorem dX7_load_80 : decode cX7_load 80 = .ok (.iload_n 2, 1) := by decide +kernel
theorem dX7_load_81 : decode cX7_load 81 = .ok (.iaload, 1) := by decide +kernel
theorem dX7_load_82 : decode cX7_load 82 = .ok (.if_icmp .ge 36, 3) := by decide +kernel
theorem dX7_load_85 : decode cX7_load 85 = .ok (.aload_n 0, 1) := by decide +kernel
theorem dX7_load_86 : decode cX7_load 86 = .ok (.getfield 7, 3) := by decide +kernel
theorem dX7_load_89 : decode cX7_load 89 = .ok (.sipush 160, 3) := by decide +kernel
theorem dX7_load_92 : decode cX7_load 92 = .ok (.iconst 2, 1) := by decide +kernel
theorem dX7_load_93 : decode cX7_load 93 = .ok (.iload_n 1, 1) := by decide +kernel
theorem dX7_load_94 : decode cX7_load 94 = .ok (.imul, 1) := by decide +kernel
theorem dX7_load_95 : decode cX7_load 95 = .ok (.iconst 1, 1) := by decide +kernel
theorem dX7_load_96 : decode cX7_load 96 = .ok (.iadd, 1) := by decide +kernel
theorem dX7_load_97 : decode cX7_load 97 = .ok (.imul, 1) := by decide +kernel
theorem dX7_load_98 : decode cX7_load 98 = .ok (.iload_n 3, 1) := by decide +kernel
theorem dX7_load_99 : decode cX7_load 99 = .ok (.iadd, 1) := by decide +kernel
theorem dX7_load_100 : decode cX7_load 100 = .ok (.aload_n 0, 1) := by decide +kernel
theorem dX7_load_101 : decode cX7_load 101 = .ok (.getfield 28, 3) := by decide +kernel
theorem dX7_load_104 : decode cX7_load 104 = .ok (.bipush 32, 2) := by decide +kernel
theorem dX7_load_106 : decode cX7_load 106 = .ok (.iload_n 2, 1) := by decide +kernel
theorem dX7_load_107 : decode cX7_load 107 = .ok (.imul, 1) := by decide +kernel
theorem dX7_load_108 : decode cX7_load 108 = .ok (.iload_n 3, 1) := by decide +kernel
theorem dX7_load_109 : decode cX7_load 109 = .ok (.iadd, 1) := by decide +kernel
theorem dX7_load_110 : decode cX7_load 110 = .ok (.iaload, 1) := by decide +kernel
theorem dX7_load_111 : decode cX7_load 111 = .ok (.iastore, 1) := by decide +kernel
theorem dX7_load_112 : decode cX7_load 112 = .ok (.iinc 3 1, 3) := by decide +kernel
theorem dX7_load_115 : decode cX7_load 115 = .ok (.goto (-40), 3) := by decide +kernel
theorem dX7_load_118 : decode cX7_load 118 = .ok (.aload_n 0, 1) := by decide +kernel
theorem dX7_load_119 : decode cX7_load 119 = .ok (.getfield 16, 3) := by decide +kernel
theorem dX7_load_122 : decode cX7_load 122 = .ok (.iload_n 1, 1) := by decide +kernel
theorem dX7_load_123 : decode cX7_load 123 = .ok (.aload_n 0, 1) := by decide +kernel
theorem dX7_load_124 : decode cX7_load 124 = .ok (.getfield 19, 3) := by decide +kernel
theorem dX7_load_127 : decode cX7_load 127 = .ok (.iload_n 2, 1) := by decide +kernel
theorem dX7_load_128 : decode cX7_load 128 = .ok (.iaload, 1) := by decide +kernel
theorem dX7_load_129 : decode cX7_load 129 = .ok (.iastore, 1) := by decide +kernel
theorem dX7_load_130 : decode cX7_load 130 = .ok (.return_, 1) := by decide +kernel
theorem dX7_save_0 : decode cX7_save 0 = .ok (.aload_n 0, 1) := by decide +kernel
theorem dX7_save_1 : decode cX7_save 1 = .ok (.getfield 25, 3) := by decide +kernel
theorem dX7_save_4 : decode cX7_save 4 = .ok (.iload_n 1, 1) := by decide +kernel
theorem dX7_save_5 : decode cX7_save 5 = .ok (.aload_n 0, 1) := by decide +kernel
theorem dX7_save_6 : decode cX7_save 6 = .ok (.getfield 13, 3) := by decide +kernel
theorem dX7_save_9 : decode cX7_save 9 = .ok (.iconst 2, 1) := by decide +kernel
theorem dX7_save_10 : decode cX7_save 10 = .ok (.iload_n 2, 1) := by decide +kernel
theorem dX7_save_11 : decode cX7_save 11 = .ok (.imul, 1) := by decide +kernel
theorem dX7_save_12 : decode cX7_save 12 = .ok (.iaload, 1) := by decide +kernel
theorem dX7_save_13 : decode cX7_save 13 = .ok (.iastore, 1) := by decide +kernel
theorem dX7_save_14 : decode cX7_save 14 = .ok (.iconst 0, 1) := by decide +kernel
theorem dX7_save_15 : decode cX7_save 15 = .ok (.istore_n 3, 1) := by decide +kernel
theorem dX7_save_16 : decode cX7_save 16 = .ok (.iload_n 3, 1) := by decide +kernel
theorem dX7_save_17 : decode cX7_save 17 = .ok (.aload_n 0, 1) := by decide +kernel
theorem dX7_save_18 : decode cX7_save 18 = .ok (.getfield 13, 3) := by decide +kernel
theorem dX7_save_21 : decode cX7_save 21 = .ok (.iconst 2, 1) := by decide +kernel
theorem dX7_save_22 : decode cX7_save 22 = .ok (.iload_n 2, 1) := by decide +kernel
theorem dX7_save_23 : decode cX7_save 23 = .ok (.imul, 1) := by decide +kernel
theorem dX7_save_24 : decode cX7_save 24 = .ok (.iaload, 1) := by decide +kernel
theorem dX7_save_25 : decode cX7_save 25 = .ok (.if_icmp .ge 34, 3) := by decide +kernel
theorem dX7_save_28 : decode cX7_save 28 = .ok (.aload_n 0, 1) := by decide +kernel
theorem dX7_save_29 : decode cX7_save 29 = .ok (.getfield 22, 3) := by decide +kernel
theorem dX7_save_32 : decode cX7_save 32 = .ok (.bipush 32, 2) := by decide +kernel
theorem dX7_save_34 : decode cX7_save 34 = .ok (.iload_n 1, 1) := by decide +kernel
theorem dX7_save_35 : decode cX7_save 35 = .ok (.imul, 1) := by decide +kernel
theorem dX7_save_36 : decode cX7_save 36 = .ok (.iload_n 3, 1) := by decide +kernel
theorem dX7_save_37 : decode cX7_save 37 = .ok (.iadd, 1) := by decide +kernel
theorem dX7_save_38 : decode cX7_save 38 = .ok (.aload_n 0, 1) := by decide +kernel
theorem dX7_save_39 : decode cX7_save 39 = .ok (.getfield 7, 3) := by decide +kernel
theorem dX7_save_42 : decode cX7_save 42 = .ok (.sipush 160, 3) := by decide +kernel
theorem dX7_save_45 : decode cX7_save 45 = .ok (.iconst 2, 1) := by decide +kernel
theorem dX7_save_46 : decode cX7_save 46 = .ok (.iload_n 2, 1) := by decide +kernel
theorem dX7_save_47 : decode cX7_save 47 = .ok (.imul, 1) := by decide +kernel
theorem dX7_save_48 : decode cX7_save 48 = .ok (.imul, 1) := by decide +kernel
theorem dX7_save_49 : decode cX7_save 49 = .ok (.iload_n 3, 1) := by decide +kernel
theorem dX7_save_50 : decode cX7_save 50 = .ok (.iadd, 1) := by decide +kernel
theorem dX7_save_51 : decode cX7_save 51 = .ok (.iaload, 1) := by decide +kernel
theorem dX7_save_52 : decode cX7_save 52 = .ok (.iastore, 1) := by decide +kernel
theorem dX7_save_53 : decode cX7_save 53 = .ok (.iinc 3 1, 3) := by decide +kernel
theorem dX7_save_56 : decode cX7_save 56 = .ok (.goto (-40), 3) := by decide +kernel
theorem dX7_save_59 : decode cX7_save 59 = .ok (.aload_n 0, 1) := by decide +kernel
theorem dX7_save_60 : decode cX7_save 60 = .ok (.getfield 31, 3) := by decide +kernel
theorem dX7_save_63 : decode cX7_save 63 = .ok (.iload_n 1, 1) := by decide +kernel
theorem dX7_save_64 : decode cX7_save 64 = .ok (.aload_n 0, 1) := by decide +kernel
theorem dX7_save_65 : decode cX7_save 65 = .ok (.getfield 13, 3) := by decide +kernel
theorem dX7_save_68 : decode cX7_save 68 = .ok (.iconst 2, 1) := by decide +kernel
theorem dX7_save_69 : decode cX7_save 69 = .ok (.iload_n 2, 1) := by decide +kernel
theorem dX7_save_70 : decode cX7_save 70 = .ok (.imul, 1) := by decide +kernel
theorem dX7_save_71 : decode cX7_save 71 = .ok (.iconst 1, 1) := by decide +kernel
theorem dX7_save_72 : decode cX7_save 72 = .ok (.iadd, 1) := by decide +kernel
theorem dX7_save_73 : decode cX7_save 73 = .ok (.iaload, 1) := by decide +kernel
theorem dX7_save_74 : decode cX7_save 74 = .ok (.iastore, 1) := by decide +kernel
theorem dX7_save_75 : decode cX7_save 75 = .ok (.iconst 0, 1) := by decide +kernel
theorem dX7_save_76 : decode cX7_save 76 = .ok (.istore_n 3, 1) := by decide +kernel
theorem dX7_save_77 : decode cX7_save 77 = .ok (.iload_n 3, 1) := by decide +kernel
theorem dX7_save_78 : decode cX7_save 78 = .ok (.aload_n 0, 1) := by decide +kernel
theorem dX7_save_79 : decode cX7_save 79 = .ok (.getfield 13, 3) := by decide +kernel
theorem dX7_save_82 : decode cX7_save 82 = .ok (.iconst 2, 1) := by decide +kernel
theorem dX7_save_83 : decode cX7_save 83 = .ok (.iload_n 2, 1) := by decide +kernel
theorem dX7_save_84 : decode cX7_save 84 = .ok (.imul, 1) := by decide +kernel
theorem dX7_save_85 : decode cX7_save 85 = .ok (.iconst 1, 1) := by decide +kernel
theorem dX7_save_86 : decode cX7_save 86 = .ok (.iadd, 1) := by decide +kernel
theorem dX7_save_87 : decode cX7_save 87 = .ok (.iaload, 1) := by decide +kernel
theorem dX7_save_88 : decode cX7_save 88 = .ok (.if_icmp .ge 36, 3) := by decide +kernel
theorem dX7_save_91 : decode cX7_save 91 = .ok (.aload_n 0, 1) := by decide +kernel
theorem dX7_save_92 : decode cX7_save 92 = .ok (.getfield 28, 3) := by decide +kernel
theorem dX7_save_95 : decode cX7_save 95 = .ok (.bipush 32, 2) := by decide +kernel
theorem dX7_save_97 : decode cX7_save 97 = .ok (.iload_n 1, 1) := by decide +kernel
theorem dX7_save_98 : decode cX7_save 98 = .ok (.imul, 1) := by decide +kernel
theorem dX7_save_99 : decode cX7_save 99 = .ok (.iload_n 3, 1) := by decide +kernel
theorem dX7_save_100 : decode cX7_save 100 = .ok (.iadd, 1) := by decide +kernel
theorem dX7_save_101 : decode cX7_save 101 = .ok (.aload_n 0, 1) := by decide +kernel
theorem dX7_save_102 : decode cX7_save 102 = .ok (.getfield 7, 3) := by decide +kernel
theorem dX7_save_105 : decode cX7_save 105 = .ok (.sipush 160, 3) := by decide +kernel
theorem dX7_save_108 : decode cX7_save 108 = .ok (.iconst 2, 1) := by decide +kernel
theorem dX7_save_109 : decode cX7_save 109 = .ok (.iload_n 2, 1) := by decide +kernel
theorem dX7_save_110 : decode cX7_save 110 = .ok (.imul, 1) := by decide +kernel
theorem dX7_save_111 : decode cX7_save 111 = .ok (.iconst 1, 1) := by decide +kernel
theorem dX7_save_112 : decode cX7_save 112 = .ok (.iadd, 1) := by decide +kernel
theorem dX7_save_113 : decode cX7_save 113 = .ok (.imul, 1) := by decide +kernel
theorem dX7_save_114 : decode cX7_save 114 = .ok (.iload_n 3, 1) := by decide +kernel
theorem dX7_save_115 : decode cX7_save 115 = .ok (.iadd, 1) := by decide +kernel
theorem dX7_save_116 : decode cX7_save 116 = .ok (.iaload, 1) := by decide +kernel
theorem dX7_save_117 : decode cX7_save 117 = .ok (.iastore, 1) := by decide +kernel
theorem dX7_save_118 : decode cX7_save 118 = .ok (.iinc 3 1, 3) := by decide +kernel
theorem dX7_save_121 : decode cX7_save 121 = .ok (.goto (-44), 3) := by decide +kernel
theorem dX7_save_124 : decode cX7_save 124 = .ok (.aload_n 0, 1) := by decide +kernel
theorem dX7_save_125 : decode cX7_save 125 = .ok (.getfield 19, 3) := by decide +kernel
theorem dX7_save_128 : decode cX7_save 128 = .ok (.iload_n 1, 1) := by decide +kernel
theorem dX7_save_129 : decode cX7_save 129 = .ok (.aload_n 0, 1) := by decide +kernel
theorem dX7_save_130 : decode cX7_save 130 = .ok (.getfield 16, 3) := by decide +kernel
theorem dX7_save_133 : decode cX7_save 133 = .ok (.iload_n 2, 1) := by decide +kernel
theorem dX7_save_134 : decode cX7_save 134 = .ok (.iaload, 1) := by decide +kernel
theorem dX7_save_135 : decode cX7_save 135 = .ok (.iastore, 1) := by decide +kernel
theorem dX7_save_136 : decode cX7_save 136 = .ok (.return_, 1) := by decide +kernel
theorem dX7_same_0 : decode cX7_same 0 = .ok (.aload_n 0, 1) := by decide +kernel
theorem dX7_same_1 : decode cX7_same 1 = .ok (.iconst 0, 1) := by decide +kernel
theorem dX7_same_2 : decode cX7_same 2 = .ok (.iload_n 2, 1) := by decide +kernel
theorem dX7_same_3 : decode cX7_same 3 = .ok (.invokevirtual 107, 3) := by decide +kernel
theorem dX7_same_6 : decode cX7_same 6 = .ok (.aload_n 0, 1) := by decide +kernel
theorem dX7_same_7 : decode cX7_same 7 = .ok (.iload_n 1, 1) := by decide +kernel
theorem dX7_same_8 : decode cX7_same 8 = .ok (.iconst 0, 1) := by decide +kernel
theorem dX7_same_9 : decode cX7_same 9 = .ok (.invokevirtual 110, 3) := by decide +kernel
theorem dX7_same_12 : decode cX7_same 12 = .ok (.return_, 1) := by decide +kernel
theorem dX7_isValue_0 : decode cX7_isValue 0 = .ok (.iload_n 1, 1) := by decide +kernel
theorem dX7_isValue_1 : decode cX7_isValue 1 = .ok (.ifCond .lt 15, 3) := by decide +kernel
theorem dX7_isValue_4 : decode cX7_isValue 4 = .ok (.iload_n 1, 1) := by decide +kernel
theorem dX7_isValue_5 : decode cX7_isValue 5 = .ok (.aload_n 0, 1) := by decide +kernel
theorem dX7_isValue_6 : decode cX7_isValue 6 = .ok (.getfield 113, 3) := by decide +kernel
theorem dX7_isValue_9 : decode cX7_isValue 9 = .ok (.if_icmp .ge 7, 3) := by decide +kernel
theorem dX7_isValue_12 : decode cX7_isValue 12 = .ok (.iconst 1, 1) := by decide +kernel
theorem dX7_isValue_13 : decode cX7_isValue 13 = .ok (.goto 4, 3) := by decide +kernel
theorem dX7_isValue_16 : decode cX7_isValue 16 = .ok (.iconst 0, 1) := by decide +kernel
theorem dX7_isValue_17 : decode cX7_isValue 17 = .ok (.ireturn, 1) := by decide +kernel
theorem dX7_isRow_0 : decode cX7_isRow 0 = .ok (.iload_n 1, 1) := by decide +kernel
theorem dX7_isRow_1 : decode cX7_isRow 1 = .ok (.ifCond .lt 15, 3) := by decide +kernel
theorem dX7_isRow_4 : decode cX7_isRow 4 = .ok (.iload_n 1, 1) := by decide +kernel
theorem dX7_isRow_5 : decode cX7_isRow 5 = .ok (.aload_n 0, 1) := by decide +kernel
theorem dX7_isRow_6 : decode cX7_isRow 6 = .ok (.getfield 116, 3) := by decide +kernel
theorem dX7_isRow_9 : decode cX7_isRow 9 = .ok (.if_icmp .ge 7, 3) := by decide +kernel
theorem dX7_isRow_12 : decode cX7_isRow 12 = .ok (.iconst 1, 1) := by decide +kernel
theorem dX7_isRow_13 : decode cX7_isRow 13 = .ok (.goto 4, 3) := by decide +kernel
theorem dX7_isRow_16 : decode cX7_isRow 16 = .ok (.iconst 0, 1) := by decide +kernel
theorem dX7_isRow_17 : decode cX7_isRow 17 = .ok (.ireturn, 1) := by decide +kernel
theorem dX7_isPlace_0 : decode cX7_isPlace 0 = .ok (.aload_n 0, 1) := by decide +kernel
theorem dX7_isPlace_1 : decode cX7_isPlace 1 = .ok (.iload_n 1, 1) := by decide +kernel
theorem dX7_isPlace_2 : decode cX7_isPlace 2 = .ok (.invokevirtual 119, 3) := by decide +kernel
theorem dX7_isPlace_5 : decode cX7_isPlace 5 = .ok (.ifCond .eq 21, 3) := by decide +kernel
theorem dX7_isPlace_8 : decode cX7_isPlace 8 = .ok (.iload_n 2, 1) := by decide +kernel
theorem dX7_isPlace_9 : decode cX7_isPlace 9 = .ok (.ifCond .lt 17, 3) := by decide +kernel
theorem dX7_isPlace_12 : decode cX7_isPlace 12 = .ok (.iload_n 2, 1) := by decide +kernel
theorem dX7_isPlace_13 : decode cX7_isPlace 13 = .ok (.aload_n 0, 1) := by decide +kernel
theorem dX7_isPlace_14 : decode cX7_isPlace 14 = .ok (.getfield 34, 3) := by decide +kernel
theorem dX7_isPlace_17 : decode cX7_isPlace 17 = .ok (.iload_n 1, 1) := by decide +kernel
theorem dX7_isPlace_18 : decode cX7_isPlace 18 = .ok (.iaload, 1) := by decide +kernel
theorem dX7_isPlace_19 : decode cX7_isPlace 19 = .ok (.if_icmp .ge 7, 3) := by decide +kernel
theorem dX7_isPlace_22 : decode cX7_isPlace 22 = .ok (.iconst 1, 1) := by decide +kernel
theorem dX7_isPlace_23 : decode cX7_isPlace 23 = .ok (.goto 4, 3) := by decide +kernel
theorem dX7_isPlace_26 : decode cX7_isPlace 26 = .ok (.iconst 0, 1) := by decide +kernel
theorem dX7_isPlace_27 : decode cX7_isPlace 27 = .ok (.ireturn, 1) := by decide +kernel
theorem dX7_place_0 : decode cX7_place 0 = .ok (.sipush 240, 3) := by decide +kernel
theorem dX7_place_3 : decode cX7_place 3 = .ok (.bipush 10, 2) := by decide +kernel
theorem dX7_place_5 : decode cX7_place 5 = .ok (.iload_n 0, 1) := by decide +kernel
theorem dX7_place_6 : decode cX7_place 6 = .ok (.imul, 1) := by decide +kernel
theorem dX7_place_7 : decode cX7_place 7 = .ok (.iadd, 1) := by decide +kernel
theorem dX7_place_8 : decode cX7_place 8 = .ok (.iload_n 1, 1) := by decide +kernel
theorem dX7_place_9 : decode cX7_place 9 = .ok (.iadd, 1) := by decide +kernel
theorem dX7_place_10 : decode cX7_place 10 = .ok (.ireturn, 1) := by decide +kernel
theorem dX7_wide_0 : decode cX7_wide 0 = .ok (.aload_n 0, 1) := by decide +kernel
theorem dX7_wide_1 : decode cX7_wide 1 = .ok (.dup, 1) := by decide +kernel
theorem dX7_wide_2 : decode cX7_wide 2 = .ok (.getfield 122, 3) := by decide +kernel
theorem dX7_wide_5 : decode cX7_wide 5 = .ok (.iconst 1, 1) := by decide +kernel
theorem dX7_wide_6 : decode cX7_wide 6 = .ok (.iadd, 1) := by decide +kernel
theorem dX7_wide_7 : decode cX7_wide 7 = .ok (.putfield 122, 3) := by decide +kernel
theorem dX7_wide_10 : decode cX7_wide 10 = .ok (.bipush (-4), 2) := by decide +kernel
theorem dX7_wide_12 : decode cX7_wide 12 = .ok (.ireturn, 1) := by decide +kernel
theorem dX7_comes_0 : decode cX7_comes 0 = .ok (.iload_n 1, 1) := by decide +kernel
theorem dX7_comes_1 : decode cX7_comes 1 = .ok (.ifCond .ne 8, 3) := by decide +kernel
theorem dX7_comes_4 : decode cX7_comes 4 = .ok (.aload_n 0, 1) := by decide +kernel
theorem dX7_comes_5 : decode cX7_comes 5 = .ok (.invokevirtual 125, 3) := by decide +kernel
theorem dX7_comes_8 : decode cX7_comes 8 = .ok (.ireturn, 1) := by decide +kernel
theorem dX7_comes_9 : decode cX7_comes 9 = .ok (.aload_n 0, 1) := by decide +kernel
theorem dX7_comes_10 : decode cX7_comes 10 = .ok (.aload_n 0, 1) := by decide +kernel
theorem dX7_comes_11 : decode cX7_comes 11 = .ok (.getfield 113, 3) := by decide +kernel
theorem dX7_comes_14 : decode cX7_comes 14 = .ok (.iconst 0, 1) := by decide +kernel
theorem dX7_comes_15 : decode cX7_comes 15 = .ok (.invokevirtual 110, 3) := by decide +kernel
theorem dX7_comes_18 : decode cX7_comes 18 = .ok (.aload_n 0, 1) := by decide +kernel
theorem dX7_comes_19 : decode cX7_comes 19 = .ok (.dup, 1) := by decide +kernel
theorem dX7_comes_20 : decode cX7_comes 20 = .ok (.getfield 113, 3) := by decide +kernel
theorem dX7_comes_23 : decode cX7_comes 23 = .ok (.iconst 1, 1) := by decide +kernel
theorem dX7_comes_24 : decode cX7_comes 24 = .ok (.iadd, 1) := by decide +kernel
theorem dX7_comes_25 : decode cX7_comes 25 = .ok (.putfield 113, 3) := by decide +kernel
theorem dX7_comes_28 : decode cX7_comes 28 = .ok (.aload_n 0, 1) := by decide +kernel
theorem dX7_comes_29 : decode cX7_comes 29 = .ok (.getfield 113, 3) := by decide +kernel
theorem dX7_comes_32 : decode cX7_comes 32 = .ok (.iconst 1, 1) := by decide +kernel
theorem dX7_comes_33 : decode cX7_comes 33 = .ok (.isub, 1) := by decide +kernel
theorem dX7_comes_34 : decode cX7_comes 34 = .ok (.ireturn, 1) := by decide +kernel
theorem dX7_value_0 : decode cX7_value 0 = .ok (.aload_n 0, 1) := by decide +kernel
theorem dX7_value_1 : decode cX7_value 1 = .ok (.iconst 0, 1) := by decide +kernel
theorem dX7_value_2 : decode cX7_value 2 = .ok (.putfield 47, 3) := by decide +kernel
theorem dX7_value_5 : decode cX7_value 5 = .ok (.lload_n 3, 1) := by decide +kernel
theorem dX7_value_6 : decode cX7_value 6 = .ok (.lconst 0, 1) := by decide +kernel
theorem dX7_value_7 : decode cX7_value 7 = .ok (.lcmp, 1) := by decide +kernel
theorem dX7_value_8 : decode cX7_value 8 = .ok (.ifCond .ne 9, 3) := by decide +kernel
theorem dX7_value_11 : decode cX7_value 11 = .ok (.aload_n 0, 1) := by decide +kernel
theorem dX7_value_12 : decode cX7_value 12 = .ok (.iconst 1, 1) := by decide +kernel
theorem dX7_value_13 : decode cX7_value 13 = .ok (.invokevirtual 129, 3) := by decide +kernel
theorem dX7_value_16 : decode cX7_value 16 = .ok (.ireturn, 1) := by decide +kernel
theorem dX7_value_17 : decode cX7_value 17 = .ok (.aload_n 0, 1) := by decide +kernel
theorem dX7_value_18 : decode cX7_value 18 = .ok (.getfield 113, 3) := by decide +kernel
theorem dX7_value_21 : decode cX7_value 21 = .ok (.sipush 240, 3) := by decide +kernel
theorem dX7_value_24 : decode cX7_value 24 = .ok (.if_icmp .ne 6, 3) := by decide +kernel
theorem dX7_value_27 : decode cX7_value 27 = .ok (.bipush (-3), 2) := by decide +kernel
theorem dX7_value_29 : decode cX7_value 29 = .ok (.ireturn, 1) := by decide +kernel
theorem dX7_value_30 : decode cX7_value 30 = .ok (.aload_n 0, 1) := by decide +kernel
theorem dX7_value_31 : decode cX7_value 31 = .ok (.iconst 0, 1) := by decide +kernel
theorem dX7_value_32 : decode cX7_value 32 = .ok (.lload_n 1, 1) := by decide +kernel
theorem dX7_value_33 : decode cX7_value 33 = .ok (.lconst 0, 1) := by decide +kernel
theorem dX7_value_34 : decode cX7_value 34 = .ok (.lcmp, 1) := by decide +kernel
theorem dX7_value_35 : decode cX7_value 35 = .ok (.ifCond .ge 8, 3) := by decide +kernel
theorem dX7_value_38 : decode cX7_value 38 = .ok (.lload_n 1, 1) := by decide +kernel
theorem dX7_value_39 : decode cX7_value 39 = .ok (.lneg, 1) := by decide +kernel
theorem dX7_value_40 : decode cX7_value 40 = .ok (.goto 4, 3) := by decide +kernel
theorem dX7_value_43 : decode cX7_value 43 = .ok (.lload_n 1, 1) := by decide +kernel
theorem dX7_value_44 : decode cX7_value 44 = .ok (.invokevirtual 43, 3) := by decide +kernel
theorem dX7_value_47 : decode cX7_value 47 = .ok (.aload_n 0, 1) := by decide +kernel
theorem dX7_value_48 : decode cX7_value 48 = .ok (.iconst 1, 1) := by decide +kernel
theorem dX7_value_49 : decode cX7_value 49 = .ok (.lload_n 3, 1) := by decide +kernel
theorem dX7_value_50 : decode cX7_value 50 = .ok (.lconst 0, 1) := by decide +kernel
theorem dX7_value_51 : decode cX7_value 51 = .ok (.lcmp, 1) := by decide +kernel
theorem dX7_value_52 : decode cX7_value 52 = .ok (.ifCond .ge 8, 3) := by decide +kernel
theorem dX7_value_55 : decode cX7_value 55 = .ok (.lload_n 3, 1) := by decide +kernel
theorem dX7_value_56 : decode cX7_value 56 = .ok (.lneg, 1) := by decide +kernel
theorem dX7_value_57 : decode cX7_value 57 = .ok (.goto 4, 3) := by decide +kernel
theorem dX7_value_60 : decode cX7_value 60 = .ok (.lload_n 3, 1) := by decide +kernel
theorem dX7_value_61 : decode cX7_value 61 = .ok (.invokevirtual 43, 3) := by decide +kernel
theorem dX7_value_64 : decode cX7_value 64 = .ok (.aload_n 0, 1) := by decide +kernel
theorem dX7_value_65 : decode cX7_value 65 = .ok (.getfield 16, 3) := by decide +kernel
theorem dX7_value_68 : decode cX7_value 68 = .ok (.iconst 0, 1) := by decide +kernel
theorem dX7_value_69 : decode cX7_value 69 = .ok (.lload_n 1, 1) := by decide +kernel
theorem dX7_value_70 : decode cX7_value 70 = .ok (.lconst 0, 1) := by decide +kernel
theorem dX7_value_71 : decode cX7_value 71 = .ok (.lcmp, 1) := by decide +kernel
theorem dX7_value_72 : decode cX7_value 72 = .ok (.ifCond .ge 7, 3) := by decide +kernel
theorem dX7_value_75 : decode cX7_value 75 = .ok (.iconst 1, 1) := by decide +kernel
theorem dX7_value_76 : decode cX7_value 76 = .ok (.goto 4, 3) := by decide +kernel
theorem dX7_value_79 : decode cX7_value 79 = .ok (.iconst 0, 1) := by decide +kernel
theorem dX7_value_80 : decode cX7_value 80 = .ok (.lload_n 3, 1) := by decide +kernel
theorem dX7_value_81 : decode cX7_value 81 = .ok (.lconst 0, 1) := by decide +kernel
theorem dX7_value_82 : decode cX7_value 82 = .ok (.lcmp, 1) := by decide +kernel
theorem dX7_value_83 : decode cX7_value 83 = .ok (.ifCond .ge 7, 3) := by decide +kernel
theorem dX7_value_86 : decode cX7_value 86 = .ok (.iconst 1, 1) := by decide +kernel
theorem dX7_value_87 : decode cX7_value 87 = .ok (.goto 4, 3) := by decide +kernel
theorem dX7_value_90 : decode cX7_value 90 = .ok (.iconst 0, 1) := by decide +kernel
theorem dX7_value_91 : decode cX7_value 91 = .ok (.if_icmp .ne 7, 3) := by decide +kernel
theorem dX7_value_94 : decode cX7_value 94 = .ok (.iconst 1, 1) := by decide +kernel
theorem dX7_value_95 : decode cX7_value 95 = .ok (.goto 4, 3) := by decide +kernel
theorem dX7_value_98 : decode cX7_value 98 = .ok (.iconst (-1), 1) := by decide +kernel
theorem dX7_value_99 : decode cX7_value 99 = .ok (.iastore, 1) := by decide +kernel
theorem dX7_value_100 : decode cX7_value 100 = .ok (.aload_n 0, 1) := by decide +kernel
theorem dX7_value_101 : decode cX7_value 101 = .ok (.aload_n 0, 1) := by decide +kernel
theorem dX7_value_102 : decode cX7_value 102 = .ok (.iconst 0, 1) := by decide +kernel
theorem dX7_value_103 : decode cX7_value 103 = .ok (.invokevirtual 103, 3) := by decide +kernel
theorem dX7_value_106 : decode cX7_value 106 = .ok (.invokevirtual 132, 3) := by decide +kernel
theorem dX7_value_109 : decode cX7_value 109 = .ok (.ireturn, 1) := by decide +kernel
theorem dX7_two_0 : decode cX7_two 0 = .ok (.aload_n 0, 1) := by decide +kernel
theorem dX7_two_1 : decode cX7_two 1 = .ok (.iconst 0, 1) := by decide +kernel
theorem dX7_two_2 : decode cX7_two 2 = .ok (.putfield 47, 3) := by decide +kernel
theorem dX7_two_5 : decode cX7_two 5 = .ok (.aload_n 0, 1) := by decide +kernel
theorem dX7_two_6 : decode cX7_two 6 = .ok (.iload_n 2, 1) := by decide +kernel
theorem dX7_two_7 : decode cX7_two 7 = .ok (.invokevirtual 136, 3) := by decide +kernel
theorem dX7_two_10 : decode cX7_two 10 = .ok (.ifCond .eq 11, 3) := by decide +kernel
theorem dX7_two_13 : decode cX7_two 13 = .ok (.aload_n 0, 1) := by decide +kernel
theorem dX7_two_14 : decode cX7_two 14 = .ok (.iload_n 3, 1) := by decide +kernel
theorem dX7_two_15 : decode cX7_two 15 = .ok (.invokevirtual 136, 3) := by decide +kernel
theorem dX7_two_18 : decode cX7_two 18 = .ok (.ifCond .ne 6, 3) := by decide +kernel
theorem dX7_two_21 : decode cX7_two 21 = .ok (.bipush (-2), 2) := by decide +kernel
theorem dX7_two_23 : decode cX7_two 23 = .ok (.ireturn, 1) := by decide +kernel
theorem dX7_two_24 : decode cX7_two 24 = .ok (.iload_n 1, 1) := by decide +kernel
theorem dX7_two_25 : decode cX7_two 25 = .ok (.iconst 3, 1) := by decide +kernel
theorem dX7_two_26 : decode cX7_two 26 = .ok (.if_icmp .eq 8, 3) := by decide +kernel
theorem dX7_two_29 : decode cX7_two 29 = .ok (.iload_n 1, 1) := by decide +kernel
theorem dX7_two_30 : decode cX7_two 30 = .ok (.iconst 4, 1) := by decide +kernel
theorem dX7_two_31 : decode cX7_two 31 = .ok (.if_icmp .ne 18, 3) := by decide +kernel
theorem dX7_two_34 : decode cX7_two 34 = .ok (.aload_n 0, 1) := by decide +kernel
theorem dX7_two_35 : decode cX7_two 35 = .ok (.getfield 19, 3) := by decide +kernel
theorem dX7_two_38 : decode cX7_two 38 = .ok (.iload_n 3, 1) := by decide +kernel
theorem dX7_two_39 : decode cX7_two 39 = .ok (.iaload, 1) := by decide +kernel
theorem dX7_two_40 : decode cX7_two 40 = .ok (.ifCond .ne 9, 3) := by decide +kernel
theorem dX7_two_43 : decode cX7_two 43 = .ok (.aload_n 0, 1) := by decide +kernel
theorem dX7_two_44 : decode cX7_two 44 = .ok (.iconst 1, 1) := by decide +kernel
theorem dX7_two_45 : decode cX7_two 45 = .ok (.invokevirtual 129, 3) := by decide +kernel
theorem dX7_two_48 : decode cX7_two 48 = .ok (.ireturn, 1) := by decide +kernel
theorem dX7_two_49 : decode cX7_two 49 = .ok (.aload_n 0, 1) := by decide +kernel
theorem dX7_two_50 : decode cX7_two 50 = .ok (.getfield 113, 3) := by decide +kernel
theorem dX7_two_53 : decode cX7_two 53 = .ok (.sipush 240, 3) := by decide +kernel
theorem dX7_two_56 : decode cX7_two 56 = .ok (.if_icmp .ne 6, 3) := by decide +kernel
theorem dX7_two_59 : decode cX7_two 59 = .ok (.bipush (-3), 2) := by decide +kernel
theorem dX7_two_61 : decode cX7_two 61 = .ok (.ireturn, 1) := by decide +kernel
theorem dX7_two_62 : decode cX7_two 62 = .ok (.aload_n 0, 1) := by decide +kernel
theorem dX7_two_63 : decode cX7_two 63 = .ok (.iconst 1, 1) := by decide +kernel
theorem dX7_two_64 : decode cX7_two 64 = .ok (.iload_n 2, 1) := by decide +kernel
theorem dX7_two_65 : decode cX7_two 65 = .ok (.invokevirtual 107, 3) := by decide +kernel
theorem dX7_two_68 : decode cX7_two 68 = .ok (.aload_n 0, 1) := by decide +kernel
theorem dX7_two_69 : decode cX7_two 69 = .ok (.iconst 2, 1) := by decide +kernel
theorem dX7_two_70 : decode cX7_two 70 = .ok (.iload_n 3, 1) := by decide +kernel
theorem dX7_two_71 : decode cX7_two 71 = .ok (.invokevirtual 107, 3) := by decide +kernel
theorem dX7_two_74 : decode cX7_two 74 = .ok (.iload_n 1, 1) := by decide +kernel
theorem dX7_two_75 : decode cX7_two 75 = .ok (.tableswitch 90 0 4 #[33, 45, 57, 68, 79], 33) := by decide +kernel
theorem dX7_two_108 : decode cX7_two 108 = .ok (.aload_n 0, 1) := by decide +kernel
theorem dX7_two_109 : decode cX7_two 109 = .ok (.aload_n 0, 1) := by decide +kernel
theorem dX7_two_110 : decode cX7_two 110 = .ok (.iconst 1, 1) := by decide +kernel
theorem dX7_two_111 : decode cX7_two 111 = .ok (.iconst 2, 1) := by decide +kernel
theorem dX7_two_112 : decode cX7_two 112 = .ok (.iconst 0, 1) := by decide +kernel
theorem dX7_two_113 : decode cX7_two 113 = .ok (.invokevirtual 139, 3) := by decide +kernel
theorem dX7_two_116 : decode cX7_two 116 = .ok (.invokevirtual 132, 3) := by decide +kernel
theorem dX7_two_119 : decode cX7_two 119 = .ok (.ireturn, 1) := by decide +kernel
theorem dX7_two_120 : decode cX7_two 120 = .ok (.aload_n 0, 1) := by decide +kernel
theorem dX7_two_121 : decode cX7_two 121 = .ok (.aload_n 0, 1) := by decide +kernel
theorem dX7_two_122 : decode cX7_two 122 = .ok (.iconst 1, 1) := by decide +kernel
theorem dX7_two_123 : decode cX7_two 123 = .ok (.iconst 2, 1) := by decide +kernel
theorem dX7_two_124 : decode cX7_two 124 = .ok (.iconst 1, 1) := by decide +kernel
theorem dX7_two_125 : decode cX7_two 125 = .ok (.invokevirtual 139, 3) := by decide +kernel
theorem dX7_two_128 : decode cX7_two 128 = .ok (.invokevirtual 132, 3) := by decide +kernel
theorem dX7_two_131 : decode cX7_two 131 = .ok (.ireturn, 1) := by decide +kernel
theorem dX7_two_132 : decode cX7_two 132 = .ok (.aload_n 0, 1) := by decide +kernel
theorem dX7_two_133 : decode cX7_two 133 = .ok (.aload_n 0, 1) := by decide +kernel
theorem dX7_two_134 : decode cX7_two 134 = .ok (.iconst 1, 1) := by decide +kernel
theorem dX7_two_135 : decode cX7_two 135 = .ok (.iconst 2, 1) := by decide +kernel
theorem dX7_two_136 : decode cX7_two 136 = .ok (.invokevirtual 143, 3) := by decide +kernel
theorem dX7_two_139 : decode cX7_two 139 = .ok (.invokevirtual 132, 3) := by decide +kernel
theorem dX7_two_142 : decode cX7_two 142 = .ok (.ireturn, 1) := by decide +kernel
theorem dX7_two_143 : decode cX7_two 143 = .ok (.aload_n 0, 1) := by decide +kernel
theorem dX7_two_144 : decode cX7_two 144 = .ok (.aload_n 0, 1) := by decide +kernel
theorem dX7_two_145 : decode cX7_two 145 = .ok (.iconst 1, 1) := by decide +kernel
theorem dX7_two_146 : decode cX7_two 146 = .ok (.iconst 2, 1) := by decide +kernel
theorem dX7_two_147 : decode cX7_two 147 = .ok (.invokevirtual 147, 3) := by decide +kernel
theorem dX7_two_150 : decode cX7_two 150 = .ok (.invokevirtual 132, 3) := by decide +kernel
theorem dX7_two_153 : decode cX7_two 153 = .ok (.ireturn, 1) := by decide +kernel
theorem dX7_two_154 : decode cX7_two 154 = .ok (.aload_n 0, 1) := by decide +kernel
theorem dX7_two_155 : decode cX7_two 155 = .ok (.aload_n 0, 1) := by decide +kernel
theorem dX7_two_156 : decode cX7_two 156 = .ok (.iconst 1, 1) := by decide +kernel
theorem dX7_two_157 : decode cX7_two 157 = .ok (.iconst 2, 1) := by decide +kernel
theorem dX7_two_158 : decode cX7_two 158 = .ok (.invokevirtual 150, 3) := by decide +kernel
theorem dX7_two_161 : decode cX7_two 161 = .ok (.invokevirtual 132, 3) := by decide +kernel
theorem dX7_two_164 : decode cX7_two 164 = .ok (.ireturn, 1) := by decide +kernel
theorem dX7_two_165 : decode cX7_two 165 = .ok (.aload_n 0, 1) := by decide +kernel
theorem dX7_two_166 : decode cX7_two 166 = .ok (.aload_n 0, 1) := by decide +kernel
theorem dX7_two_167 : decode cX7_two 167 = .ok (.iconst 1, 1) := by decide +kernel
theorem dX7_two_168 : decode cX7_two 168 = .ok (.iconst 2, 1) := by decide +kernel
theorem dX7_two_169 : decode cX7_two 169 = .ok (.invokevirtual 153, 3) := by decide +kernel
theorem dX7_two_172 : decode cX7_two 172 = .ok (.invokevirtual 132, 3) := by decide +kernel
theorem dX7_two_175 : decode cX7_two 175 = .ok (.ireturn, 1) := by decide +kernel
theorem dX7_add_0 : decode cX7_add 0 = .ok (.aload_n 0, 1) := by decide +kernel
theorem dX7_add_1 : decode cX7_add 1 = .ok (.iconst 0, 1) := by decide +kernel
theorem dX7_add_2 : decode cX7_add 2 = .ok (.iload_n 1, 1) := by decide +kernel
theorem dX7_add_3 : decode cX7_add 3 = .ok (.iload_n 2, 1) := by decide +kernel
theorem dX7_add_4 : decode cX7_add 4 = .ok (.invokevirtual 156, 3) := by decide +kernel
theorem dX7_add_7 : decode cX7_add 7 = .ok (.ireturn, 1) := by decide +kernel
theorem dX7_less_0 : decode cX7_less 0 = .ok (.aload_n 0, 1) := by decide +kernel
theorem dX7_less_1 : decode cX7_less 1 = .ok (.iconst 1, 1) := by decide +kernel
theorem dX7_less_2 : decode cX7_less 2 = .ok (.iload_n 1, 1) := by decide +kernel
theorem dX7_less_3 : decode cX7_less 3 = .ok (.iload_n 2, 1) := by decide +kernel
theorem dX7_less_4 : decode cX7_less 4 = .ok (.invokevirtual 156, 3) := by decide +kernel
theorem dX7_less_7 : decode cX7_less 7 = .ok (.ireturn, 1) := by decide +kernel
theorem dX7_times_0 : decode cX7_times 0 = .ok (.aload_n 0, 1) := by decide +kernel
theorem dX7_times_1 : decode cX7_times 1 = .ok (.iconst 2, 1) := by decide +kernel
theorem dX7_times_2 : decode cX7_times 2 = .ok (.iload_n 1, 1) := by decide +kernel
theorem dX7_times_3 : decode cX7_times 3 = .ok (.iload_n 2, 1) := by decide +kernel
theorem dX7_times_4 : decode cX7_times 4 = .ok (.invokevirtual 156, 3) := by decide +kernel
theorem dX7_times_7 : decode cX7_times 7 = .ok (.ireturn, 1) := by decide +kernel
theorem dX7_over_0 : decode cX7_over 0 = .ok (.aload_n 0, 1) := by decide +kernel
theorem dX7_over_1 : decode cX7_over 1 = .ok (.iconst 3, 1) := by decide +kernel
theorem dX7_over_2 : decode cX7_over 2 = .ok (.iload_n 1, 1) := by decide +kernel
theorem dX7_over_3 : decode cX7_over 3 = .ok (.iload_n 2, 1) := by decide +kernel
theorem dX7_over_4 : decode cX7_over 4 = .ok (.invokevirtual 156, 3) := by decide +kernel
theorem dX7_over_7 : decode cX7_over 7 = .ok (.ireturn, 1) := by decide +kernel
theorem dX7_rest_0 : decode cX7_rest 0 = .ok (.aload_n 0, 1) := by decide +kernel
theorem dX7_rest_1 : decode cX7_rest 1 = .ok (.iconst 4, 1) := by decide +kernel
theorem dX7_rest_2 : decode cX7_rest 2 = .ok (.iload_n 1, 1) := by decide +kernel
theorem dX7_rest_3 : decode cX7_rest 3 = .ok (.iload_n 2, 1) := by decide +kernel
theorem dX7_rest_4 : decode cX7_rest 4 = .ok (.invokevirtual 156, 3) := by decide +kernel
theorem dX7_rest_7 : decode cX7_rest 7 = .ok (.ireturn, 1) := by decide +kernel
theorem dX7_measure_0 : decode cX7_measure 0 = .ok (.aload_n 0, 1) := by decide +kernel
theorem dX7_measure_1 : decode cX7_measure 1 = .ok (.iconst 5, 1) := by decide +kernel
theorem dX7_measure_2 : decode cX7_measure 2 = .ok (.iload_n 1, 1) := by decide +kernel
theorem dX7_measure_3 : decode cX7_measure 3 = .ok (.iload_n 2, 1) := by decide +kernel
theorem dX7_measure_4 : decode cX7_measure 4 = .ok (.invokevirtual 156, 3) := by decide +kernel
theorem dX7_measure_7 : decode cX7_measure 7 = .ok (.ireturn, 1) := by decide +kernel
theorem dX7_whole_0 : decode cX7_whole 0 = .ok (.aload_n 0, 1) := by decide +kernel
theorem dX7_whole_1 : decode cX7_whole 1 = .ok (.iconst 0, 1) := by decide +kernel
theorem dX7_whole_2 : decode cX7_whole 2 = .ok (.putfield 47, 3) := by decide +kernel
theorem dX7_whole_5 : decode cX7_whole 5 = .ok (.aload_n 0, 1) := by decide +kernel
theorem dX7_whole_6 : decode cX7_whole 6 = .ok (.iload_n 1, 1) := by decide +kernel
theorem dX7_whole_7 : decode cX7_whole 7 = .ok (.invokevirtual 136, 3) := by decide +kernel
theorem dX7_whole_10 : decode cX7_whole 10 = .ok (.ifCond .eq 12, 3) := by decide +kernel
theorem dX7_whole_13 : decode cX7_whole 13 = .ok (.iload_n 2, 1) := by decide +kernel
theorem dX7_whole_14 : decode cX7_whole 14 = .ok (.ifCond .lt 8, 3) := by decide +kernel
theorem dX7_whole_17 : decode cX7_whole 17 = .ok (.iload_n 2, 1) := by decide +kernel
theorem dX7_whole_18 : decode cX7_whole 18 = .ok (.iconst 3, 1) := by decide +kernel
theorem dX7_whole_19 : decode cX7_whole 19 = .ok (.if_icmp .le 6, 3) := by decide +kernel
theorem dX7_whole_22 : decode cX7_whole 22 = .ok (.bipush (-2), 2) := by decide +kernel
theorem dX7_whole_24 : decode cX7_whole 24 = .ok (.ireturn, 1) := by decide +kernel
theorem dX7_whole_25 : decode cX7_whole 25 = .ok (.aload_n 0, 1) := by decide +kernel
theorem dX7_whole_26 : decode cX7_whole 26 = .ok (.getfield 113, 3) := by decide +kernel
theorem dX7_whole_29 : decode cX7_whole 29 = .ok (.sipush 240, 3) := by decide +kernel
theorem dX7_whole_32 : decode cX7_whole 32 = .ok (.if_icmp .ne 6, 3) := by decide +kernel
theorem dX7_whole_35 : decode cX7_whole 35 = .ok (.bipush (-3), 2) := by decide +kernel
theorem dX7_whole_37 : decode cX7_whole 37 = .ok (.ireturn, 1) := by decide +kernel
theorem dX7_whole_38 : decode cX7_whole 38 = .ok (.aload_n 0, 1) := by decide +kernel
theorem dX7_whole_39 : decode cX7_whole 39 = .ok (.iconst 1, 1) := by decide +kernel
theorem dX7_whole_40 : decode cX7_whole 40 = .ok (.iload_n 1, 1) := by decide +kernel
theorem dX7_whole_41 : decode cX7_whole 41 = .ok (.invokevirtual 107, 3) := by decide +kernel
theorem dX7_whole_44 : decode cX7_whole 44 = .ok (.aload_n 0, 1) := by decide +kernel
theorem dX7_whole_45 : decode cX7_whole 45 = .ok (.bipush 12, 2) := by decide +kernel
theorem dX7_whole_47 : decode cX7_whole 47 = .ok (.iconst 2, 1) := by decide +kernel
theorem dX7_whole_48 : decode cX7_whole 48 = .ok (.invokevirtual 82, 3) := by decide +kernel
theorem dX7_whole_51 : decode cX7_whole 51 = .ok (.aload_n 0, 1) := by decide +kernel
theorem dX7_whole_52 : decode cX7_whole 52 = .ok (.bipush 12, 2) := by decide +kernel
theorem dX7_whole_54 : decode cX7_whole 54 = .ok (.iconst 3, 1) := by decide +kernel
theorem dX7_whole_55 : decode cX7_whole 55 = .ok (.iconst 0, 1) := by decide +kernel
theorem dX7_whole_56 : decode cX7_whole 56 = .ok (.invokevirtual 85, 3) := by decide +kernel
theorem dX7_whole_59 : decode cX7_whole 59 = .ok (.iconst 0, 1) := by decide +kernel
theorem dX7_whole_60 : decode cX7_whole 60 = .ok (.istore_n 3, 1) := by decide +kernel
theorem dX7_whole_61 : decode cX7_whole 61 = .ok (.aload_n 0, 1) := by decide +kernel
theorem dX7_whole_62 : decode cX7_whole 62 = .ok (.getfield 13, 3) := by decide +kernel
theorem dX7_whole_65 : decode cX7_whole 65 = .ok (.bipush 12, 2) := by decide +kernel
theorem dX7_whole_67 : decode cX7_whole 67 = .ok (.iaload, 1) := by decide +kernel
theorem dX7_whole_68 : decode cX7_whole 68 = .ok (.ifCond .le 110, 3) := by decide +kernel
theorem dX7_whole_71 : decode cX7_whole 71 = .ok (.aload_n 0, 1) := by decide +kernel
theorem dX7_whole_72 : decode cX7_whole 72 = .ok (.bipush 10, 2) := by decide +kernel
theorem dX7_whole_74 : decode cX7_whole 74 = .ok (.bipush 12, 2) := by decide +kernel
theorem dX7_whole_76 : decode cX7_whole 76 = .ok (.bipush 12, 2) := by decide +kernel
theorem dX7_whole_78 : decode cX7_whole 78 = .ok (.invokevirtual 100, 3) := by decide +kernel
theorem dX7_whole_81 : decode cX7_whole 81 = .ok (.aload_n 0, 1) := by decide +kernel
theorem dX7_whole_82 : decode cX7_whole 82 = .ok (.bipush 10, 2) := by decide +kernel
theorem dX7_whole_84 : decode cX7_whole 84 = .ok (.iconst 3, 1) := by decide +kernel
theorem dX7_whole_85 : decode cX7_whole 85 = .ok (.invokevirtual 91, 3) := by decide +kernel
theorem dX7_whole_88 : decode cX7_whole 88 = .ok (.istore 4, 2) := by decide +kernel
theorem dX7_whole_90 : decode cX7_whole 90 = .ok (.aload_n 0, 1) := by decide +kernel
theorem dX7_whole_91 : decode cX7_whole 91 = .ok (.iconst 0, 1) := by decide +kernel
theorem dX7_whole_92 : decode cX7_whole 92 = .ok (.iconst 0, 1) := by decide +kernel
theorem dX7_whole_93 : decode cX7_whole 93 = .ok (.invokevirtual 53, 3) := by decide +kernel
theorem dX7_whole_96 : decode cX7_whole 96 = .ok (.iconst 2, 1) := by decide +kernel
theorem dX7_whole_97 : decode cX7_whole 97 = .ok (.irem, 1) := by decide +kernel
theorem dX7_whole_98 : decode cX7_whole 98 = .ok (.iconst 1, 1) := by decide +kernel
theorem dX7_whole_99 : decode cX7_whole 99 = .ok (.if_icmp .ne 7, 3) := by decide +kernel
theorem dX7_whole_102 : decode cX7_whole 102 = .ok (.iconst 1, 1) := by decide +kernel
theorem dX7_whole_103 : decode cX7_whole 103 = .ok (.goto 4, 3) := by decide +kernel
theorem dX7_whole_106 : decode cX7_whole 106 = .ok (.iconst 0, 1) := by decide +kernel
theorem dX7_whole_107 : decode cX7_whole 107 = .ok (.istore 5, 2) := by decide +kernel
theorem dX7_whole_109 : decode cX7_whole 109 = .ok (.iload_n 2, 1) := by decide +kernel
theorem dX7_whole_110 : decode cX7_whole 110 = .ok (.ifCond .ne 20, 3) := by decide +kernel
theorem dX7_whole_113 : decode cX7_whole 113 = .ok (.aload_n 0, 1) := by decide +kernel
theorem dX7_whole_114 : decode cX7_whole 114 = .ok (.getfield 16, 3) := by decide +kernel
theorem dX7_whole_117 : decode cX7_whole 117 = .ok (.iconst 1, 1) := by decide +kernel
theorem dX7_whole_118 : decode cX7_whole 118 = .ok (.iaload, 1) := by decide +kernel
theorem dX7_whole_119 : decode cX7_whole 119 = .ok (.ifCond .ge 7, 3) := by decide +kernel
theorem dX7_whole_122 : decode cX7_whole 122 = .ok (.iconst 1, 1) := by decide +kernel
theorem dX7_whole_123 : decode cX7_whole 123 = .ok (.goto 54, 3) := by decide +kernel
theorem dX7_whole_126 : decode cX7_whole 126 = .ok (.iconst 0, 1) := by decide +kernel
theorem dX7_whole_127 : decode cX7_whole 127 = .ok (.goto 50, 3) := by decide +kernel
theorem dX7_whole_130 : decode cX7_whole 130 = .ok (.iload_n 2, 1) := by decide +kernel
theorem dX7_whole_131 : decode cX7_whole 131 = .ok (.iconst 1, 1) := by decide +kernel
theorem dX7_whole_132 : decode cX7_whole 132 = .ok (.if_icmp .ne 20, 3) := by decide +kernel
theorem dX7_whole_135 : decode cX7_whole 135 = .ok (.aload_n 0, 1) := by decide +kernel
theorem dX7_whole_136 : decode cX7_whole 136 = .ok (.getfield 16, 3) := by decide +kernel
theorem dX7_whole_139 : decode cX7_whole 139 = .ok (.iconst 1, 1) := by decide +kernel
theorem dX7_whole_140 : decode cX7_whole 140 = .ok (.iaload, 1) := by decide +kernel
theorem dX7_whole_141 : decode cX7_whole 141 = .ok (.ifCond .le 7, 3) := by decide +kernel
theorem dX7_whole_144 : decode cX7_whole 144 = .ok (.iconst 1, 1) := by decide +kernel
theorem dX7_whole_145 : decode cX7_whole 145 = .ok (.goto 32, 3) := by decide +kernel
theorem dX7_whole_148 : decode cX7_whole 148 = .ok (.iconst 0, 1) := by decide +kernel
theorem dX7_whole_149 : decode cX7_whole 149 = .ok (.goto 28, 3) := by decide +kernel
theorem dX7_whole_152 : decode cX7_whole 152 = .ok (.iload_n 2, 1) := by decide +kernel
theorem dX7_whole_153 : decode cX7_whole 153 = .ok (.iconst 2, 1) := by decide +kernel
theorem dX7_whole_154 : decode cX7_whole 154 = .ok (.if_icmp .ne 22, 3) := by decide +kernel
theorem dX7_whole_157 : decode cX7_whole 157 = .ok (.iload 4, 2) := by decide +kernel
theorem dX7_whole_159 : decode cX7_whole 159 = .ok (.ifCond .gt 13, 3) := by decide +kernel
theorem dX7_whole_162 : decode cX7_whole 162 = .ok (.iload 4, 2) := by decide +kernel
theorem dX7_whole_164 : decode cX7_whole 164 = .ok (.ifCond .ne 12, 3) := by decide +kernel
theorem dX7_whole_167 : decode cX7_whole 167 = .ok (.iload 5, 2) := by decide +kernel
theorem dX7_whole_169 : decode cX7_whole 169 = .ok (.ifCond .eq 7, 3) := by decide +kernel
theorem dX7_whole_172 : decode cX7_whole 172 = .ok (.iconst 1, 1) := by decide +kernel
theorem dX7_whole_173 : decode cX7_whole 173 = .ok (.goto 4, 3) := by decide +kernel
theorem dX7_whole_176 : decode cX7_whole 176 = .ok (.iconst 0, 1) := by decide +kernel
theorem dX7_whole_177 : decode cX7_whole 177 = .ok (.istore_n 3, 1) := by decide +kernel
theorem dX7_whole_178 : decode cX7_whole 178 = .ok (.iload_n 3, 1) := by decide +kernel
theorem dX7_whole_179 : decode cX7_whole 179 = .ok (.ifCond .eq 11, 3) := by decide +kernel
theorem dX7_whole_182 : decode cX7_whole 182 = .ok (.aload_n 0, 1) := by decide +kernel
theorem dX7_whole_183 : decode cX7_whole 183 = .ok (.iconst 0, 1) := by decide +kernel
theorem dX7_whole_184 : decode cX7_whole 184 = .ok (.iconst 0, 1) := by decide +kernel
theorem dX7_whole_185 : decode cX7_whole 185 = .ok (.bipush 18, 2) := by decide +kernel
theorem dX7_whole_187 : decode cX7_whole 187 = .ok (.invokevirtual 100, 3) := by decide +kernel
theorem dX7_whole_190 : decode cX7_whole 190 = .ok (.aload_n 0, 1) := by decide +kernel
theorem dX7_whole_191 : decode cX7_whole 191 = .ok (.getfield 16, 3) := by decide +kernel
theorem dX7_whole_194 : decode cX7_whole 194 = .ok (.iconst 0, 1) := by decide +kernel
theorem dX7_whole_195 : decode cX7_whole 195 = .ok (.aload_n 0, 1) := by decide +kernel
theorem dX7_whole_196 : decode cX7_whole 196 = .ok (.getfield 13, 3) := by decide +kernel
theorem dX7_whole_199 : decode cX7_whole 199 = .ok (.iconst 0, 1) := by decide +kernel
theorem dX7_whole_200 : decode cX7_whole 200 = .ok (.iaload, 1) := by decide +kernel
theorem dX7_whole_201 : decode cX7_whole 201 = .ok (.ifCond .ne 7, 3) := by decide +kernel
theorem dX7_whole_204 : decode cX7_whole 204 = .ok (.iconst 0, 1) := by decide +kernel
theorem dX7_whole_205 : decode cX7_whole 205 = .ok (.goto 9, 3) := by decide +kernel
theorem dX7_whole_208 : decode cX7_whole 208 = .ok (.aload_n 0, 1) := by decide +kernel
theorem dX7_whole_209 : decode cX7_whole 209 = .ok (.getfield 16, 3) := by decide +kernel
theorem dX7_whole_212 : decode cX7_whole 212 = .ok (.iconst 1, 1) := by decide +kernel
theorem dX7_whole_213 : decode cX7_whole 213 = .ok (.iaload, 1) := by decide +kernel
theorem dX7_whole_214 : decode cX7_whole 214 = .ok (.iastore, 1) := by decide +kernel
theorem dX7_whole_215 : decode cX7_whole 215 = .ok (.aload_n 0, 1) := by decide +kernel
theorem dX7_whole_216 : decode cX7_whole 216 = .ok (.iconst 1, 1) := by decide +kernel
theorem dX7_whole_217 : decode cX7_whole 217 = .ok (.lconst 1, 1) := by decide +kernel
theorem dX7_whole_218 : decode cX7_whole 218 = .ok (.invokevirtual 43, 3) := by decide +kernel
theorem dX7_whole_221 : decode cX7_whole 221 = .ok (.aload_n 0, 1) := by decide +kernel
theorem dX7_whole_222 : decode cX7_whole 222 = .ok (.iconst 1, 1) := by decide +kernel
theorem dX7_whole_223 : decode cX7_whole 223 = .ok (.invokevirtual 132, 3) := by decide +kernel
theorem dX7_whole_226 : decode cX7_whole 226 = .ok (.ireturn, 1) := by decide +kernel
theorem dX7_compareFractions_0 : decode cX7_compareFractions 0 = .ok (.aload_n 0, 1) := by decide +kernel
theorem dX7_compareFractions_1 : decode cX7_compareFractions 1 = .ok (.getfield 16, 3) := by decide +kernel
theorem dX7_compareFractions_4 : decode cX7_compareFractions 4 = .ok (.iload_n 1, 1) := by decide +kernel
theorem dX7_compareFractions_5 : decode cX7_compareFractions 5 = .ok (.iaload, 1) := by decide +kernel
theorem dX7_compareFractions_6 : decode cX7_compareFractions 6 = .ok (.aload_n 0, 1) := by decide +kernel
theorem dX7_compareFractions_7 : decode cX7_compareFractions 7 = .ok (.getfield 16, 3) := by decide +kernel
theorem dX7_compareFractions_10 : decode cX7_compareFractions 10 = .ok (.iload_n 2, 1) := by decide +kernel
theorem dX7_compareFractions_11 : decode cX7_compareFractions 11 = .ok (.iaload, 1) := by decide +kernel
theorem dX7_compareFractions_12 : decode cX7_compareFractions 12 = .ok (.if_icmp .eq 24, 3) := by decide +kernel
theorem dX7_compareFractions_15 : decode cX7_compareFractions 15 = .ok (.aload_n 0, 1) := by decide +kernel
theorem dX7_compareFractions_16 : decode cX7_compareFractions 16 = .ok (.getfield 16, 3) := by decide +kernel
theorem dX7_compareFractions_19 : decode cX7_compareFractions 19 = .ok (.iload_n 1, 1) := by decide +kernel
theorem dX7_compareFractions_20 : decode cX7_compareFractions 20 = .ok (.iaload, 1) := by decide +kernel
theorem dX7_compareFractions_21 : decode cX7_compareFractions 21 = .ok (.aload_n 0, 1) := by decide +kernel
theorem dX7_compareFractions_22 : decode cX7_compareFractions 22 = .ok (.getfield 16, 3) := by decide +kernel
theorem dX7_compareFractions_25 : decode cX7_compareFractions 25 = .ok (.iload_n 2, 1) := by decide +kernel
theorem dX7_compareFractions_26 : decode cX7_compareFractions 26 = .ok (.iaload, 1) := by decide +kernel
theorem dX7_compareFractions_27 : decode cX7_compareFractions 27 = .ok (.if_icmp .ge 7, 3) := by decide +kernel
theorem dX7_compareFractions_30 : decode cX7_compareFractions 30 = .ok (.iconst (-1), 1) := by decide +kernel
theorem dX7_compareFractions_31 : decode cX7_compareFractions 31 = .ok (.goto 4, 3) := by decide +kernel
theorem dX7_compareFractions_34 : decode cX7_compareFractions 34 = .ok (.iconst 1, 1) := by decide +kernel
theorem dX7_compareFractions_35 : decode cX7_compareFractions 35 = .ok (.ireturn, 1) := by decide +kernel
theorem dX7_compareFractions_36 : decode cX7_compareFractions 36 = .ok (.aload_n 0, 1) := by decide +kernel
theorem dX7_compareFractions_37 : decode cX7_compareFractions 37 = .ok (.iload_n 1, 1) := by decide +kernel
theorem dX7_compareFractions_38 : decode cX7_compareFractions 38 = .ok (.iload_n 2, 1) := by decide +kernel
theorem dX7_compareFractions_39 : decode cX7_compareFractions 39 = .ok (.invokevirtual 97, 3) := by decide +kernel
theorem dX7_compareFractions_42 : decode cX7_compareFractions 42 = .ok (.aload_n 0, 1) := by decide +kernel
theorem dX7_compareFractions_43 : decode cX7_compareFractions 43 = .ok (.getfield 16, 3) := by decide +kernel
theorem dX7_compareFractions_46 : decode cX7_compareFractions 46 = .ok (.iload_n 1, 1) := by decide +kernel
theorem dX7_compareFractions_47 : decode cX7_compareFractions 47 = .ok (.iaload, 1) := by decide +kernel
theorem dX7_compareFractions_48 : decode cX7_compareFractions 48 = .ok (.ifCond .ge 14, 3) := by decide +kernel
theorem dX7_compareFractions_51 : decode cX7_compareFractions 51 = .ok (.aload_n 0, 1) := by decide +kernel
theorem dX7_compareFractions_52 : decode cX7_compareFractions 52 = .ok (.bipush 11, 2) := by decide +kernel
theorem dX7_compareFractions_54 : decode cX7_compareFractions 54 = .ok (.bipush 10, 2) := by decide +kernel
theorem dX7_compareFractions_56 : decode cX7_compareFractions 56 = .ok (.invokevirtual 91, 3) := by decide +kernel
theorem dX7_compareFractions_59 : decode cX7_compareFractions 59 = .ok (.goto 11, 3) := by decide +kernel
theorem dX7_compareFractions_62 : decode cX7_compareFractions 62 = .ok (.aload_n 0, 1) := by decide +kernel
theorem dX7_compareFractions_63 : decode cX7_compareFractions 63 = .ok (.bipush 10, 2) := by decide +kernel
theorem dX7_compareFractions_65 : decode cX7_compareFractions 65 = .ok (.bipush 11, 2) := by decide +kernel
theorem dX7_compareFractions_67 : decode cX7_compareFractions 67 = .ok (.invokevirtual 91, 3) := by decide +kernel
theorem dX7_compareFractions_70 : decode cX7_compareFractions 70 = .ok (.ireturn, 1) := by decide +kernel
theorem dX7_order_0 : decode cX7_order 0 = .ok (.aload_n 0, 1) := by decide +kernel
theorem dX7_order_1 : decode cX7_order 1 = .ok (.iconst 0, 1) := by decide +kernel
theorem dX7_order_2 : decode cX7_order 2 = .ok (.putfield 47, 3) := by decide +kernel
theorem dX7_order_5 : decode cX7_order 5 = .ok (.aload_n 0, 1) := by decide +kernel
theorem dX7_order_6 : decode cX7_order 6 = .ok (.iload_n 1, 1) := by decide +kernel
theorem dX7_order_7 : decode cX7_order 7 = .ok (.invokevirtual 136, 3) := by decide +kernel
theorem dX7_order_10 : decode cX7_order 10 = .ok (.ifCond .eq 11, 3) := by decide +kernel
theorem dX7_order_13 : decode cX7_order 13 = .ok (.aload_n 0, 1) := by decide +kernel
theorem dX7_order_14 : decode cX7_order 14 = .ok (.iload_n 2, 1) := by decide +kernel
theorem dX7_order_15 : decode cX7_order 15 = .ok (.invokevirtual 136, 3) := by decide +kernel
theorem dX7_order_18 : decode cX7_order 18 = .ok (.ifCond .ne 6, 3) := by decide +kernel
theorem dX7_order_21 : decode cX7_order 21 = .ok (.bipush (-2), 2) := by decide +kernel
theorem dX7_order_23 : decode cX7_order 23 = .ok (.ireturn, 1) := by decide +kernel
theorem dX7_order_24 : decode cX7_order 24 = .ok (.aload_n 0, 1) := by decide +kernel
theorem dX7_order_25 : decode cX7_order 25 = .ok (.iconst 1, 1) := by decide +kernel
theorem dX7_order_26 : decode cX7_order 26 = .ok (.iload_n 1, 1) := by decide +kernel
theorem dX7_order_27 : decode cX7_order 27 = .ok (.invokevirtual 107, 3) := by decide +kernel
theorem dX7_order_30 : decode cX7_order 30 = .ok (.aload_n 0, 1) := by decide +kernel
theorem dX7_order_31 : decode cX7_order 31 = .ok (.iconst 2, 1) := by decide +kernel
theorem dX7_order_32 : decode cX7_order 32 = .ok (.iload_n 2, 1) := by decide +kernel
theorem dX7_order_33 : decode cX7_order 33 = .ok (.invokevirtual 107, 3) := by decide +kernel
theorem dX7_order_36 : decode cX7_order 36 = .ok (.aload_n 0, 1) := by decide +kernel
theorem dX7_order_37 : decode cX7_order 37 = .ok (.iconst 1, 1) := by decide +kernel
theorem dX7_order_38 : decode cX7_order 38 = .ok (.iconst 2, 1) := by decide +kernel
theorem dX7_order_39 : decode cX7_order 39 = .ok (.invokevirtual 159, 3) := by decide +kernel
theorem dX7_order_42 : decode cX7_order 42 = .ok (.ireturn, 1) := by decide +kernel
theorem dX7_isLong_0 : decode cX7_isLong 0 = .ok (.aload_n 0, 1) := by decide +kernel
theorem dX7_isLong_1 : decode cX7_isLong 1 = .ok (.iload_n 1, 1) := by decide +kernel
theorem dX7_isLong_2 : decode cX7_isLong 2 = .ok (.invokevirtual 70, 3) := by decide +kernel
theorem dX7_isLong_5 : decode cX7_isLong 5 = .ok (.bipush 64, 2) := by decide +kernel
theorem dX7_isLong_7 : decode cX7_isLong 7 = .ok (.if_icmp .lt 29, 3) := by decide +kernel
theorem dX7_isLong_10 : decode cX7_isLong 10 = .ok (.iload_n 2, 1) := by decide +kernel
theorem dX7_isLong_11 : decode cX7_isLong 11 = .ok (.ifCond .ge 29, 3) := by decide +kernel
theorem dX7_isLong_14 : decode cX7_isLong 14 = .ok (.aload_n 0, 1) := by decide +kernel
theorem dX7_isLong_15 : decode cX7_isLong 15 = .ok (.iload_n 1, 1) := by decide +kernel
theorem dX7_isLong_16 : decode cX7_isLong 16 = .ok (.invokevirtual 70, 3) := by decide +kernel
theorem dX7_isLong_19 : decode cX7_isLong 19 = .ok (.bipush 64, 2) := by decide +kernel
theorem dX7_isLong_21 : decode cX7_isLong 21 = .ok (.if_icmp .ne 19, 3) := by decide +kernel
theorem dX7_isLong_24 : decode cX7_isLong 24 = .ok (.aload_n 0, 1) := by decide +kernel
theorem dX7_isLong_25 : decode cX7_isLong 25 = .ok (.iload_n 1, 1) := by decide +kernel
theorem dX7_isLong_26 : decode cX7_isLong 26 = .ok (.invokevirtual 66, 3) := by decide +kernel
theorem dX7_isLong_29 : decode cX7_isLong 29 = .ok (.ldc2_w 164, 3) := by decide +kernel
theorem dX7_isLong_32 : decode cX7_isLong 32 = .ok (.lcmp, 1) := by decide +kernel
theorem dX7_isLong_33 : decode cX7_isLong 33 = .ok (.ifCond .ne 7, 3) := by decide +kernel
theorem dX7_isLong_36 : decode cX7_isLong 36 = .ok (.iconst 1, 1) := by decide +kernel
theorem dX7_isLong_37 : decode cX7_isLong 37 = .ok (.goto 4, 3) := by decide +kernel
theorem dX7_isLong_40 : decode cX7_isLong 40 = .ok (.iconst 0, 1) := by decide +kernel
theorem dX7_isLong_41 : decode cX7_isLong 41 = .ok (.ireturn, 1) := by decide +kernel
theorem dX7_isSmall_0 : decode cX7_isSmall 0 = .ok (.aload_n 0, 1) := by decide +kernel
theorem dX7_isSmall_1 : decode cX7_isSmall 1 = .ok (.iconst 1, 1) := by decide +kernel
theorem dX7_isSmall_2 : decode cX7_isSmall 2 = .ok (.iload_n 1, 1) := by decide +kernel
theorem dX7_isSmall_3 : decode cX7_isSmall 3 = .ok (.invokevirtual 107, 3) := by decide +kernel
theorem dX7_isSmall_6 : decode cX7_isSmall 6 = .ok (.aload_n 0, 1) := by decide +kernel
theorem dX7_isSmall_7 : decode cX7_isSmall 7 = .ok (.iconst 2, 1) := by decide +kernel
theorem dX7_isSmall_8 : decode cX7_isSmall 8 = .ok (.aload_n 0, 1) := by decide +kernel
theorem dX7_isSmall_9 : decode cX7_isSmall 9 = .ok (.getfield 16, 3) := by decide +kernel
theorem dX7_isSmall_12 : decode cX7_isSmall 12 = .ok (.iconst 1, 1) := by decide +kernel
theorem dX7_isSmall_13 : decode cX7_isSmall 13 = .ok (.iaload, 1) := by decide +kernel
theorem dX7_isSmall_14 : decode cX7_isSmall 14 = .ok (.invokevirtual 166, 3) := by decide +kernel
theorem dX7_isSmall_17 : decode cX7_isSmall 17 = .ok (.ifCond .eq 16, 3) := by decide +kernel
theorem dX7_isSmall_20 : decode cX7_isSmall 20 = .ok (.aload_n 0, 1) := by decide +kernel
theorem dX7_isSmall_21 : decode cX7_isSmall 21 = .ok (.iconst 3, 1) := by decide +kernel
theorem dX7_isSmall_22 : decode cX7_isSmall 22 = .ok (.iconst 1, 1) := by decide +kernel
theorem dX7_isSmall_23 : decode cX7_isSmall 23 = .ok (.invokevirtual 166, 3) := by decide +kernel
theorem dX7_isSmall_26 : decode cX7_isSmall 26 = .ok (.ifCond .eq 7, 3) := by decide +kernel
theorem dX7_isSmall_29 : decode cX7_isSmall 29 = .ok (.iconst 1, 1) := by decide +kernel
theorem dX7_isSmall_30 : decode cX7_isSmall 30 = .ok (.goto 4, 3) := by decide +kernel
theorem dX7_isSmall_33 : decode cX7_isSmall 33 = .ok (.iconst 0, 1) := by decide +kernel
theorem dX7_isSmall_34 : decode cX7_isSmall 34 = .ok (.ireturn, 1) := by decide +kernel
theorem dX7_of_0 : decode cX7_of 0 = .ok (.aload_n 0, 1) := by decide +kernel
theorem dX7_of_1 : decode cX7_of 1 = .ok (.iconst 0, 1) := by decide +kernel
theorem dX7_of_2 : decode cX7_of 2 = .ok (.putfield 47, 3) := by decide +kernel
theorem dX7_of_5 : decode cX7_of 5 = .ok (.aload_n 0, 1) := by decide +kernel
theorem dX7_of_6 : decode cX7_of 6 = .ok (.iload_n 1, 1) := by decide +kernel
theorem dX7_of_7 : decode cX7_of 7 = .ok (.invokevirtual 136, 3) := by decide +kernel
theorem dX7_of_10 : decode cX7_of 10 = .ok (.ifCond .eq 12, 3) := by decide +kernel
theorem dX7_of_13 : decode cX7_of 13 = .ok (.iload_n 2, 1) := by decide +kernel
theorem dX7_of_14 : decode cX7_of 14 = .ok (.ifCond .lt 8, 3) := by decide +kernel
theorem dX7_of_17 : decode cX7_of 17 = .ok (.iload_n 2, 1) := by decide +kernel
theorem dX7_of_18 : decode cX7_of 18 = .ok (.iconst 4, 1) := by decide +kernel
theorem dX7_of_19 : decode cX7_of 19 = .ok (.if_icmp .le 6, 3) := by decide +kernel
theorem dX7_of_22 : decode cX7_of 22 = .ok (.bipush (-2), 2) := by decide +kernel
theorem dX7_of_24 : decode cX7_of 24 = .ok (.ireturn, 1) := by decide +kernel
theorem dX7_of_25 : decode cX7_of 25 = .ok (.aload_n 0, 1) := by decide +kernel
theorem dX7_of_26 : decode cX7_of 26 = .ok (.iconst 1, 1) := by decide +kernel
theorem dX7_of_27 : decode cX7_of 27 = .ok (.iload_n 1, 1) := by decide +kernel
theorem dX7_of_28 : decode cX7_of 28 = .ok (.invokevirtual 107, 3) := by decide +kernel
theorem dX7_of_31 : decode cX7_of 31 = .ok (.iload_n 2, 1) := by decide +kernel
theorem dX7_of_32 : decode cX7_of 32 = .ok (.tableswitch 65 0 3 #[32, 46, 53, 59], 32) := by decide +kernel
theorem dX7_of_64 : decode cX7_of 64 = .ok (.aload_n 0, 1) := by decide +kernel
theorem dX7_of_65 : decode cX7_of 65 = .ok (.iload_n 1, 1) := by decide +kernel
theorem dX7_of_66 : decode cX7_of 66 = .ok (.invokevirtual 169, 3) := by decide +kernel
theorem dX7_of_69 : decode cX7_of 69 = .ok (.ifCond .eq 7, 3) := by decide +kernel
theorem dX7_of_72 : decode cX7_of 72 = .ok (.iconst 1, 1) := by decide +kernel
theorem dX7_of_73 : decode cX7_of 73 = .ok (.goto 4, 3) := by decide +kernel
theorem dX7_of_76 : decode cX7_of 76 = .ok (.iconst 0, 1) := by decide +kernel
theorem dX7_of_77 : decode cX7_of 77 = .ok (.ireturn, 1) := by decide +kernel
theorem dX7_of_78 : decode cX7_of 78 = .ok (.aload_n 0, 1) := by decide +kernel
theorem dX7_of_79 : decode cX7_of 79 = .ok (.getfield 16, 3) := by decide +kernel
theorem dX7_of_82 : decode cX7_of 82 = .ok (.iconst 1, 1) := by decide +kernel
theorem dX7_of_83 : decode cX7_of 83 = .ok (.iaload, 1) := by decide +kernel
theorem dX7_of_84 : decode cX7_of 84 = .ok (.ireturn, 1) := by decide +kernel
theorem dX7_of_85 : decode cX7_of 85 = .ok (.aload_n 0, 1) := by decide +kernel
theorem dX7_of_86 : decode cX7_of 86 = .ok (.iconst 2, 1) := by decide +kernel
theorem dX7_of_87 : decode cX7_of 87 = .ok (.invokevirtual 70, 3) := by decide +kernel
theorem dX7_of_90 : decode cX7_of 90 = .ok (.ireturn, 1) := by decide +kernel
theorem dX7_of_91 : decode cX7_of 91 = .ok (.aload_n 0, 1) := by decide +kernel
theorem dX7_of_92 : decode cX7_of 92 = .ok (.iconst 3, 1) := by decide +kernel
theorem dX7_of_93 : decode cX7_of 93 = .ok (.invokevirtual 70, 3) := by decide +kernel
theorem dX7_of_96 : decode cX7_of 96 = .ok (.ireturn, 1) := by decide +kernel
theorem dX7_of_97 : decode cX7_of 97 = .ok (.aload_n 0, 1) := by decide +kernel
theorem dX7_of_98 : decode cX7_of 98 = .ok (.iconst 3, 1) := by decide +kernel
theorem dX7_of_99 : decode cX7_of 99 = .ok (.bipush 18, 2) := by decide +kernel
theorem dX7_of_101 : decode cX7_of 101 = .ok (.invokevirtual 91, 3) := by decide +kernel
theorem dX7_of_104 : decode cX7_of 104 = .ok (.ifCond .ne 7, 3) := by decide +kernel
theorem dX7_of_107 : decode cX7_of 107 = .ok (.iconst 1, 1) := by decide +kernel
theorem dX7_of_108 : decode cX7_of 108 = .ok (.goto 4, 3) := by decide +kernel
theorem dX7_of_111 : decode cX7_of 111 = .ok (.iconst 0, 1) := by decide +kernel
theorem dX7_of_112 : decode cX7_of 112 = .ok (.ireturn, 1) := by decide +kernel
theorem dX7_part_0 : decode cX7_part 0 = .ok (.aload_n 0, 1) := by decide +kernel
theorem dX7_part_1 : decode cX7_part 1 = .ok (.iconst 0, 1) := by decide +kernel
theorem dX7_part_2 : decode cX7_part 2 = .ok (.putfield 47, 3) := by decide +kernel
theorem dX7_part_5 : decode cX7_part 5 = .ok (.aload_n 0, 1) := by decide +kernel
theorem dX7_part_6 : decode cX7_part 6 = .ok (.iload_n 1, 1) := by decide +kernel
theorem dX7_part_7 : decode cX7_part 7 = .ok (.invokevirtual 136, 3) := by decide +kernel
theorem dX7_part_10 : decode cX7_part 10 = .ok (.ifCond .eq 12, 3) := by decide +kernel
theorem dX7_part_13 : decode cX7_part 13 = .ok (.iload_n 2, 1) := by decide +kernel
theorem dX7_part_14 : decode cX7_part 14 = .ok (.ifCond .lt 8, 3) := by decide +kernel
theorem dX7_part_17 : decode cX7_part 17 = .ok (.iload_n 2, 1) := by decide +kernel
theorem dX7_part_18 : decode cX7_part 18 = .ok (.iconst 1, 1) := by decide +kernel
theorem dX7_part_19 : decode cX7_part 19 = .ok (.if_icmp .le 10, 3) := by decide +kernel
theorem dX7_part_22 : decode cX7_part 22 = .ok (.aload_n 0, 1) := by decide +kernel
theorem dX7_part_23 : decode cX7_part 23 = .ok (.iconst 1, 1) := by decide +kernel
theorem dX7_part_24 : decode cX7_part 24 = .ok (.invokevirtual 129, 3) := by decide +kernel
theorem dX7_part_27 : decode cX7_part 27 = .ok (.i2l, 1) := by decide +kernel
theorem dX7_part_28 : decode cX7_part 28 = .ok (.lreturn, 1) := by decide +kernel
theorem dX7_part_29 : decode cX7_part 29 = .ok (.aload_n 0, 1) := by decide +kernel
theorem dX7_part_30 : decode cX7_part 30 = .ok (.iconst 1, 1) := by decide +kernel
theorem dX7_part_31 : decode cX7_part 31 = .ok (.iload_n 1, 1) := by decide +kernel
theorem dX7_part_32 : decode cX7_part 32 = .ok (.invokevirtual 107, 3) := by decide +kernel
theorem dX7_part_35 : decode cX7_part 35 = .ok (.iconst 2, 1) := by decide +kernel
theorem dX7_part_36 : decode cX7_part 36 = .ok (.iload_n 2, 1) := by decide +kernel
theorem dX7_part_37 : decode cX7_part 37 = .ok (.iadd, 1) := by decide +kernel
theorem dX7_part_38 : decode cX7_part 38 = .ok (.istore_n 3, 1) := by decide +kernel
theorem dX7_part_39 : decode cX7_part 39 = .ok (.aload_n 0, 1) := by decide +kernel
theorem dX7_part_40 : decode cX7_part 40 = .ok (.iload_n 3, 1) := by decide +kernel
theorem dX7_part_41 : decode cX7_part 41 = .ok (.iload_n 2, 1) := by decide +kernel
theorem dX7_part_42 : decode cX7_part 42 = .ok (.ifCond .ne 12, 3) := by decide +kernel
theorem dX7_part_45 : decode cX7_part 45 = .ok (.aload_n 0, 1) := by decide +kernel
theorem dX7_part_46 : decode cX7_part 46 = .ok (.getfield 16, 3) := by decide +kernel
theorem dX7_part_49 : decode cX7_part 49 = .ok (.iconst 1, 1) := by decide +kernel
theorem dX7_part_50 : decode cX7_part 50 = .ok (.iaload, 1) := by decide +kernel
theorem dX7_part_51 : decode cX7_part 51 = .ok (.goto 4, 3) := by decide +kernel
theorem dX7_part_54 : decode cX7_part 54 = .ok (.iconst 1, 1) := by decide +kernel
theorem dX7_part_55 : decode cX7_part 55 = .ok (.invokevirtual 166, 3) := by decide +kernel
theorem dX7_part_58 : decode cX7_part 58 = .ok (.ifCond .ne 10, 3) := by decide +kernel
theorem dX7_part_61 : decode cX7_part 61 = .ok (.aload_n 0, 1) := by decide +kernel
theorem dX7_part_62 : decode cX7_part 62 = .ok (.iconst 2, 1) := by decide +kernel
theorem dX7_part_63 : decode cX7_part 63 = .ok (.invokevirtual 129, 3) := by decide +kernel
theorem dX7_part_66 : decode cX7_part 66 = .ok (.i2l, 1) := by decide +kernel
theorem dX7_part_67 : decode cX7_part 67 = .ok (.lreturn, 1) := by decide +kernel
theorem dX7_part_68 : decode cX7_part 68 = .ok (.iload_n 2, 1) := by decide +kernel
theorem dX7_part_69 : decode cX7_part 69 = .ok (.ifCond .ne 21, 3) := by decide +kernel
theorem dX7_part_72 : decode cX7_part 72 = .ok (.aload_n 0, 1) := by decide +kernel
theorem dX7_part_73 : decode cX7_part 73 = .ok (.getfield 16, 3) := by decide +kernel
theorem dX7_part_76 : decode cX7_part 76 = .ok (.iconst 1, 1) := by decide +kernel
theorem dX7_part_77 : decode cX7_part 77 = .ok (.iaload, 1) := by decide +kernel
theorem dX7_part_78 : decode cX7_part 78 = .ok (.ifCond .ge 12, 3) := by decide +kernel
theorem dX7_part_81 : decode cX7_part 81 = .ok (.aload_n 0, 1) := by decide +kernel
theorem dX7_part_82 : decode cX7_part 82 = .ok (.iload_n 3, 1) := by decide +kernel
theorem dX7_part_83 : decode cX7_part 83 = .ok (.invokevirtual 66, 3) := by decide +kernel
theorem dX7_part_86 : decode cX7_part 86 = .ok (.lneg, 1) := by decide +kernel
theorem dX7_part_87 : decode cX7_part 87 = .ok (.goto 8, 3) := by decide +kernel
theorem dX7_part_90 : decode cX7_part 90 = .ok (.aload_n 0, 1) := by decide +kernel
theorem dX7_part_91 : decode cX7_part 91 = .ok (.iload_n 3, 1) := by decide +kernel
theorem dX7_part_92 : decode cX7_part 92 = .ok (.invokevirtual 66, 3) := by decide +kernel
theorem dX7_part_95 : decode cX7_part 95 = .ok (.lreturn, 1) := by decide +kernel
theorem dX7_limb_0 : decode cX7_limb 0 = .ok (.aload_n 0, 1) := by decide +kernel
theorem dX7_limb_1 : decode cX7_limb 1 = .ok (.iconst 0, 1) := by decide +kernel
theorem dX7_limb_2 : decode cX7_limb 2 = .ok (.putfield 47, 3) := by decide +kernel
theorem dX7_limb_5 : decode cX7_limb 5 = .ok (.aload_n 0, 1) := by decide +kernel
theorem dX7_limb_6 : decode cX7_limb 6 = .ok (.iload_n 1, 1) := by decide +kernel
theorem dX7_limb_7 : decode cX7_limb 7 = .ok (.invokevirtual 136, 3) := by decide +kernel
theorem dX7_limb_10 : decode cX7_limb 10 = .ok (.ifCond .eq 12, 3) := by decide +kernel
theorem dX7_limb_13 : decode cX7_limb 13 = .ok (.iload_n 2, 1) := by decide +kernel
theorem dX7_limb_14 : decode cX7_limb 14 = .ok (.ifCond .lt 8, 3) := by decide +kernel
theorem dX7_limb_17 : decode cX7_limb 17 = .ok (.iload_n 2, 1) := by decide +kernel
theorem dX7_limb_18 : decode cX7_limb 18 = .ok (.iconst 1, 1) := by decide +kernel
theorem dX7_limb_19 : decode cX7_limb 19 = .ok (.if_icmp .le 9, 3) := by decide +kernel
theorem dX7_limb_22 : decode cX7_limb 22 = .ok (.aload_n 0, 1) := by decide +kernel
theorem dX7_limb_23 : decode cX7_limb 23 = .ok (.iconst 1, 1) := by decide +kernel
theorem dX7_limb_24 : decode cX7_limb 24 = .ok (.invokevirtual 129, 3) := by decide +kernel
theorem dX7_limb_27 : decode cX7_limb 27 = .ok (.ireturn, 1) := by decide +kernel
theorem dX7_limb_28 : decode cX7_limb 28 = .ok (.aload_n 0, 1) := by decide +kernel
theorem dX7_limb_29 : decode cX7_limb 29 = .ok (.iconst 1, 1) := by decide +kernel
theorem dX7_limb_30 : decode cX7_limb 30 = .ok (.iload_n 1, 1) := by decide +kernel
theorem dX7_limb_31 : decode cX7_limb 31 = .ok (.invokevirtual 107, 3) := by decide +kernel
theorem dX7_limb_34 : decode cX7_limb 34 = .ok (.iconst 2, 1) := by decide +kernel
theorem dX7_limb_35 : decode cX7_limb 35 = .ok (.iload_n 2, 1) := by decide +kernel
theorem dX7_limb_36 : decode cX7_limb 36 = .ok (.iadd, 1) := by decide +kernel
theorem dX7_limb_37 : decode cX7_limb 37 = .ok (.istore 4, 2) := by decide +kernel
theorem dX7_limb_39 : decode cX7_limb 39 = .ok (.iload_n 3, 1) := by decide +kernel
theorem dX7_limb_40 : decode cX7_limb 40 = .ok (.ifCond .lt 19, 3) := by decide +kernel
theorem dX7_limb_43 : decode cX7_limb 43 = .ok (.iload_n 3, 1) := by decide +kernel
theorem dX7_limb_44 : decode cX7_limb 44 = .ok (.aload_n 0, 1) := by decide +kernel
theorem dX7_limb_45 : decode cX7_limb 45 = .ok (.iload 4, 2) := by decide +kernel
theorem dX7_limb_47 : decode cX7_limb 47 = .ok (.invokevirtual 70, 3) := by decide +kernel
theorem dX7_limb_50 : decode cX7_limb 50 = .ok (.bipush 31, 2) := by decide +kernel
theorem dX7_limb_52 : decode cX7_limb 52 = .ok (.iadd, 1) := by decide +kernel
theorem dX7_limb_53 : decode cX7_limb 53 = .ok (.bipush 32, 2) := by decide +kernel
theorem dX7_limb_55 : decode cX7_limb 55 = .ok (.idiv, 1) := by decide +kernel
theorem dX7_limb_56 : decode cX7_limb 56 = .ok (.if_icmp .lt 9, 3) := by decide +kernel
theorem dX7_limb_59 : decode cX7_limb 59 = .ok (.aload_n 0, 1) := by decide +kernel
theorem dX7_limb_60 : decode cX7_limb 60 = .ok (.iconst 2, 1) := by decide +kernel
theorem dX7_limb_61 : decode cX7_limb 61 = .ok (.invokevirtual 129, 3) := by decide +kernel
theorem dX7_limb_64 : decode cX7_limb 64 = .ok (.ireturn, 1) := by decide +kernel
theorem dX7_limb_65 : decode cX7_limb 65 = .ok (.aload_n 0, 1) := by decide +kernel
theorem dX7_limb_66 : decode cX7_limb 66 = .ok (.iload 4, 2) := by decide +kernel
theorem dX7_limb_68 : decode cX7_limb 68 = .ok (.iconst 2, 1) := by decide +kernel
theorem dX7_limb_69 : decode cX7_limb 69 = .ok (.iload_n 3, 1) := by decide +kernel
theorem dX7_limb_70 : decode cX7_limb 70 = .ok (.imul, 1) := by decide +kernel
theorem dX7_limb_71 : decode cX7_limb 71 = .ok (.invokevirtual 53, 3) := by decide +kernel
theorem dX7_limb_74 : decode cX7_limb 74 = .ok (.aload_n 0, 1) := by decide +kernel
theorem dX7_limb_75 : decode cX7_limb 75 = .ok (.iload 4, 2) := by decide +kernel
theorem dX7_limb_77 : decode cX7_limb 77 = .ok (.iconst 2, 1) := by decide +kernel
theorem dX7_limb_78 : decode cX7_limb 78 = .ok (.iload_n 3, 1) := by decide +kernel
theorem dX7_limb_79 : decode cX7_limb 79 = .ok (.imul, 1) := by decide +kernel
theorem dX7_limb_80 : decode cX7_limb 80 = .ok (.iconst 1, 1) := by decide +kernel
theorem dX7_limb_81 : decode cX7_limb 81 = .ok (.iadd, 1) := by decide +kernel
theorem dX7_limb_82 : decode cX7_limb 82 = .ok (.invokevirtual 53, 3) := by decide +kernel
theorem dX7_limb_85 : decode cX7_limb 85 = .ok (.bipush 16, 2) := by decide +kernel
theorem dX7_limb_87 : decode cX7_limb 87 = .ok (.ishl, 1) := by decide +kernel
theorem dX7_limb_88 : decode cX7_limb 88 = .ok (.ior, 1) := by decide +kernel
theorem dX7_limb_89 : decode cX7_limb 89 = .ok (.ireturn, 1) := by decide +kernel
theorem dX7_fitting_0 : decode cX7_fitting 0 = .ok (.iload_n 1, 1) := by decide +kernel
theorem dX7_fitting_1 : decode cX7_fitting 1 = .ok (.ifCond .eq 7, 3) := by decide +kernel
theorem dX7_fitting_4 : decode cX7_fitting 4 = .ok (.lload_n 2, 1) := by decide +kernel
theorem dX7_fitting_5 : decode cX7_fitting 5 = .ok (.goto 9, 3) := by decide +kernel
theorem dX7_fitting_8 : decode cX7_fitting 8 = .ok (.aload_n 0, 1) := by decide +kernel
theorem dX7_fitting_9 : decode cX7_fitting 9 = .ok (.iconst 2, 1) := by decide +kernel
theorem dX7_fitting_10 : decode cX7_fitting 10 = .ok (.invokevirtual 129, 3) := by decide +kernel
theorem dX7_fitting_13 : decode cX7_fitting 13 = .ok (.i2l, 1) := by decide +kernel
theorem dX7_fitting_14 : decode cX7_fitting 14 = .ok (.lreturn, 1) := by decide +kernel
theorem dX7_quotients_0 : decode cX7_quotients 0 = .ok (.lload 4, 2) := by decide +kernel
theorem dX7_quotients_2 : decode cX7_quotients 2 = .ok (.lconst 0, 1) := by decide +kernel
theorem dX7_quotients_3 : decode cX7_quotients 3 = .ok (.lcmp, 1) := by decide +kernel
theorem dX7_quotients_4 : decode cX7_quotients 4 = .ok (.ifCond .ne 10, 3) := by decide +kernel
theorem dX7_quotients_7 : decode cX7_quotients 7 = .ok (.aload_n 0, 1) := by decide +kernel
theorem dX7_quotients_8 : decode cX7_quotients 8 = .ok (.iconst 2, 1) := by decide +kernel
theorem dX7_quotients_9 : decode cX7_quotients 9 = .ok (.invokevirtual 129, 3) := by decide +kernel
theorem dX7_quotients_12 : decode cX7_quotients 12 = .ok (.i2l, 1) := by decide +kernel
theorem dX7_quotients_13 : decode cX7_quotients 13 = .ok (.lreturn, 1) := by decide +kernel
theorem dX7_quotients_14 : decode cX7_quotients 14 = .ok (.lload 4, 2) := by decide +kernel
theorem dX7_quotients_16 : decode cX7_quotients 16 = .ok (.ldc2_w 172, 3) := by decide +kernel
theorem dX7_quotients_19 : decode cX7_quotients 19 = .ok (.lcmp, 1) := by decide +kernel
theorem dX7_quotients_20 : decode cX7_quotients 20 = .ok (.ifCond .ne 38, 3) := by decide +kernel
theorem dX7_quotients_23 : decode cX7_quotients 23 = .ok (.iload_n 1, 1) := by decide +kernel
theorem dX7_quotients_24 : decode cX7_quotients 24 = .ok (.iconst 4, 1) := by decide +kernel
theorem dX7_quotients_25 : decode cX7_quotients 25 = .ok (.if_icmp .eq 9, 3) := by decide +kernel
theorem dX7_quotients_28 : decode cX7_quotients 28 = .ok (.iload_n 1, 1) := by decide +kernel
theorem dX7_quotients_29 : decode cX7_quotients 29 = .ok (.bipush 6, 2) := by decide +kernel
theorem dX7_quotients_31 : decode cX7_quotients 31 = .ok (.if_icmp .ne 7, 3) := by decide +kernel
theorem dX7_quotients_34 : decode cX7_quotients 34 = .ok (.lconst 0, 1) := by decide +kernel
theorem dX7_quotients_35 : decode cX7_quotients 35 = .ok (.goto 22, 3) := by decide +kernel
theorem dX7_quotients_38 : decode cX7_quotients 38 = .ok (.aload_n 0, 1) := by decide +kernel
theorem dX7_quotients_39 : decode cX7_quotients 39 = .ok (.lload_n 2, 1) := by decide +kernel
theorem dX7_quotients_40 : decode cX7_quotients 40 = .ok (.ldc2_w 164, 3) := by decide +kernel
theorem dX7_quotients_43 : decode cX7_quotients 43 = .ok (.lcmp, 1) := by decide +kernel
theorem dX7_quotients_44 : decode cX7_quotients 44 = .ok (.ifCond .eq 7, 3) := by decide +kernel
theorem dX7_quotients_47 : decode cX7_quotients 47 = .ok (.iconst 1, 1) := by decide +kernel
theorem dX7_quotients_48 : decode cX7_quotients 48 = .ok (.goto 4, 3) := by decide +kernel
theorem dX7_quotients_51 : decode cX7_quotients 51 = .ok (.iconst 0, 1) := by decide +kernel
theorem dX7_quotients_52 : decode cX7_quotients 52 = .ok (.lload_n 2, 1) := by decide +kernel
theorem dX7_quotients_53 : decode cX7_quotients 53 = .ok (.lneg, 1) := by decide +kernel
theorem dX7_quotients_54 : decode cX7_quotients 54 = .ok (.invokevirtual 174, 3) := by decide +kernel
theorem dX7_quotients_57 : decode cX7_quotients 57 = .ok (.lreturn, 1) := by decide +kernel
theorem dX7_quotients_58 : decode cX7_quotients 58 = .ok (.lload_n 2, 1) := by decide +kernel
theorem dX7_quotients_59 : decode cX7_quotients 59 = .ok (.lload 4, 2) := by decide +kernel
theorem dX7_quotients_61 : decode cX7_quotients 61 = .ok (.ldiv, 1) := by decide +kernel
theorem dX7_quotients_62 : decode cX7_quotients 62 = .ok (.lstore 6, 2) := by decide +kernel
theorem dX7_quotients_64 : decode cX7_quotients 64 = .ok (.lload_n 2, 1) := by decide +kernel
theorem dX7_quotients_65 : decode cX7_quotients 65 = .ok (.lload 4, 2) := by decide +kernel
theorem dX7_quotients_67 : decode cX7_quotients 67 = .ok (.lrem, 1) := by decide +kernel
theorem dX7_quotients_68 : decode cX7_quotients 68 = .ok (.lstore 8, 2) := by decide +kernel
theorem dX7_quotients_70 : decode cX7_quotients 70 = .ok (.iload_n 1, 1) := by decide +kernel
theorem dX7_quotients_71 : decode cX7_quotients 71 = .ok (.iconst 4, 1) := by decide +kernel
theorem dX7_quotients_72 : decode cX7_quotients 72 = .ok (.if_icmp .le 41, 3) := by decide +kernel
theorem dX7_quotients_75 : decode cX7_quotients 75 = .ok (.lload 8, 2) := by decide +kernel
theorem dX7_quotients_77 : decode cX7_quotients 77 = .ok (.lconst 0, 1) := by decide +kernel
theorem dX7_quotients_78 : decode cX7_quotients 78 = .ok (.lcmp, 1) := by decide +kernel
theorem dX7_quotients_79 : decode cX7_quotients 79 = .ok (.ifCond .eq 34, 3) := by decide +kernel
theorem dX7_quotients_82 : decode cX7_quotients 82 = .ok (.lload 8, 2) := by decide +kernel
theorem dX7_quotients_84 : decode cX7_quotients 84 = .ok (.lconst 0, 1) := by decide +kernel
theorem dX7_quotients_85 : decode cX7_quotients 85 = .ok (.lcmp, 1) := by decide +kernel
theorem dX7_quotients_86 : decode cX7_quotients 86 = .ok (.ifCond .ge 7, 3) := by decide +kernel
theorem dX7_quotients_89 : decode cX7_quotients 89 = .ok (.iconst 1, 1) := by decide +kernel
theorem dX7_quotients_90 : decode cX7_quotients 90 = .ok (.goto 4, 3) := by decide +kernel
theorem dX7_quotients_93 : decode cX7_quotients 93 = .ok (.iconst 0, 1) := by decide +kernel
theorem dX7_quotients_94 : decode cX7_quotients 94 = .ok (.lload 4, 2) := by decide +kernel
theorem dX7_quotients_96 : decode cX7_quotients 96 = .ok (.lconst 0, 1) := by decide +kernel
theorem dX7_quotients_97 : decode cX7_quotients 97 = .ok (.lcmp, 1) := by decide +kernel
theorem dX7_quotients_98 : decode cX7_quotients 98 = .ok (.ifCond .ge 7, 3) := by decide +kernel
theorem dX7_quotients_101 : decode cX7_quotients 101 = .ok (.iconst 1, 1) := by decide +kernel
theorem dX7_quotients_102 : decode cX7_quotients 102 = .ok (.goto 4, 3) := by decide +kernel
theorem dX7_quotients_105 : decode cX7_quotients 105 = .ok (.iconst 0, 1) := by decide +kernel
theorem dX7_quotients_106 : decode cX7_quotients 106 = .ok (.if_icmp .eq 7, 3) := by decide +kernel
theorem dX7_quotients_109 : decode cX7_quotients 109 = .ok (.iconst 1, 1) := by decide +kernel
theorem dX7_quotients_110 : decode cX7_quotients 110 = .ok (.goto 4, 3) := by decide +kernel
theorem dX7_quotients_113 : decode cX7_quotients 113 = .ok (.iconst 0, 1) := by decide +kernel
theorem dX7_quotients_114 : decode cX7_quotients 114 = .ok (.istore 10, 2) := by decide +kernel
theorem dX7_quotients_116 : decode cX7_quotients 116 = .ok (.iload_n 1, 1) := by decide +kernel
theorem dX7_quotients_117 : decode cX7_quotients 117 = .ok (.iconst 3, 1) := by decide +kernel
theorem dX7_quotients_118 : decode cX7_quotients 118 = .ok (.if_icmp .eq 8, 3) := by decide +kernel
theorem dX7_quotients_121 : decode cX7_quotients 121 = .ok (.iload_n 1, 1) := by decide +kernel
theorem dX7_quotients_122 : decode cX7_quotients 122 = .ok (.iconst 5, 1) := by decide +kernel
theorem dX7_quotients_123 : decode cX7_quotients 123 = .ok (.if_icmp .ne 20, 3) := by decide +kernel
theorem dX7_quotients_126 : decode cX7_quotients 126 = .ok (.iload 10, 2) := by decide +kernel
theorem dX7_quotients_128 : decode cX7_quotients 128 = .ok (.ifCond .eq 10, 3) := by decide +kernel
theorem dX7_quotients_131 : decode cX7_quotients 131 = .ok (.lload 6, 2) := by decide +kernel
theorem dX7_quotients_133 : decode cX7_quotients 133 = .ok (.lconst 1, 1) := by decide +kernel
theorem dX7_quotients_134 : decode cX7_quotients 134 = .ok (.lsub, 1) := by decide +kernel
theorem dX7_quotients_135 : decode cX7_quotients 135 = .ok (.goto 23, 3) := by decide +kernel
theorem dX7_quotients_138 : decode cX7_quotients 138 = .ok (.lload 6, 2) := by decide +kernel
theorem dX7_quotients_140 : decode cX7_quotients 140 = .ok (.goto 18, 3) := by decide +kernel
theorem dX7_quotients_143 : decode cX7_quotients 143 = .ok (.iload 10, 2) := by decide +kernel
theorem dX7_quotients_145 : decode cX7_quotients 145 = .ok (.ifCond .eq 11, 3) := by decide +kernel
theorem dX7_quotients_148 : decode cX7_quotients 148 = .ok (.lload 8, 2) := by decide +kernel
theorem dX7_quotients_150 : decode cX7_quotients 150 = .ok (.lload 4, 2) := by decide +kernel
theorem dX7_quotients_152 : decode cX7_quotients 152 = .ok (.ladd, 1) := by decide +kernel
theorem dX7_quotients_153 : decode cX7_quotients 153 = .ok (.goto 5, 3) := by decide +kernel
theorem dX7_quotients_156 : decode cX7_quotients 156 = .ok (.lload 8, 2) := by decide +kernel
theorem dX7_quotients_158 : decode cX7_quotients 158 = .ok (.lreturn, 1) := by decide +kernel
theorem dX7_exact_0 : decode cX7_exact 0 = .ok (.aload_n 0, 1) := by decide +kernel
theorem dX7_exact_1 : decode cX7_exact 1 = .ok (.iconst 0, 1) := by decide +kernel
theorem dX7_exact_2 : decode cX7_exact 2 = .ok (.putfield 47, 3) := by decide +kernel
theorem dX7_exact_5 : decode cX7_exact 5 = .ok (.iload_n 1, 1) := by decide +kernel
theorem dX7_exact_6 : decode cX7_exact 6 = .ok (.ifCond .lt 9, 3) := by decide +kernel
theorem dX7_exact_9 : decode cX7_exact 9 = .ok (.iload_n 1, 1) := by decide +kernel
theorem dX7_exact_10 : decode cX7_exact 10 = .ok (.bipush 9, 2) := by decide +kernel
theorem dX7_exact_12 : decode cX7_exact 12 = .ok (.if_icmp .le 10, 3) := by decide +kernel
theorem dX7_exact_15 : decode cX7_exact 15 = .ok (.aload_n 0, 1) := by decide +kernel
theorem dX7_exact_16 : decode cX7_exact 16 = .ok (.iconst 1, 1) := by decide +kernel
theorem dX7_exact_17 : decode cX7_exact 17 = .ok (.invokevirtual 129, 3) := by decide +kernel
theorem dX7_exact_20 : decode cX7_exact 20 = .ok (.i2l, 1) := by decide +kernel
theorem dX7_exact_21 : decode cX7_exact 21 = .ok (.lreturn, 1) := by decide +kernel
theorem dX7_exact_22 : decode cX7_exact 22 = .ok (.iload_n 1, 1) := by decide +kernel
theorem dX7_exact_23 : decode cX7_exact 23 = .ok (.tableswitch 313 0 9 #[53, 123, 193, 313, 313, 313, 313, 244, 264, 283], 53) := by decide +kernel
theorem dX7_exact_76 : decode cX7_exact 76 = .ok (.lload_n 2, 1) := by decide +kernel
theorem dX7_exact_77 : decode cX7_exact 77 = .ok (.lload 4, 2) := by decide +kernel
theorem dX7_exact_79 : decode cX7_exact 79 = .ok (.ladd, 1) := by decide +kernel
theorem dX7_exact_80 : decode cX7_exact 80 = .ok (.lstore 6, 2) := by decide +kernel
theorem dX7_exact_82 : decode cX7_exact 82 = .ok (.aload_n 0, 1) := by decide +kernel
theorem dX7_exact_83 : decode cX7_exact 83 = .ok (.lload_n 2, 1) := by decide +kernel
theorem dX7_exact_84 : decode cX7_exact 84 = .ok (.lconst 0, 1) := by decide +kernel
theorem dX7_exact_85 : decode cX7_exact 85 = .ok (.lcmp, 1) := by decide +kernel
theorem dX7_exact_86 : decode cX7_exact 86 = .ok (.ifCond .ge 7, 3) := by decide +kernel
theorem dX7_exact_89 : decode cX7_exact 89 = .ok (.iconst 1, 1) := by decide +kernel
theorem dX7_exact_90 : decode cX7_exact 90 = .ok (.goto 4, 3) := by decide +kernel
theorem dX7_exact_93 : decode cX7_exact 93 = .ok (.iconst 0, 1) := by decide +kernel
theorem dX7_exact_94 : decode cX7_exact 94 = .ok (.lload 4, 2) := by decide +kernel
theorem dX7_exact_96 : decode cX7_exact 96 = .ok (.lconst 0, 1) := by decide +kernel
theorem dX7_exact_97 : decode cX7_exact 97 = .ok (.lcmp, 1) := by decide +kernel
theorem dX7_exact_98 : decode cX7_exact 98 = .ok (.ifCond .ge 7, 3) := by decide +kernel
theorem dX7_exact_101 : decode cX7_exact 101 = .ok (.iconst 1, 1) := by decide +kernel
theorem dX7_exact_102 : decode cX7_exact 102 = .ok (.goto 4, 3) := by decide +kernel
theorem dX7_exact_105 : decode cX7_exact 105 = .ok (.iconst 0, 1) := by decide +kernel
theorem dX7_exact_106 : decode cX7_exact 106 = .ok (.if_icmp .ne 29, 3) := by decide +kernel
theorem dX7_exact_109 : decode cX7_exact 109 = .ok (.lload 6, 2) := by decide +kernel
theorem dX7_exact_111 : decode cX7_exact 111 = .ok (.lconst 0, 1) := by decide +kernel
theorem dX7_exact_112 : decode cX7_exact 112 = .ok (.lcmp, 1) := by decide +kernel
theorem dX7_exact_113 : decode cX7_exact 113 = .ok (.ifCond .ge 7, 3) := by decide +kernel
theorem dX7_exact_116 : decode cX7_exact 116 = .ok (.iconst 1, 1) := by decide +kernel
theorem dX7_exact_117 : decode cX7_exact 117 = .ok (.goto 4, 3) := by decide +kernel
theorem dX7_exact_120 : decode cX7_exact 120 = .ok (.iconst 0, 1) := by decide +kernel
theorem dX7_exact_121 : decode cX7_exact 121 = .ok (.lload_n 2, 1) := by decide +kernel
theorem dX7_exact_122 : decode cX7_exact 122 = .ok (.lconst 0, 1) := by decide +kernel
theorem dX7_exact_123 : decode cX7_exact 123 = .ok (.lcmp, 1) := by decide +kernel
theorem dX7_exact_124 : decode cX7_exact 124 = .ok (.ifCond .ge 7, 3) := by decide +kernel
theorem dX7_exact_127 : decode cX7_exact 127 = .ok (.iconst 1, 1) := by decide +kernel
theorem dX7_exact_128 : decode cX7_exact 128 = .ok (.goto 4, 3) := by decide +kernel
theorem dX7_exact_131 : decode cX7_exact 131 = .ok (.iconst 0, 1) := by decide +kernel
theorem dX7_exact_132 : decode cX7_exact 132 = .ok (.if_icmp .ne 7, 3) := by decide +kernel
theorem dX7_exact_135 : decode cX7_exact 135 = .ok (.iconst 1, 1) := by decide +kernel
theorem dX7_exact_136 : decode cX7_exact 136 = .ok (.goto 4, 3) := by decide +kernel
theorem dX7_exact_139 : decode cX7_exact 139 = .ok (.iconst 0, 1) := by decide +kernel
theorem dX7_exact_140 : decode cX7_exact 140 = .ok (.lload 6, 2) := by decide +kernel
theorem dX7_exact_142 : decode cX7_exact 142 = .ok (.invokevirtual 174, 3) := by decide +kernel
theorem dX7_exact_145 : decode cX7_exact 145 = .ok (.lreturn, 1) := by decide +kernel
theorem dX7_exact_146 : decode cX7_exact 146 = .ok (.lload_n 2, 1) := by decide +kernel
theorem dX7_exact_147 : decode cX7_exact 147 = .ok (.lload 4, 2) := by decide +kernel
theorem dX7_exact_149 : decode cX7_exact 149 = .ok (.lsub, 1) := by decide +kernel
theorem dX7_exact_150 : decode cX7_exact 150 = .ok (.lstore 6, 2) := by decide +kernel
theorem dX7_exact_152 : decode cX7_exact 152 = .ok (.aload_n 0, 1) := by decide +kernel
theorem dX7_exact_153 : decode cX7_exact 153 = .ok (.lload_n 2, 1) := by decide +kernel
theorem dX7_exact_154 : decode cX7_exact 154 = .ok (.lconst 0, 1) := by decide +kernel
theorem dX7_exact_155 : decode cX7_exact 155 = .ok (.lcmp, 1) := by decide +kernel
theorem dX7_exact_156 : decode cX7_exact 156 = .ok (.ifCond .ge 7, 3) := by decide +kernel
theorem dX7_exact_159 : decode cX7_exact 159 = .ok (.iconst 1, 1) := by decide +kernel
theorem dX7_exact_160 : decode cX7_exact 160 = .ok (.goto 4, 3) := by decide +kernel
theorem dX7_exact_163 : decode cX7_exact 163 = .ok (.iconst 0, 1) := by decide +kernel
theorem dX7_exact_164 : decode cX7_exact 164 = .ok (.lload 4, 2) := by decide +kernel
theorem dX7_exact_166 : decode cX7_exact 166 = .ok (.lconst 0, 1) := by decide +kernel
theorem dX7_exact_167 : decode cX7_exact 167 = .ok (.lcmp, 1) := by decide +kernel
theorem dX7_exact_168 : decode cX7_exact 168 = .ok (.ifCond .ge 7, 3) := by decide +kernel
theorem dX7_exact_171 : decode cX7_exact 171 = .ok (.iconst 1, 1) := by decide +kernel
theorem dX7_exact_172 : decode cX7_exact 172 = .ok (.goto 4, 3) := by decide +kernel
theorem dX7_exact_175 : decode cX7_exact 175 = .ok (.iconst 0, 1) := by decide +kernel
theorem dX7_exact_176 : decode cX7_exact 176 = .ok (.if_icmp .eq 29, 3) := by decide +kernel
theorem dX7_exact_179 : decode cX7_exact 179 = .ok (.lload 6, 2) := by decide +kernel
theorem dX7_exact_181 : decode cX7_exact 181 = .ok (.lconst 0, 1) := by decide +kernel
theorem dX7_exact_182 : decode cX7_exact 182 = .ok (.lcmp, 1) := by decide +kernel
theorem dX7_exact_183 : decode cX7_exact 183 = .ok (.ifCond .ge 7, 3) := by decide +kernel
theorem dX7_exact_186 : decode cX7_exact 186 = .ok (.iconst 1, 1) := by decide +kernel
theorem dX7_exact_187 : decode cX7_exact 187 = .ok (.goto 4, 3) := by decide +kernel
theorem dX7_exact_190 : decode cX7_exact 190 = .ok (.iconst 0, 1) := by decide +kernel
theorem dX7_exact_191 : decode cX7_exact 191 = .ok (.lload_n 2, 1) := by decide +kernel
theorem dX7_exact_192 : decode cX7_exact 192 = .ok (.lconst 0, 1) := by decide +kernel
theorem dX7_exact_193 : decode cX7_exact 193 = .ok (.lcmp, 1) := by decide +kernel
theorem dX7_exact_194 : decode cX7_exact 194 = .ok (.ifCond .ge 7, 3) := by decide +kernel
theorem dX7_exact_197 : decode cX7_exact 197 = .ok (.iconst 1, 1) := by decide +kernel
theorem dX7_exact_198 : decode cX7_exact 198 = .ok (.goto 4, 3) := by decide +kernel
theorem dX7_exact_201 : decode cX7_exact 201 = .ok (.iconst 0, 1) := by decide +kernel
theorem dX7_exact_202 : decode cX7_exact 202 = .ok (.if_icmp .ne 7, 3) := by decide +kernel
theorem dX7_exact_205 : decode cX7_exact 205 = .ok (.iconst 1, 1) := by decide +kernel
theorem dX7_exact_206 : decode cX7_exact 206 = .ok (.goto 4, 3) := by decide +kernel
theorem dX7_exact_209 : decode cX7_exact 209 = .ok (.iconst 0, 1) := by decide +kernel
theorem dX7_exact_210 : decode cX7_exact 210 = .ok (.lload 6, 2) := by decide +kernel
theorem dX7_exact_212 : decode cX7_exact 212 = .ok (.invokevirtual 174, 3) := by decide +kernel
theorem dX7_exact_215 : decode cX7_exact 215 = .ok (.lreturn, 1) := by decide +kernel
theorem dX7_exact_216 : decode cX7_exact 216 = .ok (.lload_n 2, 1) := by decide +kernel
theorem dX7_exact_217 : decode cX7_exact 217 = .ok (.lload 4, 2) := by decide +kernel
theorem dX7_exact_219 : decode cX7_exact 219 = .ok (.lmul, 1) := by decide +kernel
theorem dX7_exact_220 : decode cX7_exact 220 = .ok (.lstore 6, 2) := by decide +kernel
theorem dX7_exact_222 : decode cX7_exact 222 = .ok (.aload_n 0, 1) := by decide +kernel
theorem dX7_exact_223 : decode cX7_exact 223 = .ok (.lload_n 2, 1) := by decide +kernel
theorem dX7_exact_224 : decode cX7_exact 224 = .ok (.lconst 0, 1) := by decide +kernel
theorem dX7_exact_225 : decode cX7_exact 225 = .ok (.lcmp, 1) := by decide +kernel
theorem dX7_exact_226 : decode cX7_exact 226 = .ok (.ifCond .eq 30, 3) := by decide +kernel
theorem dX7_exact_229 : decode cX7_exact 229 = .ok (.lload_n 2, 1) := by decide +kernel
theorem dX7_exact_230 : decode cX7_exact 230 = .ok (.ldc2_w 172, 3) := by decide +kernel
theorem dX7_exact_233 : decode cX7_exact 233 = .ok (.lcmp, 1) := by decide +kernel
theorem dX7_exact_234 : decode cX7_exact 234 = .ok (.ifCond .ne 12, 3) := by decide +kernel
theorem dX7_exact_237 : decode cX7_exact 237 = .ok (.lload 4, 2) := by decide +kernel
theorem dX7_exact_239 : decode cX7_exact 239 = .ok (.ldc2_w 164, 3) := by decide +kernel
theorem dX7_exact_242 : decode cX7_exact 242 = .ok (.lcmp, 1) := by decide +kernel
theorem dX7_exact_243 : decode cX7_exact 243 = .ok (.ifCond .eq 17, 3) := by decide +kernel
theorem dX7_exact_246 : decode cX7_exact 246 = .ok (.lload 6, 2) := by decide +kernel
theorem dX7_exact_248 : decode cX7_exact 248 = .ok (.lload_n 2, 1) := by decide +kernel
theorem dX7_exact_249 : decode cX7_exact 249 = .ok (.ldiv, 1) := by decide +kernel
theorem dX7_exact_250 : decode cX7_exact 250 = .ok (.lload 4, 2) := by decide +kernel
theorem dX7_exact_252 : decode cX7_exact 252 = .ok (.lcmp, 1) := by decide +kernel
theorem dX7_exact_253 : decode cX7_exact 253 = .ok (.ifCond .ne 7, 3) := by decide +kernel
theorem dX7_exact_256 : decode cX7_exact 256 = .ok (.iconst 1, 1) := by decide +kernel
theorem dX7_exact_257 : decode cX7_exact 257 = .ok (.goto 4, 3) := by decide +kernel
theorem dX7_exact_260 : decode cX7_exact 260 = .ok (.iconst 0, 1) := by decide +kernel
theorem dX7_exact_261 : decode cX7_exact 261 = .ok (.lload 6, 2) := by decide +kernel
theorem dX7_exact_263 : decode cX7_exact 263 = .ok (.invokevirtual 174, 3) := by decide +kernel
theorem dX7_exact_266 : decode cX7_exact 266 = .ok (.lreturn, 1) := by decide +kernel
theorem dX7_exact_267 : decode cX7_exact 267 = .ok (.aload_n 0, 1) := by decide +kernel
theorem dX7_exact_268 : decode cX7_exact 268 = .ok (.lload_n 2, 1) := by decide +kernel
theorem dX7_exact_269 : decode cX7_exact 269 = .ok (.ldc2_w 164, 3) := by decide +kernel
theorem dX7_exact_272 : decode cX7_exact 272 = .ok (.lcmp, 1) := by decide +kernel
theorem dX7_exact_273 : decode cX7_exact 273 = .ok (.ifCond .eq 7, 3) := by decide +kernel
theorem dX7_exact_276 : decode cX7_exact 276 = .ok (.iconst 1, 1) := by decide +kernel
theorem dX7_exact_277 : decode cX7_exact 277 = .ok (.goto 4, 3) := by decide +kernel
theorem dX7_exact_280 : decode cX7_exact 280 = .ok (.iconst 0, 1) := by decide +kernel
theorem dX7_exact_281 : decode cX7_exact 281 = .ok (.lload_n 2, 1) := by decide +kernel
theorem dX7_exact_282 : decode cX7_exact 282 = .ok (.lneg, 1) := by decide +kernel
theorem dX7_exact_283 : decode cX7_exact 283 = .ok (.invokevirtual 174, 3) := by decide +kernel
theorem dX7_exact_286 : decode cX7_exact 286 = .ok (.lreturn, 1) := by decide +kernel
theorem dX7_exact_287 : decode cX7_exact 287 = .ok (.aload_n 0, 1) := by decide +kernel
theorem dX7_exact_288 : decode cX7_exact 288 = .ok (.lload_n 2, 1) := by decide +kernel
theorem dX7_exact_289 : decode cX7_exact 289 = .ok (.l2i, 1) := by decide +kernel
theorem dX7_exact_290 : decode cX7_exact 290 = .ok (.i2l, 1) := by decide +kernel
theorem dX7_exact_291 : decode cX7_exact 291 = .ok (.lload_n 2, 1) := by decide +kernel
theorem dX7_exact_292 : decode cX7_exact 292 = .ok (.lcmp, 1) := by decide +kernel
theorem dX7_exact_293 : decode cX7_exact 293 = .ok (.ifCond .ne 7, 3) := by decide +kernel
theorem dX7_exact_296 : decode cX7_exact 296 = .ok (.iconst 1, 1) := by decide +kernel
theorem dX7_exact_297 : decode cX7_exact 297 = .ok (.goto 4, 3) := by decide +kernel
theorem dX7_exact_300 : decode cX7_exact 300 = .ok (.iconst 0, 1) := by decide +kernel
theorem dX7_exact_301 : decode cX7_exact 301 = .ok (.lload_n 2, 1) := by decide +kernel
theorem dX7_exact_302 : decode cX7_exact 302 = .ok (.invokevirtual 174, 3) := by decide +kernel
theorem dX7_exact_305 : decode cX7_exact 305 = .ok (.lreturn, 1) := by decide +kernel
theorem dX7_exact_306 : decode cX7_exact 306 = .ok (.aload_n 0, 1) := by decide +kernel
theorem dX7_exact_307 : decode cX7_exact 307 = .ok (.lload_n 2, 1) := by decide +kernel
theorem dX7_exact_308 : decode cX7_exact 308 = .ok (.ldc2_w 164, 3) := by decide +kernel
theorem dX7_exact_311 : decode cX7_exact 311 = .ok (.lcmp, 1) := by decide +kernel
theorem dX7_exact_312 : decode cX7_exact 312 = .ok (.ifCond .eq 7, 3) := by decide +kernel
theorem dX7_exact_315 : decode cX7_exact 315 = .ok (.iconst 1, 1) := by decide +kernel
theorem dX7_exact_316 : decode cX7_exact 316 = .ok (.goto 4, 3) := by decide +kernel
theorem dX7_exact_319 : decode cX7_exact 319 = .ok (.iconst 0, 1) := by decide +kernel
theorem dX7_exact_320 : decode cX7_exact 320 = .ok (.lload_n 2, 1) := by decide +kernel
theorem dX7_exact_321 : decode cX7_exact 321 = .ok (.lconst 0, 1) := by decide +kernel
theorem dX7_exact_322 : decode cX7_exact 322 = .ok (.lcmp, 1) := by decide +kernel
theorem dX7_exact_323 : decode cX7_exact 323 = .ok (.ifCond .ge 8, 3) := by decide +kernel
theorem dX7_exact_326 : decode cX7_exact 326 = .ok (.lload_n 2, 1) := by decide +kernel
theorem dX7_exact_327 : decode cX7_exact 327 = .ok (.lneg, 1) := by decide +kernel
theorem dX7_exact_328 : decode cX7_exact 328 = .ok (.goto 4, 3) := by decide +kernel
theorem dX7_exact_331 : decode cX7_exact 331 = .ok (.lload_n 2, 1) := by decide +kernel
theorem dX7_exact_332 : decode cX7_exact 332 = .ok (.invokevirtual 174, 3) := by decide +kernel
theorem dX7_exact_335 : decode cX7_exact 335 = .ok (.lreturn, 1) := by decide +kernel
theorem dX7_exact_336 : decode cX7_exact 336 = .ok (.aload_n 0, 1) := by decide +kernel
theorem dX7_exact_337 : decode cX7_exact 337 = .ok (.iload_n 1, 1) := by decide +kernel
theorem dX7_exact_338 : decode cX7_exact 338 = .ok (.lload_n 2, 1) := by decide +kernel
theorem dX7_exact_339 : decode cX7_exact 339 = .ok (.lload 4, 2) := by decide +kernel
theorem dX7_exact_341 : decode cX7_exact 341 = .ok (.invokevirtual 178, 3) := by decide +kernel
theorem dX7_exact_344 : decode cX7_exact 344 = .ok (.lreturn, 1) := by decide +kernel
theorem dX7_row_0 : decode cX7_row 0 = .ok (.aload_n 0, 1) := by decide +kernel
theorem dX7_row_1 : decode cX7_row 1 = .ok (.iconst 0, 1) := by decide +kernel
theorem dX7_row_2 : decode cX7_row 2 = .ok (.putfield 47, 3) := by decide +kernel
theorem dX7_row_5 : decode cX7_row 5 = .ok (.iload_n 1, 1) := by decide +kernel
theorem dX7_row_6 : decode cX7_row 6 = .ok (.iconst 1, 1) := by decide +kernel
theorem dX7_row_7 : decode cX7_row 7 = .ok (.if_icmp .lt 9, 3) := by decide +kernel
theorem dX7_row_10 : decode cX7_row 10 = .ok (.iload_n 1, 1) := by decide +kernel
theorem dX7_row_11 : decode cX7_row 11 = .ok (.bipush 10, 2) := by decide +kernel
theorem dX7_row_13 : decode cX7_row 13 = .ok (.if_icmp .le 6, 3) := by decide +kernel
theorem dX7_row_16 : decode cX7_row 16 = .ok (.bipush (-2), 2) := by decide +kernel
theorem dX7_row_18 : decode cX7_row 18 = .ok (.ireturn, 1) := by decide +kernel
theorem dX7_row_19 : decode cX7_row 19 = .ok (.aload_n 0, 1) := by decide +kernel
theorem dX7_row_20 : decode cX7_row 20 = .ok (.getfield 116, 3) := by decide +kernel
theorem dX7_row_23 : decode cX7_row 23 = .ok (.bipush 20, 2) := by decide +kernel
theorem dX7_row_25 : decode cX7_row 25 = .ok (.if_icmp .ne 6, 3) := by decide +kernel
theorem dX7_row_28 : decode cX7_row 28 = .ok (.bipush (-3), 2) := by decide +kernel
theorem dX7_row_30 : decode cX7_row 30 = .ok (.ireturn, 1) := by decide +kernel
theorem dX7_row_31 : decode cX7_row 31 = .ok (.aload_n 0, 1) := by decide +kernel
theorem dX7_row_32 : decode cX7_row 32 = .ok (.getfield 34, 3) := by decide +kernel
theorem dX7_row_35 : decode cX7_row 35 = .ok (.aload_n 0, 1) := by decide +kernel
theorem dX7_row_36 : decode cX7_row 36 = .ok (.getfield 116, 3) := by decide +kernel
theorem dX7_row_39 : decode cX7_row 39 = .ok (.iload_n 1, 1) := by decide +kernel
theorem dX7_row_40 : decode cX7_row 40 = .ok (.iastore, 1) := by decide +kernel
theorem dX7_row_41 : decode cX7_row 41 = .ok (.aload_n 0, 1) := by decide +kernel
theorem dX7_row_42 : decode cX7_row 42 = .ok (.getfield 13, 3) := by decide +kernel
theorem dX7_row_45 : decode cX7_row 45 = .ok (.iconst 0, 1) := by decide +kernel
theorem dX7_row_46 : decode cX7_row 46 = .ok (.iconst 0, 1) := by decide +kernel
theorem dX7_row_47 : decode cX7_row 47 = .ok (.iastore, 1) := by decide +kernel
theorem dX7_row_48 : decode cX7_row 48 = .ok (.aload_n 0, 1) := by decide +kernel
theorem dX7_row_49 : decode cX7_row 49 = .ok (.iconst 0, 1) := by decide +kernel
theorem dX7_row_50 : decode cX7_row 50 = .ok (.invokevirtual 103, 3) := by decide +kernel
theorem dX7_row_53 : decode cX7_row 53 = .ok (.istore_n 2, 1) := by decide +kernel
theorem dX7_row_54 : decode cX7_row 54 = .ok (.iconst 0, 1) := by decide +kernel
theorem dX7_row_55 : decode cX7_row 55 = .ok (.istore_n 3, 1) := by decide +kernel
theorem dX7_row_56 : decode cX7_row 56 = .ok (.iload_n 3, 1) := by decide +kernel
theorem dX7_row_57 : decode cX7_row 57 = .ok (.iload_n 1, 1) := by decide +kernel
theorem dX7_row_58 : decode cX7_row 58 = .ok (.if_icmp .ge 22, 3) := by decide +kernel
theorem dX7_row_61 : decode cX7_row 61 = .ok (.aload_n 0, 1) := by decide +kernel
theorem dX7_row_62 : decode cX7_row 62 = .ok (.aload_n 0, 1) := by decide +kernel
theorem dX7_row_63 : decode cX7_row 63 = .ok (.getfield 116, 3) := by decide +kernel
theorem dX7_row_66 : decode cX7_row 66 = .ok (.iload_n 3, 1) := by decide +kernel
theorem dX7_row_67 : decode cX7_row 67 = .ok (.invokestatic 182, 3) := by decide +kernel
theorem dX7_row_70 : decode cX7_row 70 = .ok (.iconst 0, 1) := by decide +kernel
theorem dX7_row_71 : decode cX7_row 71 = .ok (.invokevirtual 110, 3) := by decide +kernel
theorem dX7_row_74 : decode cX7_row 74 = .ok (.iinc 3 1, 3) := by decide +kernel
theorem dX7_row_77 : decode cX7_row 77 = .ok (.goto (-21), 3) := by decide +kernel
theorem dX7_row_80 : decode cX7_row 80 = .ok (.aload_n 0, 1) := by decide +kernel
theorem dX7_row_81 : decode cX7_row 81 = .ok (.dup, 1) := by decide +kernel
theorem dX7_row_82 : decode cX7_row 82 = .ok (.getfield 116, 3) := by decide +kernel
theorem dX7_row_85 : decode cX7_row 85 = .ok (.iconst 1, 1) := by decide +kernel
theorem dX7_row_86 : decode cX7_row 86 = .ok (.iadd, 1) := by decide +kernel
theorem dX7_row_87 : decode cX7_row 87 = .ok (.putfield 116, 3) := by decide +kernel
theorem dX7_row_90 : decode cX7_row 90 = .ok (.aload_n 0, 1) := by decide +kernel
theorem dX7_row_91 : decode cX7_row 91 = .ok (.getfield 116, 3) := by decide +kernel
theorem dX7_row_94 : decode cX7_row 94 = .ok (.iconst 1, 1) := by decide +kernel
theorem dX7_row_95 : decode cX7_row 95 = .ok (.isub, 1) := by decide +kernel
theorem dX7_row_96 : decode cX7_row 96 = .ok (.ireturn, 1) := by decide +kernel
theorem dX7_put__0 : decode cX7_put_ 0 = .ok (.aload_n 0, 1) := by decide +kernel
theorem dX7_put__1 : decode cX7_put_ 1 = .ok (.iconst 0, 1) := by decide +kernel
theorem dX7_put__2 : decode cX7_put_ 2 = .ok (.putfield 47, 3) := by decide +kernel
theorem dX7_put__5 : decode cX7_put_ 5 = .ok (.aload_n 0, 1) := by decide +kernel
theorem dX7_put__6 : decode cX7_put_ 6 = .ok (.iload_n 1, 1) := by decide +kernel
theorem dX7_put__7 : decode cX7_put_ 7 = .ok (.iload_n 2, 1) := by decide +kernel
theorem dX7_put__8 : decode cX7_put_ 8 = .ok (.invokevirtual 185, 3) := by decide +kernel
theorem dX7_put__11 : decode cX7_put_ 11 = .ok (.ifCond .eq 11, 3) := by decide +kernel
theorem dX7_put__14 : decode cX7_put_ 14 = .ok (.aload_n 0, 1) := by decide +kernel
theorem dX7_put__15 : decode cX7_put_ 15 = .ok (.iload_n 3, 1) := by decide +kernel
theorem dX7_put__16 : decode cX7_put_ 16 = .ok (.invokevirtual 136, 3) := by decide +kernel
theorem dX7_put__19 : decode cX7_put_ 19 = .ok (.ifCond .ne 6, 3) := by decide +kernel
theorem dX7_put__22 : decode cX7_put_ 22 = .ok (.bipush (-2), 2) := by decide +kernel
theorem dX7_put__24 : decode cX7_put_ 24 = .ok (.ireturn, 1) := by decide +kernel
theorem dX7_put__25 : decode cX7_put_ 25 = .ok (.aload_n 0, 1) := by decide +kernel
theorem dX7_put__26 : decode cX7_put_ 26 = .ok (.iload_n 1, 1) := by decide +kernel
theorem dX7_put__27 : decode cX7_put_ 27 = .ok (.iload_n 2, 1) := by decide +kernel
theorem dX7_put__28 : decode cX7_put_ 28 = .ok (.invokestatic 182, 3) := by decide +kernel
theorem dX7_put__31 : decode cX7_put_ 31 = .ok (.iload_n 3, 1) := by decide +kernel
theorem dX7_put__32 : decode cX7_put_ 32 = .ok (.invokevirtual 188, 3) := by decide +kernel
theorem dX7_put__35 : decode cX7_put_ 35 = .ok (.iconst 1, 1) := by decide +kernel
theorem dX7_put__36 : decode cX7_put_ 36 = .ok (.ireturn, 1) := by decide +kernel
theorem dX7_take_0 : decode cX7_take 0 = .ok (.aload_n 0, 1) := by decide +kernel
theorem dX7_take_1 : decode cX7_take 1 = .ok (.iconst 0, 1) := by decide +kernel
theorem dX7_take_2 : decode cX7_take 2 = .ok (.putfield 47, 3) := by decide +kernel
theorem dX7_take_5 : decode cX7_take 5 = .ok (.aload_n 0, 1) := by decide +kernel
theorem dX7_take_6 : decode cX7_take 6 = .ok (.iload_n 1, 1) := by decide +kernel
theorem dX7_take_7 : decode cX7_take 7 = .ok (.iload_n 2, 1) := by decide +kernel
theorem dX7_take_8 : decode cX7_take 8 = .ok (.invokevirtual 185, 3) := by decide +kernel
theorem dX7_take_11 : decode cX7_take 11 = .ok (.ifCond .ne 6, 3) := by decide +kernel
theorem dX7_take_14 : decode cX7_take 14 = .ok (.bipush (-2), 2) := by decide +kernel
theorem dX7_take_16 : decode cX7_take 16 = .ok (.ireturn, 1) := by decide +kernel
theorem dX7_take_17 : decode cX7_take 17 = .ok (.aload_n 0, 1) := by decide +kernel
theorem dX7_take_18 : decode cX7_take 18 = .ok (.getfield 113, 3) := by decide +kernel
theorem dX7_take_21 : decode cX7_take 21 = .ok (.sipush 240, 3) := by decide +kernel
theorem dX7_take_24 : decode cX7_take 24 = .ok (.if_icmp .ne 6, 3) := by decide +kernel
theorem dX7_take_27 : decode cX7_take 27 = .ok (.bipush (-3), 2) := by decide +kernel
theorem dX7_take_29 : decode cX7_take 29 = .ok (.ireturn, 1) := by decide +kernel
theorem dX7_take_30 : decode cX7_take 30 = .ok (.aload_n 0, 1) := by decide +kernel
theorem dX7_take_31 : decode cX7_take 31 = .ok (.iconst 0, 1) := by decide +kernel
theorem dX7_take_32 : decode cX7_take 32 = .ok (.iload_n 1, 1) := by decide +kernel
theorem dX7_take_33 : decode cX7_take 33 = .ok (.iload_n 2, 1) := by decide +kernel
theorem dX7_take_34 : decode cX7_take 34 = .ok (.invokestatic 182, 3) := by decide +kernel
theorem dX7_take_37 : decode cX7_take 37 = .ok (.invokevirtual 107, 3) := by decide +kernel
theorem dX7_take_40 : decode cX7_take 40 = .ok (.aload_n 0, 1) := by decide +kernel
theorem dX7_take_41 : decode cX7_take 41 = .ok (.iconst 1, 1) := by decide +kernel
theorem dX7_take_42 : decode cX7_take 42 = .ok (.invokevirtual 132, 3) := by decide +kernel
theorem dX7_take_45 : decode cX7_take 45 = .ok (.ireturn, 1) := by decide +kernel
theorem dX7_areAlong_0 : decode cX7_areAlong 0 = .ok (.aload_n 0, 1) := by decide +kernel
theorem dX7_areAlong_1 : decode cX7_areAlong 1 = .ok (.iload_n 1, 1) := by decide +kernel
theorem dX7_areAlong_2 : decode cX7_areAlong 2 = .ok (.invokevirtual 119, 3) := by decide +kernel
theorem dX7_areAlong_5 : decode cX7_areAlong 5 = .ok (.ifCond .eq 30, 3) := by decide +kernel
theorem dX7_areAlong_8 : decode cX7_areAlong 8 = .ok (.aload_n 0, 1) := by decide +kernel
theorem dX7_areAlong_9 : decode cX7_areAlong 9 = .ok (.iload_n 2, 1) := by decide +kernel
theorem dX7_areAlong_10 : decode cX7_areAlong 10 = .ok (.invokevirtual 119, 3) := by decide +kernel
theorem dX7_areAlong_13 : decode cX7_areAlong 13 = .ok (.ifCond .eq 22, 3) := by decide +kernel
theorem dX7_areAlong_16 : decode cX7_areAlong 16 = .ok (.aload_n 0, 1) := by decide +kernel
theorem dX7_areAlong_17 : decode cX7_areAlong 17 = .ok (.getfield 34, 3) := by decide +kernel
theorem dX7_areAlong_20 : decode cX7_areAlong 20 = .ok (.iload_n 1, 1) := by decide +kernel
theorem dX7_areAlong_21 : decode cX7_areAlong 21 = .ok (.iaload, 1) := by decide +kernel
theorem dX7_areAlong_22 : decode cX7_areAlong 22 = .ok (.aload_n 0, 1) := by decide +kernel
theorem dX7_areAlong_23 : decode cX7_areAlong 23 = .ok (.getfield 34, 3) := by decide +kernel
theorem dX7_areAlong_26 : decode cX7_areAlong 26 = .ok (.iload_n 2, 1) := by decide +kernel
theorem dX7_areAlong_27 : decode cX7_areAlong 27 = .ok (.iaload, 1) := by decide +kernel
theorem dX7_areAlong_28 : decode cX7_areAlong 28 = .ok (.if_icmp .ne 7, 3) := by decide +kernel
theorem dX7_areAlong_31 : decode cX7_areAlong 31 = .ok (.iconst 1, 1) := by decide +kernel
theorem dX7_areAlong_32 : decode cX7_areAlong 32 = .ok (.goto 4, 3) := by decide +kernel
theorem dX7_areAlong_35 : decode cX7_areAlong 35 = .ok (.iconst 0, 1) := by decide +kernel
theorem dX7_areAlong_36 : decode cX7_areAlong 36 = .ok (.ireturn, 1) := by decide +kernel
theorem dX7_dot_0 : decode cX7_dot 0 = .ok (.aload_n 0, 1) := by decide +kernel
theorem dX7_dot_1 : decode cX7_dot 1 = .ok (.iconst 0, 1) := by decide +kernel
theorem dX7_dot_2 : decode cX7_dot 2 = .ok (.putfield 47, 3) := by decide +kernel
theorem dX7_dot_5 : decode cX7_dot 5 = .ok (.aload_n 0, 1) := by decide +kernel
theorem dX7_dot_6 : decode cX7_dot 6 = .ok (.iload_n 1, 1) := by decide +kernel
theorem dX7_dot_7 : decode cX7_dot 7 = .ok (.iload_n 2, 1) := by decide +kernel
theorem dX7_dot_8 : decode cX7_dot 8 = .ok (.invokevirtual 191, 3) := by decide +kernel
theorem dX7_dot_11 : decode cX7_dot 11 = .ok (.ifCond .ne 6, 3) := by decide +kernel
theorem dX7_dot_14 : decode cX7_dot 14 = .ok (.bipush (-2), 2) := by decide +kernel
theorem dX7_dot_16 : decode cX7_dot 16 = .ok (.ireturn, 1) := by decide +kernel
theorem dX7_dot_17 : decode cX7_dot 17 = .ok (.aload_n 0, 1) := by decide +kernel
theorem dX7_dot_18 : decode cX7_dot 18 = .ok (.getfield 113, 3) := by decide +kernel
theorem dX7_dot_21 : decode cX7_dot 21 = .ok (.sipush 240, 3) := by decide +kernel
theorem dX7_dot_24 : decode cX7_dot 24 = .ok (.if_icmp .ne 6, 3) := by decide +kernel
theorem dX7_dot_27 : decode cX7_dot 27 = .ok (.bipush (-3), 2) := by decide +kernel
theorem dX7_dot_29 : decode cX7_dot 29 = .ok (.ireturn, 1) := by decide +kernel
theorem dX7_dot_30 : decode cX7_dot 30 = .ok (.aload_n 0, 1) := by decide +kernel
theorem dX7_dot_31 : decode cX7_dot 31 = .ok (.getfield 13, 3) := by decide +kernel
theorem dX7_dot_34 : decode cX7_dot 34 = .ok (.bipush 6, 2) := by decide +kernel
theorem dX7_dot_36 : decode cX7_dot 36 = .ok (.iconst 0, 1) := by decide +kernel
theorem dX7_dot_37 : decode cX7_dot 37 = .ok (.iastore, 1) := by decide +kernel
theorem dX7_dot_38 : decode cX7_dot 38 = .ok (.aload_n 0, 1) := by decide +kernel
theorem dX7_dot_39 : decode cX7_dot 39 = .ok (.iconst 3, 1) := by decide +kernel
theorem dX7_dot_40 : decode cX7_dot 40 = .ok (.invokevirtual 103, 3) := by decide +kernel
theorem dX7_dot_43 : decode cX7_dot 43 = .ok (.istore_n 3, 1) := by decide +kernel
theorem dX7_dot_44 : decode cX7_dot 44 = .ok (.iconst 0, 1) := by decide +kernel
theorem dX7_dot_45 : decode cX7_dot 45 = .ok (.istore 4, 2) := by decide +kernel
theorem dX7_dot_47 : decode cX7_dot 47 = .ok (.iload 4, 2) := by decide +kernel
theorem dX7_dot_49 : decode cX7_dot 49 = .ok (.aload_n 0, 1) := by decide +kernel
theorem dX7_dot_50 : decode cX7_dot 50 = .ok (.getfield 34, 3) := by decide +kernel
theorem dX7_dot_53 : decode cX7_dot 53 = .ok (.iload_n 1, 1) := by decide +kernel
theorem dX7_dot_54 : decode cX7_dot 54 = .ok (.iaload, 1) := by decide +kernel
theorem dX7_dot_55 : decode cX7_dot 55 = .ok (.if_icmp .ge 66, 3) := by decide +kernel
theorem dX7_dot_58 : decode cX7_dot 58 = .ok (.iload_n 3, 1) := by decide +kernel
theorem dX7_dot_59 : decode cX7_dot 59 = .ok (.ifCond .eq 62, 3) := by decide +kernel
theorem dX7_dot_62 : decode cX7_dot 62 = .ok (.aload_n 0, 1) := by decide +kernel
theorem dX7_dot_63 : decode cX7_dot 63 = .ok (.iconst 1, 1) := by decide +kernel
theorem dX7_dot_64 : decode cX7_dot 64 = .ok (.iload_n 1, 1) := by decide +kernel
theorem dX7_dot_65 : decode cX7_dot 65 = .ok (.iload 4, 2) := by decide +kernel
theorem dX7_dot_67 : decode cX7_dot 67 = .ok (.invokestatic 182, 3) := by decide +kernel
theorem dX7_dot_70 : decode cX7_dot 70 = .ok (.invokevirtual 107, 3) := by decide +kernel
theorem dX7_dot_73 : decode cX7_dot 73 = .ok (.aload_n 0, 1) := by decide +kernel
theorem dX7_dot_74 : decode cX7_dot 74 = .ok (.iconst 2, 1) := by decide +kernel
theorem dX7_dot_75 : decode cX7_dot 75 = .ok (.iload_n 2, 1) := by decide +kernel
theorem dX7_dot_76 : decode cX7_dot 76 = .ok (.iload 4, 2) := by decide +kernel
theorem dX7_dot_78 : decode cX7_dot 78 = .ok (.invokestatic 182, 3) := by decide +kernel
theorem dX7_dot_81 : decode cX7_dot 81 = .ok (.invokevirtual 107, 3) := by decide +kernel
theorem dX7_dot_84 : decode cX7_dot 84 = .ok (.aload_n 0, 1) := by decide +kernel
theorem dX7_dot_85 : decode cX7_dot 85 = .ok (.iconst 1, 1) := by decide +kernel
theorem dX7_dot_86 : decode cX7_dot 86 = .ok (.iconst 2, 1) := by decide +kernel
theorem dX7_dot_87 : decode cX7_dot 87 = .ok (.invokevirtual 143, 3) := by decide +kernel
theorem dX7_dot_90 : decode cX7_dot 90 = .ok (.istore_n 3, 1) := by decide +kernel
theorem dX7_dot_91 : decode cX7_dot 91 = .ok (.iload_n 3, 1) := by decide +kernel
theorem dX7_dot_92 : decode cX7_dot 92 = .ok (.ifCond .eq 23, 3) := by decide +kernel
theorem dX7_dot_95 : decode cX7_dot 95 = .ok (.aload_n 0, 1) := by decide +kernel
theorem dX7_dot_96 : decode cX7_dot 96 = .ok (.iconst 1, 1) := by decide +kernel
theorem dX7_dot_97 : decode cX7_dot 97 = .ok (.iconst 0, 1) := by decide +kernel
theorem dX7_dot_98 : decode cX7_dot 98 = .ok (.invokevirtual 194, 3) := by decide +kernel
theorem dX7_dot_101 : decode cX7_dot 101 = .ok (.aload_n 0, 1) := by decide +kernel
theorem dX7_dot_102 : decode cX7_dot 102 = .ok (.iconst 3, 1) := by decide +kernel
theorem dX7_dot_103 : decode cX7_dot 103 = .ok (.iconst 1, 1) := by decide +kernel
theorem dX7_dot_104 : decode cX7_dot 104 = .ok (.iconst 0, 1) := by decide +kernel
theorem dX7_dot_105 : decode cX7_dot 105 = .ok (.invokevirtual 139, 3) := by decide +kernel
theorem dX7_dot_108 : decode cX7_dot 108 = .ok (.istore_n 3, 1) := by decide +kernel
theorem dX7_dot_109 : decode cX7_dot 109 = .ok (.aload_n 0, 1) := by decide +kernel
theorem dX7_dot_110 : decode cX7_dot 110 = .ok (.iconst 3, 1) := by decide +kernel
theorem dX7_dot_111 : decode cX7_dot 111 = .ok (.iconst 0, 1) := by decide +kernel
theorem dX7_dot_112 : decode cX7_dot 112 = .ok (.invokevirtual 194, 3) := by decide +kernel
theorem dX7_dot_115 : decode cX7_dot 115 = .ok (.iinc 4 1, 3) := by decide +kernel
theorem dX7_dot_118 : decode cX7_dot 118 = .ok (.goto (-71), 3) := by decide +kernel
theorem dX7_dot_121 : decode cX7_dot 121 = .ok (.aload_n 0, 1) := by decide +kernel
theorem dX7_dot_122 : decode cX7_dot 122 = .ok (.iconst 0, 1) := by decide +kernel
theorem dX7_dot_123 : decode cX7_dot 123 = .ok (.iconst 3, 1) := by decide +kernel
theorem dX7_dot_124 : decode cX7_dot 124 = .ok (.invokevirtual 194, 3) := by decide +kernel
theorem dX7_dot_127 : decode cX7_dot 127 = .ok (.aload_n 0, 1) := by decide +kernel
theorem dX7_dot_128 : decode cX7_dot 128 = .ok (.iload_n 3, 1) := by decide +kernel
theorem dX7_dot_129 : decode cX7_dot 129 = .ok (.invokevirtual 132, 3) := by decide +kernel
theorem dX7_dot_132 : decode cX7_dot 132 = .ok (.ireturn, 1) := by decide +kernel
theorem dX7_becomes_0 : decode cX7_becomes 0 = .ok (.iload_n 2, 1) := by decide +kernel
theorem dX7_becomes_1 : decode cX7_becomes 1 = .ok (.ifCond .ne 8, 3) := by decide +kernel
theorem dX7_becomes_4 : decode cX7_becomes 4 = .ok (.aload_n 0, 1) := by decide +kernel
theorem dX7_becomes_5 : decode cX7_becomes 5 = .ok (.invokevirtual 125, 3) := by decide +kernel
theorem dX7_becomes_8 : decode cX7_becomes 8 = .ok (.ireturn, 1) := by decide +kernel
theorem dX7_becomes_9 : decode cX7_becomes 9 = .ok (.iconst 0, 1) := by decide +kernel
theorem dX7_becomes_10 : decode cX7_becomes 10 = .ok (.istore_n 3, 1) := by decide +kernel
theorem dX7_becomes_11 : decode cX7_becomes 11 = .ok (.iload_n 3, 1) := by decide +kernel
theorem dX7_becomes_12 : decode cX7_becomes 12 = .ok (.aload_n 0, 1) := by decide +kernel
theorem dX7_becomes_13 : decode cX7_becomes 13 = .ok (.getfield 34, 3) := by decide +kernel
theorem dX7_becomes_16 : decode cX7_becomes 16 = .ok (.iload_n 1, 1) := by decide +kernel
theorem dX7_becomes_17 : decode cX7_becomes 17 = .ok (.iaload, 1) := by decide +kernel
theorem dX7_becomes_18 : decode cX7_becomes 18 = .ok (.if_icmp .ge 23, 3) := by decide +kernel
theorem dX7_becomes_21 : decode cX7_becomes 21 = .ok (.aload_n 0, 1) := by decide +kernel
theorem dX7_becomes_22 : decode cX7_becomes 22 = .ok (.iload_n 1, 1) := by decide +kernel
theorem dX7_becomes_23 : decode cX7_becomes 23 = .ok (.iload_n 3, 1) := by decide +kernel
theorem dX7_becomes_24 : decode cX7_becomes 24 = .ok (.invokestatic 182, 3) := by decide +kernel
theorem dX7_becomes_27 : decode cX7_becomes 27 = .ok (.sipush 440, 3) := by decide +kernel
theorem dX7_becomes_30 : decode cX7_becomes 30 = .ok (.iload_n 3, 1) := by decide +kernel
theorem dX7_becomes_31 : decode cX7_becomes 31 = .ok (.iadd, 1) := by decide +kernel
theorem dX7_becomes_32 : decode cX7_becomes 32 = .ok (.invokevirtual 188, 3) := by decide +kernel
theorem dX7_becomes_35 : decode cX7_becomes 35 = .ok (.iinc 3 1, 3) := by decide +kernel
theorem dX7_becomes_38 : decode cX7_becomes 38 = .ok (.goto (-27), 3) := by decide +kernel
theorem dX7_becomes_41 : decode cX7_becomes 41 = .ok (.iconst 1, 1) := by decide +kernel
theorem dX7_becomes_42 : decode cX7_becomes 42 = .ok (.ireturn, 1) := by decide +kernel
theorem dX7_scale_0 : decode cX7_scale 0 = .ok (.aload_n 0, 1) := by decide +kernel
theorem dX7_scale_1 : decode cX7_scale 1 = .ok (.iconst 0, 1) := by decide +kernel
theorem dX7_scale_2 : decode cX7_scale 2 = .ok (.putfield 47, 3) := by decide +kernel
theorem dX7_scale_5 : decode cX7_scale 5 = .ok (.aload_n 0, 1) := by decide +kernel
theorem dX7_scale_6 : decode cX7_scale 6 = .ok (.iload_n 1, 1) := by decide +kernel
theorem dX7_scale_7 : decode cX7_scale 7 = .ok (.invokevirtual 119, 3) := by decide +kernel
theorem dX7_scale_10 : decode cX7_scale 10 = .ok (.ifCond .eq 11, 3) := by decide +kernel
theorem dX7_scale_13 : decode cX7_scale 13 = .ok (.aload_n 0, 1) := by decide +kernel
theorem dX7_scale_14 : decode cX7_scale 14 = .ok (.iload_n 2, 1) := by decide +kernel
theorem dX7_scale_15 : decode cX7_scale 15 = .ok (.invokevirtual 136, 3) := by decide +kernel
theorem dX7_scale_18 : decode cX7_scale 18 = .ok (.ifCond .ne 6, 3) := by decide +kernel
theorem dX7_scale_21 : decode cX7_scale 21 = .ok (.bipush (-2), 2) := by decide +kernel
theorem dX7_scale_23 : decode cX7_scale 23 = .ok (.ireturn, 1) := by decide +kernel
theorem dX7_scale_24 : decode cX7_scale 24 = .ok (.aload_n 0, 1) := by decide +kernel
theorem dX7_scale_25 : decode cX7_scale 25 = .ok (.getfield 19, 3) := by decide +kernel
theorem dX7_scale_28 : decode cX7_scale 28 = .ok (.iload_n 2, 1) := by decide +kernel
theorem dX7_scale_29 : decode cX7_scale 29 = .ok (.iaload, 1) := by decide +kernel
theorem dX7_scale_30 : decode cX7_scale 30 = .ok (.ifCond .ne 6, 3) := by decide +kernel
theorem dX7_scale_33 : decode cX7_scale 33 = .ok (.bipush (-5), 2) := by decide +kernel
theorem dX7_scale_35 : decode cX7_scale 35 = .ok (.ireturn, 1) := by decide +kernel
theorem dX7_scale_36 : decode cX7_scale 36 = .ok (.iconst 1, 1) := by decide +kernel
theorem dX7_scale_37 : decode cX7_scale 37 = .ok (.istore_n 3, 1) := by decide +kernel
theorem dX7_scale_38 : decode cX7_scale 38 = .ok (.aload_n 0, 1) := by decide +kernel
theorem dX7_scale_39 : decode cX7_scale 39 = .ok (.iconst 2, 1) := by decide +kernel
theorem dX7_scale_40 : decode cX7_scale 40 = .ok (.iload_n 2, 1) := by decide +kernel
theorem dX7_scale_41 : decode cX7_scale 41 = .ok (.invokevirtual 107, 3) := by decide +kernel
theorem dX7_scale_44 : decode cX7_scale 44 = .ok (.iconst 0, 1) := by decide +kernel
theorem dX7_scale_45 : decode cX7_scale 45 = .ok (.istore 4, 2) := by decide +kernel
theorem dX7_scale_47 : decode cX7_scale 47 = .ok (.iload 4, 2) := by decide +kernel
theorem dX7_scale_49 : decode cX7_scale 49 = .ok (.aload_n 0, 1) := by decide +kernel
theorem dX7_scale_50 : decode cX7_scale 50 = .ok (.getfield 34, 3) := by decide +kernel
theorem dX7_scale_53 : decode cX7_scale 53 = .ok (.iload_n 1, 1) := by decide +kernel
theorem dX7_scale_54 : decode cX7_scale 54 = .ok (.iaload, 1) := by decide +kernel
theorem dX7_scale_55 : decode cX7_scale 55 = .ok (.if_icmp .ge 46, 3) := by decide +kernel
theorem dX7_scale_58 : decode cX7_scale 58 = .ok (.iload_n 3, 1) := by decide +kernel
theorem dX7_scale_59 : decode cX7_scale 59 = .ok (.ifCond .eq 42, 3) := by decide +kernel
theorem dX7_scale_62 : decode cX7_scale 62 = .ok (.aload_n 0, 1) := by decide +kernel
theorem dX7_scale_63 : decode cX7_scale 63 = .ok (.iconst 1, 1) := by decide +kernel
theorem dX7_scale_64 : decode cX7_scale 64 = .ok (.iload_n 1, 1) := by decide +kernel
theorem dX7_scale_65 : decode cX7_scale 65 = .ok (.iload 4, 2) := by decide +kernel
theorem dX7_scale_67 : decode cX7_scale 67 = .ok (.invokestatic 182, 3) := by decide +kernel
theorem dX7_scale_70 : decode cX7_scale 70 = .ok (.invokevirtual 107, 3) := by decide +kernel
theorem dX7_scale_73 : decode cX7_scale 73 = .ok (.aload_n 0, 1) := by decide +kernel
theorem dX7_scale_74 : decode cX7_scale 74 = .ok (.iconst 1, 1) := by decide +kernel
theorem dX7_scale_75 : decode cX7_scale 75 = .ok (.iconst 2, 1) := by decide +kernel
theorem dX7_scale_76 : decode cX7_scale 76 = .ok (.invokevirtual 143, 3) := by decide +kernel
theorem dX7_scale_79 : decode cX7_scale 79 = .ok (.istore_n 3, 1) := by decide +kernel
theorem dX7_scale_80 : decode cX7_scale 80 = .ok (.iload_n 3, 1) := by decide +kernel
theorem dX7_scale_81 : decode cX7_scale 81 = .ok (.ifCond .eq 14, 3) := by decide +kernel
theorem dX7_scale_84 : decode cX7_scale 84 = .ok (.aload_n 0, 1) := by decide +kernel
theorem dX7_scale_85 : decode cX7_scale 85 = .ok (.sipush 440, 3) := by decide +kernel
theorem dX7_scale_88 : decode cX7_scale 88 = .ok (.iload 4, 2) := by decide +kernel
theorem dX7_scale_90 : decode cX7_scale 90 = .ok (.iadd, 1) := by decide +kernel
theorem dX7_scale_91 : decode cX7_scale 91 = .ok (.iconst 0, 1) := by decide +kernel
theorem dX7_scale_92 : decode cX7_scale 92 = .ok (.invokevirtual 110, 3) := by decide +kernel
theorem dX7_scale_95 : decode cX7_scale 95 = .ok (.iinc 4 1, 3) := by decide +kernel
theorem dX7_scale_98 : decode cX7_scale 98 = .ok (.goto (-51), 3) := by decide +kernel
theorem dX7_scale_101 : decode cX7_scale 101 = .ok (.aload_n 0, 1) := by decide +kernel
theorem dX7_scale_102 : decode cX7_scale 102 = .ok (.iload_n 1, 1) := by decide +kernel
theorem dX7_scale_103 : decode cX7_scale 103 = .ok (.iload_n 3, 1) := by decide +kernel
theorem dX7_scale_104 : decode cX7_scale 104 = .ok (.invokevirtual 197, 3) := by decide +kernel
theorem dX7_scale_107 : decode cX7_scale 107 = .ok (.ireturn, 1) := by decide +kernel
theorem dX7_eliminate_0 : decode cX7_eliminate 0 = .ok (.aload_n 0, 1) := by decide +kernel
theorem dX7_eliminate_1 : decode cX7_eliminate 1 = .ok (.iconst 0, 1) := by decide +kernel
theorem dX7_eliminate_2 : decode cX7_eliminate 2 = .ok (.putfield 47, 3) := by decide +kernel
theorem dX7_eliminate_5 : decode cX7_eliminate 5 = .ok (.aload_n 0, 1) := by decide +kernel
theorem dX7_eliminate_6 : decode cX7_eliminate 6 = .ok (.iload_n 1, 1) := by decide +kernel
theorem dX7_eliminate_7 : decode cX7_eliminate 7 = .ok (.iload_n 2, 1) := by decide +kernel
theorem dX7_eliminate_8 : decode cX7_eliminate 8 = .ok (.invokevirtual 191, 3) := by decide +kernel
theorem dX7_eliminate_11 : decode cX7_eliminate 11 = .ok (.ifCond .eq 17, 3) := by decide +kernel
theorem dX7_eliminate_14 : decode cX7_eliminate 14 = .ok (.iload_n 1, 1) := by decide +kernel
theorem dX7_eliminate_15 : decode cX7_eliminate 15 = .ok (.iload_n 2, 1) := by decide +kernel
theorem dX7_eliminate_16 : decode cX7_eliminate 16 = .ok (.if_icmp .eq 12, 3) := by decide +kernel
theorem dX7_eliminate_19 : decode cX7_eliminate 19 = .ok (.aload_n 0, 1) := by decide +kernel
theorem dX7_eliminate_20 : decode cX7_eliminate 20 = .ok (.iload_n 1, 1) := by decide +kernel
theorem dX7_eliminate_21 : decode cX7_eliminate 21 = .ok (.iload_n 3, 1) := by decide +kernel
theorem dX7_eliminate_22 : decode cX7_eliminate 22 = .ok (.invokevirtual 185, 3) := by decide +kernel
theorem dX7_eliminate_25 : decode cX7_eliminate 25 = .ok (.ifCond .ne 6, 3) := by decide +kernel
theorem dX7_eliminate_28 : decode cX7_eliminate 28 = .ok (.bipush (-2), 2) := by decide +kernel
theorem dX7_eliminate_30 : decode cX7_eliminate 30 = .ok (.ireturn, 1) := by decide +kernel
theorem dX7_eliminate_31 : decode cX7_eliminate 31 = .ok (.aload_n 0, 1) := by decide +kernel
theorem dX7_eliminate_32 : decode cX7_eliminate 32 = .ok (.getfield 19, 3) := by decide +kernel
theorem dX7_eliminate_35 : decode cX7_eliminate 35 = .ok (.iload_n 2, 1) := by decide +kernel
theorem dX7_eliminate_36 : decode cX7_eliminate 36 = .ok (.iload_n 3, 1) := by decide +kernel
theorem dX7_eliminate_37 : decode cX7_eliminate 37 = .ok (.invokestatic 182, 3) := by decide +kernel
theorem dX7_eliminate_40 : decode cX7_eliminate 40 = .ok (.iaload, 1) := by decide +kernel
theorem dX7_eliminate_41 : decode cX7_eliminate 41 = .ok (.ifCond .ne 6, 3) := by decide +kernel
theorem dX7_eliminate_44 : decode cX7_eliminate 44 = .ok (.bipush (-5), 2) := by decide +kernel
theorem dX7_eliminate_46 : decode cX7_eliminate 46 = .ok (.ireturn, 1) := by decide +kernel
theorem dX7_eliminate_47 : decode cX7_eliminate 47 = .ok (.aload_n 0, 1) := by decide +kernel
theorem dX7_eliminate_48 : decode cX7_eliminate 48 = .ok (.getfield 19, 3) := by decide +kernel
theorem dX7_eliminate_51 : decode cX7_eliminate 51 = .ok (.iload_n 1, 1) := by decide +kernel
theorem dX7_eliminate_52 : decode cX7_eliminate 52 = .ok (.iload_n 3, 1) := by decide +kernel
theorem dX7_eliminate_53 : decode cX7_eliminate 53 = .ok (.invokestatic 182, 3) := by decide +kernel
theorem dX7_eliminate_56 : decode cX7_eliminate 56 = .ok (.iaload, 1) := by decide +kernel
theorem dX7_eliminate_57 : decode cX7_eliminate 57 = .ok (.ifCond .ne 5, 3) := by decide +kernel
theorem dX7_eliminate_60 : decode cX7_eliminate 60 = .ok (.iconst 0, 1) := by decide +kernel
theorem dX7_eliminate_61 : decode cX7_eliminate 61 = .ok (.ireturn, 1) := by decide +kernel
theorem dX7_eliminate_62 : decode cX7_eliminate 62 = .ok (.aload_n 0, 1) := by decide +kernel
theorem dX7_eliminate_63 : decode cX7_eliminate 63 = .ok (.iconst 1, 1) := by decide +kernel
theorem dX7_eliminate_64 : decode cX7_eliminate 64 = .ok (.iload_n 1, 1) := by decide +kernel
theorem dX7_eliminate_65 : decode cX7_eliminate 65 = .ok (.iload_n 3, 1) := by decide +kernel
theorem dX7_eliminate_66 : decode cX7_eliminate 66 = .ok (.invokestatic 182, 3) := by decide +kernel
theorem dX7_eliminate_69 : decode cX7_eliminate 69 = .ok (.invokevirtual 107, 3) := by decide +kernel
theorem dX7_eliminate_72 : decode cX7_eliminate 72 = .ok (.aload_n 0, 1) := by decide +kernel
theorem dX7_eliminate_73 : decode cX7_eliminate 73 = .ok (.iconst 2, 1) := by decide +kernel
theorem dX7_eliminate_74 : decode cX7_eliminate 74 = .ok (.iload_n 2, 1) := by decide +kernel
theorem dX7_eliminate_75 : decode cX7_eliminate 75 = .ok (.iload_n 3, 1) := by decide +kernel
theorem dX7_eliminate_76 : decode cX7_eliminate 76 = .ok (.invokestatic 182, 3) := by decide +kernel
theorem dX7_eliminate_79 : decode cX7_eliminate 79 = .ok (.invokevirtual 107, 3) := by decide +kernel
theorem dX7_eliminate_82 : decode cX7_eliminate 82 = .ok (.aload_n 0, 1) := by decide +kernel
theorem dX7_eliminate_83 : decode cX7_eliminate 83 = .ok (.iconst 1, 1) := by decide +kernel
theorem dX7_eliminate_84 : decode cX7_eliminate 84 = .ok (.iconst 2, 1) := by decide +kernel
theorem dX7_eliminate_85 : decode cX7_eliminate 85 = .ok (.invokevirtual 147, 3) := by decide +kernel
theorem dX7_eliminate_88 : decode cX7_eliminate 88 = .ok (.istore 4, 2) := by decide +kernel
theorem dX7_eliminate_90 : decode cX7_eliminate 90 = .ok (.aload_n 0, 1) := by decide +kernel
theorem dX7_eliminate_91 : decode cX7_eliminate 91 = .ok (.iconst 3, 1) := by decide +kernel
theorem dX7_eliminate_92 : decode cX7_eliminate 92 = .ok (.iconst 0, 1) := by decide +kernel
theorem dX7_eliminate_93 : decode cX7_eliminate 93 = .ok (.invokevirtual 194, 3) := by decide +kernel
theorem dX7_eliminate_96 : decode cX7_eliminate 96 = .ok (.iconst 0, 1) := by decide +kernel
theorem dX7_eliminate_97 : decode cX7_eliminate 97 = .ok (.istore 5, 2) := by decide +kernel
theorem dX7_eliminate_99 : decode cX7_eliminate 99 = .ok (.iload 5, 2) := by decide +kernel
theorem dX7_eliminate_101 : decode cX7_eliminate 101 = .ok (.aload_n 0, 1) := by decide +kernel
theorem dX7_eliminate_102 : decode cX7_eliminate 102 = .ok (.getfield 34, 3) := by decide +kernel
theorem dX7_eliminate_105 : decode cX7_eliminate 105 = .ok (.iload_n 1, 1) := by decide +kernel
theorem dX7_eliminate_106 : decode cX7_eliminate 106 = .ok (.iaload, 1) := by decide +kernel
theorem dX7_eliminate_107 : decode cX7_eliminate 107 = .ok (.if_icmp .ge 80, 3) := by decide +kernel
theorem dX7_eliminate_110 : decode cX7_eliminate 110 = .ok (.iload 4, 2) := by decide +kernel
theorem dX7_eliminate_112 : decode cX7_eliminate 112 = .ok (.ifCond .eq 75, 3) := by decide +kernel
theorem dX7_eliminate_115 : decode cX7_eliminate 115 = .ok (.aload_n 0, 1) := by decide +kernel
theorem dX7_eliminate_116 : decode cX7_eliminate 116 = .ok (.iconst 1, 1) := by decide +kernel
theorem dX7_eliminate_117 : decode cX7_eliminate 117 = .ok (.iload_n 2, 1) := by decide +kernel
theorem dX7_eliminate_118 : decode cX7_eliminate 118 = .ok (.iload 5, 2) := by decide +kernel
theorem dX7_eliminate_120 : decode cX7_eliminate 120 = .ok (.invokestatic 182, 3) := by decide +kernel
theorem dX7_eliminate_123 : decode cX7_eliminate 123 = .ok (.invokevirtual 107, 3) := by decide +kernel
theorem dX7_eliminate_126 : decode cX7_eliminate 126 = .ok (.aload_n 0, 1) := by decide +kernel
theorem dX7_eliminate_127 : decode cX7_eliminate 127 = .ok (.iconst 3, 1) := by decide +kernel
theorem dX7_eliminate_128 : decode cX7_eliminate 128 = .ok (.iconst 1, 1) := by decide +kernel
theorem dX7_eliminate_129 : decode cX7_eliminate 129 = .ok (.invokevirtual 143, 3) := by decide +kernel
theorem dX7_eliminate_132 : decode cX7_eliminate 132 = .ok (.istore 4, 2) := by decide +kernel
theorem dX7_eliminate_134 : decode cX7_eliminate 134 = .ok (.iload 4, 2) := by decide +kernel
theorem dX7_eliminate_136 : decode cX7_eliminate 136 = .ok (.ifCond .eq 29, 3) := by decide +kernel
theorem dX7_eliminate_139 : decode cX7_eliminate 139 = .ok (.aload_n 0, 1) := by decide +kernel
theorem dX7_eliminate_140 : decode cX7_eliminate 140 = .ok (.iconst 2, 1) := by decide +kernel
theorem dX7_eliminate_141 : decode cX7_eliminate 141 = .ok (.iconst 0, 1) := by decide +kernel
theorem dX7_eliminate_142 : decode cX7_eliminate 142 = .ok (.invokevirtual 194, 3) := by decide +kernel
theorem dX7_eliminate_145 : decode cX7_eliminate 145 = .ok (.aload_n 0, 1) := by decide +kernel
theorem dX7_eliminate_146 : decode cX7_eliminate 146 = .ok (.iconst 1, 1) := by decide +kernel
theorem dX7_eliminate_147 : decode cX7_eliminate 147 = .ok (.iload_n 1, 1) := by decide +kernel
theorem dX7_eliminate_148 : decode cX7_eliminate 148 = .ok (.iload 5, 2) := by decide +kernel
theorem dX7_eliminate_150 : decode cX7_eliminate 150 = .ok (.invokestatic 182, 3) := by decide +kernel
theorem dX7_eliminate_153 : decode cX7_eliminate 153 = .ok (.invokevirtual 107, 3) := by decide +kernel
theorem dX7_eliminate_156 : decode cX7_eliminate 156 = .ok (.aload_n 0, 1) := by decide +kernel
theorem dX7_eliminate_157 : decode cX7_eliminate 157 = .ok (.iconst 1, 1) := by decide +kernel
theorem dX7_eliminate_158 : decode cX7_eliminate 158 = .ok (.iconst 2, 1) := by decide +kernel
theorem dX7_eliminate_159 : decode cX7_eliminate 159 = .ok (.iconst 1, 1) := by decide +kernel
theorem dX7_eliminate_160 : decode cX7_eliminate 160 = .ok (.invokevirtual 139, 3) := by decide +kernel
theorem dX7_eliminate_163 : decode cX7_eliminate 163 = .ok (.istore 4, 2) := by decide +kernel
theorem dX7_eliminate_165 : decode cX7_eliminate 165 = .ok (.iload 4, 2) := by decide +kernel
theorem dX7_eliminate_167 : decode cX7_eliminate 167 = .ok (.ifCond .eq 14, 3) := by decide +kernel
theorem dX7_eliminate_170 : decode cX7_eliminate 170 = .ok (.aload_n 0, 1) := by decide +kernel
theorem dX7_eliminate_171 : decode cX7_eliminate 171 = .ok (.sipush 440, 3) := by decide +kernel
theorem dX7_eliminate_174 : decode cX7_eliminate 174 = .ok (.iload 5, 2) := by decide +kernel
theorem dX7_eliminate_176 : decode cX7_eliminate 176 = .ok (.iadd, 1) := by decide +kernel
theorem dX7_eliminate_177 : decode cX7_eliminate 177 = .ok (.iconst 0, 1) := by decide +kernel
theorem dX7_eliminate_178 : decode cX7_eliminate 178 = .ok (.invokevirtual 110, 3) := by decide +kernel
theorem dX7_eliminate_181 : decode cX7_eliminate 181 = .ok (.iinc 5 1, 3) := by decide +kernel
theorem dX7_eliminate_184 : decode cX7_eliminate 184 = .ok (.goto (-85), 3) := by decide +kernel
theorem dX7_eliminate_187 : decode cX7_eliminate 187 = .ok (.aload_n 0, 1) := by decide +kernel
theorem dX7_eliminate_188 : decode cX7_eliminate 188 = .ok (.iload_n 1, 1) := by decide +kernel
theorem dX7_eliminate_189 : decode cX7_eliminate 189 = .ok (.iload 4, 2) := by decide +kernel
theorem dX7_eliminate_191 : decode cX7_eliminate 191 = .ok (.invokevirtual 197, 3) := by decide +kernel
theorem dX7_eliminate_194 : decode cX7_eliminate 194 = .ok (.ireturn, 1) := by decide +kernel
theorem dX7_primitive_0 : decode cX7_primitive 0 = .ok (.aload_n 0, 1) := by decide +kernel
theorem dX7_primitive_1 : decode cX7_primitive 1 = .ok (.iconst 0, 1) := by decide +kernel
theorem dX7_primitive_2 : decode cX7_primitive 2 = .ok (.putfield 47, 3) := by decide +kernel
theorem dX7_primitive_5 : decode cX7_primitive 5 = .ok (.aload_n 0, 1) := by decide +kernel
theorem dX7_primitive_6 : decode cX7_primitive 6 = .ok (.iload_n 1, 1) := by decide +kernel
theorem dX7_primitive_7 : decode cX7_primitive 7 = .ok (.invokevirtual 119, 3) := by decide +kernel
theorem dX7_primitive_10 : decode cX7_primitive 10 = .ok (.ifCond .ne 6, 3) := by decide +kernel
theorem dX7_primitive_13 : decode cX7_primitive 13 = .ok (.bipush (-2), 2) := by decide +kernel
theorem dX7_primitive_15 : decode cX7_primitive 15 = .ok (.ireturn, 1) := by decide +kernel
theorem dX7_primitive_16 : decode cX7_primitive 16 = .ok (.aload_n 0, 1) := by decide +kernel
theorem dX7_primitive_17 : decode cX7_primitive 17 = .ok (.iconst 3, 1) := by decide +kernel
theorem dX7_primitive_18 : decode cX7_primitive 18 = .ok (.iload_n 1, 1) := by decide +kernel
theorem dX7_primitive_19 : decode cX7_primitive 19 = .ok (.iconst 0, 1) := by decide +kernel
theorem dX7_primitive_20 : decode cX7_primitive 20 = .ok (.invokestatic 182, 3) := by decide +kernel
theorem dX7_primitive_23 : decode cX7_primitive 23 = .ok (.invokevirtual 107, 3) := by decide +kernel
theorem dX7_primitive_26 : decode cX7_primitive 26 = .ok (.aload_n 0, 1) := by decide +kernel
theorem dX7_primitive_27 : decode cX7_primitive 27 = .ok (.getfield 16, 3) := by decide +kernel
theorem dX7_primitive_30 : decode cX7_primitive 30 = .ok (.iconst 3, 1) := by decide +kernel
theorem dX7_primitive_31 : decode cX7_primitive 31 = .ok (.aload_n 0, 1) := by decide +kernel
theorem dX7_primitive_32 : decode cX7_primitive 32 = .ok (.getfield 16, 3) := by decide +kernel
theorem dX7_primitive_35 : decode cX7_primitive 35 = .ok (.iconst 3, 1) := by decide +kernel
theorem dX7_primitive_36 : decode cX7_primitive 36 = .ok (.iaload, 1) := by decide +kernel
theorem dX7_primitive_37 : decode cX7_primitive 37 = .ok (.ifCond .ne 7, 3) := by decide +kernel
theorem dX7_primitive_40 : decode cX7_primitive 40 = .ok (.iconst 0, 1) := by decide +kernel
theorem dX7_primitive_41 : decode cX7_primitive 41 = .ok (.goto 4, 3) := by decide +kernel
theorem dX7_primitive_44 : decode cX7_primitive 44 = .ok (.iconst 1, 1) := by decide +kernel
theorem dX7_primitive_45 : decode cX7_primitive 45 = .ok (.iastore, 1) := by decide +kernel
theorem dX7_primitive_46 : decode cX7_primitive 46 = .ok (.iconst 1, 1) := by decide +kernel
theorem dX7_primitive_47 : decode cX7_primitive 47 = .ok (.istore_n 2, 1) := by decide +kernel
theorem dX7_primitive_48 : decode cX7_primitive 48 = .ok (.iconst 1, 1) := by decide +kernel
theorem dX7_primitive_49 : decode cX7_primitive 49 = .ok (.istore_n 3, 1) := by decide +kernel
theorem dX7_primitive_50 : decode cX7_primitive 50 = .ok (.iload_n 3, 1) := by decide +kernel
theorem dX7_primitive_51 : decode cX7_primitive 51 = .ok (.aload_n 0, 1) := by decide +kernel
theorem dX7_primitive_52 : decode cX7_primitive 52 = .ok (.getfield 34, 3) := by decide +kernel
theorem dX7_primitive_55 : decode cX7_primitive 55 = .ok (.iload_n 1, 1) := by decide +kernel
theorem dX7_primitive_56 : decode cX7_primitive 56 = .ok (.iaload, 1) := by decide +kernel
theorem dX7_primitive_57 : decode cX7_primitive 57 = .ok (.if_icmp .ge 36, 3) := by decide +kernel
theorem dX7_primitive_60 : decode cX7_primitive 60 = .ok (.iload_n 2, 1) := by decide +kernel
theorem dX7_primitive_61 : decode cX7_primitive 61 = .ok (.ifCond .eq 32, 3) := by decide +kernel
theorem dX7_primitive_64 : decode cX7_primitive 64 = .ok (.aload_n 0, 1) := by decide +kernel
theorem dX7_primitive_65 : decode cX7_primitive 65 = .ok (.iconst 1, 1) := by decide +kernel
theorem dX7_primitive_66 : decode cX7_primitive 66 = .ok (.iload_n 1, 1) := by decide +kernel
theorem dX7_primitive_67 : decode cX7_primitive 67 = .ok (.iload_n 3, 1) := by decide +kernel
theorem dX7_primitive_68 : decode cX7_primitive 68 = .ok (.invokestatic 182, 3) := by decide +kernel
theorem dX7_primitive_71 : decode cX7_primitive 71 = .ok (.invokevirtual 107, 3) := by decide +kernel
theorem dX7_primitive_74 : decode cX7_primitive 74 = .ok (.aload_n 0, 1) := by decide +kernel
theorem dX7_primitive_75 : decode cX7_primitive 75 = .ok (.iconst 3, 1) := by decide +kernel
theorem dX7_primitive_76 : decode cX7_primitive 76 = .ok (.iconst 1, 1) := by decide +kernel
theorem dX7_primitive_77 : decode cX7_primitive 77 = .ok (.invokevirtual 153, 3) := by decide +kernel
theorem dX7_primitive_80 : decode cX7_primitive 80 = .ok (.istore_n 2, 1) := by decide +kernel
theorem dX7_primitive_81 : decode cX7_primitive 81 = .ok (.aload_n 0, 1) := by decide +kernel
theorem dX7_primitive_82 : decode cX7_primitive 82 = .ok (.iconst 3, 1) := by decide +kernel
theorem dX7_primitive_83 : decode cX7_primitive 83 = .ok (.iconst 0, 1) := by decide +kernel
theorem dX7_primitive_84 : decode cX7_primitive 84 = .ok (.invokevirtual 194, 3) := by decide +kernel
theorem dX7_primitive_87 : decode cX7_primitive 87 = .ok (.iinc 3 1, 3) := by decide +kernel
theorem dX7_primitive_90 : decode cX7_primitive 90 = .ok (.goto (-40), 3) := by decide +kernel
theorem dX7_primitive_93 : decode cX7_primitive 93 = .ok (.iload_n 2, 1) := by decide +kernel
theorem dX7_primitive_94 : decode cX7_primitive 94 = .ok (.ifCond .eq 14, 3) := by decide +kernel
theorem dX7_primitive_97 : decode cX7_primitive 97 = .ok (.aload_n 0, 1) := by decide +kernel
theorem dX7_primitive_98 : decode cX7_primitive 98 = .ok (.getfield 16, 3) := by decide +kernel
theorem dX7_primitive_101 : decode cX7_primitive 101 = .ok (.iconst 3, 1) := by decide +kernel
theorem dX7_primitive_102 : decode cX7_primitive 102 = .ok (.iaload, 1) := by decide +kernel
theorem dX7_primitive_103 : decode cX7_primitive 103 = .ok (.ifCond .ne 5, 3) := by decide +kernel
theorem dX7_primitive_106 : decode cX7_primitive 106 = .ok (.iconst 0, 1) := by decide +kernel
theorem dX7_primitive_107 : decode cX7_primitive 107 = .ok (.ireturn, 1) := by decide +kernel
theorem dX7_primitive_108 : decode cX7_primitive 108 = .ok (.iconst 0, 1) := by decide +kernel
theorem dX7_primitive_109 : decode cX7_primitive 109 = .ok (.istore_n 3, 1) := by decide +kernel
theorem dX7_primitive_110 : decode cX7_primitive 110 = .ok (.iload_n 3, 1) := by decide +kernel
theorem dX7_primitive_111 : decode cX7_primitive 111 = .ok (.aload_n 0, 1) := by decide +kernel
theorem dX7_primitive_112 : decode cX7_primitive 112 = .ok (.getfield 34, 3) := by decide +kernel
theorem dX7_primitive_115 : decode cX7_primitive 115 = .ok (.iload_n 1, 1) := by decide +kernel
theorem dX7_primitive_116 : decode cX7_primitive 116 = .ok (.iaload, 1) := by decide +kernel
theorem dX7_primitive_117 : decode cX7_primitive 117 = .ok (.if_icmp .ge 44, 3) := by decide +kernel
theorem dX7_primitive_120 : decode cX7_primitive 120 = .ok (.iload_n 2, 1) := by decide +kernel
theorem dX7_primitive_121 : decode cX7_primitive 121 = .ok (.ifCond .eq 40, 3) := by decide +kernel
theorem dX7_primitive_124 : decode cX7_primitive 124 = .ok (.aload_n 0, 1) := by decide +kernel
theorem dX7_primitive_125 : decode cX7_primitive 125 = .ok (.iconst 1, 1) := by decide +kernel
theorem dX7_primitive_126 : decode cX7_primitive 126 = .ok (.iload_n 1, 1) := by decide +kernel
theorem dX7_primitive_127 : decode cX7_primitive 127 = .ok (.iload_n 3, 1) := by decide +kernel
theorem dX7_primitive_128 : decode cX7_primitive 128 = .ok (.invokestatic 182, 3) := by decide +kernel
theorem dX7_primitive_131 : decode cX7_primitive 131 = .ok (.invokevirtual 107, 3) := by decide +kernel
theorem dX7_primitive_134 : decode cX7_primitive 134 = .ok (.aload_n 0, 1) := by decide +kernel
theorem dX7_primitive_135 : decode cX7_primitive 135 = .ok (.iconst 1, 1) := by decide +kernel
theorem dX7_primitive_136 : decode cX7_primitive 136 = .ok (.iconst 3, 1) := by decide +kernel
theorem dX7_primitive_137 : decode cX7_primitive 137 = .ok (.invokevirtual 147, 3) := by decide +kernel
theorem dX7_primitive_140 : decode cX7_primitive 140 = .ok (.istore_n 2, 1) := by decide +kernel
theorem dX7_primitive_141 : decode cX7_primitive 141 = .ok (.iload_n 2, 1) := by decide +kernel
theorem dX7_primitive_142 : decode cX7_primitive 142 = .ok (.ifCond .eq 13, 3) := by decide +kernel
theorem dX7_primitive_145 : decode cX7_primitive 145 = .ok (.aload_n 0, 1) := by decide +kernel
theorem dX7_primitive_146 : decode cX7_primitive 146 = .ok (.sipush 440, 3) := by decide +kernel
theorem dX7_primitive_149 : decode cX7_primitive 149 = .ok (.iload_n 3, 1) := by decide +kernel
theorem dX7_primitive_150 : decode cX7_primitive 150 = .ok (.iadd, 1) := by decide +kernel
theorem dX7_primitive_151 : decode cX7_primitive 151 = .ok (.iconst 0, 1) := by decide +kernel
theorem dX7_primitive_152 : decode cX7_primitive 152 = .ok (.invokevirtual 110, 3) := by decide +kernel
theorem dX7_primitive_155 : decode cX7_primitive 155 = .ok (.iinc 3 1, 3) := by decide +kernel
theorem dX7_primitive_158 : decode cX7_primitive 158 = .ok (.goto (-48), 3) := by decide +kernel
theorem dX7_primitive_161 : decode cX7_primitive 161 = .ok (.aload_n 0, 1) := by decide +kernel
theorem dX7_primitive_162 : decode cX7_primitive 162 = .ok (.iload_n 1, 1) := by decide +kernel
theorem dX7_primitive_163 : decode cX7_primitive 163 = .ok (.iload_n 2, 1) := by decide +kernel
theorem dX7_primitive_164 : decode cX7_primitive 164 = .ok (.invokevirtual 197, 3) := by decide +kernel
theorem dX7_primitive_167 : decode cX7_primitive 167 = .ok (.ireturn, 1) := by decide +kernel
theorem dX7_leads_0 : decode cX7_leads 0 = .ok (.iconst 0, 1) := by decide +kernel
theorem dX7_leads_1 : decode cX7_leads 1 = .ok (.istore_n 2, 1) := by decide +kernel
theorem dX7_leads_2 : decode cX7_leads 2 = .ok (.iload_n 2, 1) := by decide +kernel
theorem dX7_leads_3 : decode cX7_leads 3 = .ok (.aload_n 0, 1) := by decide +kernel
theorem dX7_leads_4 : decode cX7_leads 4 = .ok (.getfield 34, 3) := by decide +kernel
theorem dX7_leads_7 : decode cX7_leads 7 = .ok (.iload_n 1, 1) := by decide +kernel
theorem dX7_leads_8 : decode cX7_leads 8 = .ok (.iaload, 1) := by decide +kernel
theorem dX7_leads_9 : decode cX7_leads 9 = .ok (.if_icmp .ge 24, 3) := by decide +kernel
theorem dX7_leads_12 : decode cX7_leads 12 = .ok (.aload_n 0, 1) := by decide +kernel
theorem dX7_leads_13 : decode cX7_leads 13 = .ok (.getfield 19, 3) := by decide +kernel
theorem dX7_leads_16 : decode cX7_leads 16 = .ok (.iload_n 1, 1) := by decide +kernel
theorem dX7_leads_17 : decode cX7_leads 17 = .ok (.iload_n 2, 1) := by decide +kernel
theorem dX7_leads_18 : decode cX7_leads 18 = .ok (.invokestatic 182, 3) := by decide +kernel
theorem dX7_leads_21 : decode cX7_leads 21 = .ok (.iaload, 1) := by decide +kernel
theorem dX7_leads_22 : decode cX7_leads 22 = .ok (.ifCond .eq 5, 3) := by decide +kernel
theorem dX7_leads_25 : decode cX7_leads 25 = .ok (.iload_n 2, 1) := by decide +kernel
theorem dX7_leads_26 : decode cX7_leads 26 = .ok (.ireturn, 1) := by decide +kernel
theorem dX7_leads_27 : decode cX7_leads 27 = .ok (.iinc 2 1, 3) := by decide +kernel
theorem dX7_leads_30 : decode cX7_leads 30 = .ok (.goto (-28), 3) := by decide +kernel
theorem dX7_leads_33 : decode cX7_leads 33 = .ok (.iconst (-1), 1) := by decide +kernel
theorem dX7_leads_34 : decode cX7_leads 34 = .ok (.ireturn, 1) := by decide +kernel
theorem dX7_lead_0 : decode cX7_lead 0 = .ok (.aload_n 0, 1) := by decide +kernel
theorem dX7_lead_1 : decode cX7_lead 1 = .ok (.iconst 0, 1) := by decide +kernel
theorem dX7_lead_2 : decode cX7_lead 2 = .ok (.putfield 47, 3) := by decide +kernel
theorem dX7_lead_5 : decode cX7_lead 5 = .ok (.aload_n 0, 1) := by decide +kernel
theorem dX7_lead_6 : decode cX7_lead 6 = .ok (.iload_n 1, 1) := by decide +kernel
theorem dX7_lead_7 : decode cX7_lead 7 = .ok (.invokevirtual 119, 3) := by decide +kernel
theorem dX7_lead_10 : decode cX7_lead 10 = .ok (.ifCond .eq 11, 3) := by decide +kernel
theorem dX7_lead_13 : decode cX7_lead 13 = .ok (.aload_n 0, 1) := by decide +kernel
theorem dX7_lead_14 : decode cX7_lead 14 = .ok (.iload_n 1, 1) := by decide +kernel
theorem dX7_lead_15 : decode cX7_lead 15 = .ok (.invokevirtual 201, 3) := by decide +kernel
theorem dX7_lead_18 : decode cX7_lead 18 = .ok (.goto 5, 3) := by decide +kernel
theorem dX7_lead_21 : decode cX7_lead 21 = .ok (.bipush (-2), 2) := by decide +kernel
theorem dX7_lead_23 : decode cX7_lead 23 = .ok (.ireturn, 1) := by decide +kernel
theorem dX7_areAcross_0 : decode cX7_areAcross 0 = .ok (.aload_n 0, 1) := by decide +kernel
theorem dX7_areAcross_1 : decode cX7_areAcross 1 = .ok (.getfield 19, 3) := by decide +kernel
theorem dX7_areAcross_4 : decode cX7_areAcross 4 = .ok (.iload_n 1, 1) := by decide +kernel
theorem dX7_areAcross_5 : decode cX7_areAcross 5 = .ok (.iload_n 3, 1) := by decide +kernel
theorem dX7_areAcross_6 : decode cX7_areAcross 6 = .ok (.invokestatic 182, 3) := by decide +kernel
theorem dX7_areAcross_9 : decode cX7_areAcross 9 = .ok (.iaload, 1) := by decide +kernel
theorem dX7_areAcross_10 : decode cX7_areAcross 10 = .ok (.aload_n 0, 1) := by decide +kernel
theorem dX7_areAcross_11 : decode cX7_areAcross 11 = .ok (.getfield 19, 3) := by decide +kernel
theorem dX7_areAcross_14 : decode cX7_areAcross 14 = .ok (.iload_n 2, 1) := by decide +kernel
theorem dX7_areAcross_15 : decode cX7_areAcross 15 = .ok (.iload 4, 2) := by decide +kernel
theorem dX7_areAcross_17 : decode cX7_areAcross 17 = .ok (.invokestatic 182, 3) := by decide +kernel
theorem dX7_areAcross_20 : decode cX7_areAcross 20 = .ok (.iaload, 1) := by decide +kernel
theorem dX7_areAcross_21 : decode cX7_areAcross 21 = .ok (.imul, 1) := by decide +kernel
theorem dX7_areAcross_22 : decode cX7_areAcross 22 = .ok (.istore 5, 2) := by decide +kernel
theorem dX7_areAcross_24 : decode cX7_areAcross 24 = .ok (.iload 5, 2) := by decide +kernel
theorem dX7_areAcross_26 : decode cX7_areAcross 26 = .ok (.aload_n 0, 1) := by decide +kernel
theorem dX7_areAcross_27 : decode cX7_areAcross 27 = .ok (.getfield 19, 3) := by decide +kernel
theorem dX7_areAcross_30 : decode cX7_areAcross 30 = .ok (.iload_n 2, 1) := by decide +kernel
theorem dX7_areAcross_31 : decode cX7_areAcross 31 = .ok (.iload_n 3, 1) := by decide +kernel
theorem dX7_areAcross_32 : decode cX7_areAcross 32 = .ok (.invokestatic 182, 3) := by decide +kernel
theorem dX7_areAcross_35 : decode cX7_areAcross 35 = .ok (.iaload, 1) := by decide +kernel
theorem dX7_areAcross_36 : decode cX7_areAcross 36 = .ok (.aload_n 0, 1) := by decide +kernel
theorem dX7_areAcross_37 : decode cX7_areAcross 37 = .ok (.getfield 19, 3) := by decide +kernel
theorem dX7_areAcross_40 : decode cX7_areAcross 40 = .ok (.iload_n 1, 1) := by decide +kernel
theorem dX7_areAcross_41 : decode cX7_areAcross 41 = .ok (.iload 4, 2) := by decide +kernel
theorem dX7_areAcross_43 : decode cX7_areAcross 43 = .ok (.invokestatic 182, 3) := by decide +kernel
theorem dX7_areAcross_46 : decode cX7_areAcross 46 = .ok (.iaload, 1) := by decide +kernel
theorem dX7_areAcross_47 : decode cX7_areAcross 47 = .ok (.imul, 1) := by decide +kernel
theorem dX7_areAcross_48 : decode cX7_areAcross 48 = .ok (.if_icmp .eq 5, 3) := by decide +kernel
theorem dX7_areAcross_51 : decode cX7_areAcross 51 = .ok (.iconst 0, 1) := by decide +kernel
theorem dX7_areAcross_52 : decode cX7_areAcross 52 = .ok (.ireturn, 1) := by decide +kernel
theorem dX7_areAcross_53 : decode cX7_areAcross 53 = .ok (.aload_n 0, 1) := by decide +kernel
theorem dX7_areAcross_54 : decode cX7_areAcross 54 = .ok (.iconst 1, 1) := by decide +kernel
theorem dX7_areAcross_55 : decode cX7_areAcross 55 = .ok (.iload_n 1, 1) := by decide +kernel
theorem dX7_areAcross_56 : decode cX7_areAcross 56 = .ok (.iload_n 3, 1) := by decide +kernel
theorem dX7_areAcross_57 : decode cX7_areAcross 57 = .ok (.invokestatic 182, 3) := by decide +kernel
theorem dX7_areAcross_60 : decode cX7_areAcross 60 = .ok (.invokevirtual 107, 3) := by decide +kernel
theorem dX7_areAcross_63 : decode cX7_areAcross 63 = .ok (.aload_n 0, 1) := by decide +kernel
theorem dX7_areAcross_64 : decode cX7_areAcross 64 = .ok (.iconst 2, 1) := by decide +kernel
theorem dX7_areAcross_65 : decode cX7_areAcross 65 = .ok (.iload_n 2, 1) := by decide +kernel
theorem dX7_areAcross_66 : decode cX7_areAcross 66 = .ok (.iload 4, 2) := by decide +kernel
theorem dX7_areAcross_68 : decode cX7_areAcross 68 = .ok (.invokestatic 182, 3) := by decide +kernel
theorem dX7_areAcross_71 : decode cX7_areAcross 71 = .ok (.invokevirtual 107, 3) := by decide +kernel
theorem dX7_areAcross_74 : decode cX7_areAcross 74 = .ok (.aload_n 0, 1) := by decide +kernel
theorem dX7_areAcross_75 : decode cX7_areAcross 75 = .ok (.bipush 16, 2) := by decide +kernel
theorem dX7_areAcross_77 : decode cX7_areAcross 77 = .ok (.iconst 2, 1) := by decide +kernel
theorem dX7_areAcross_78 : decode cX7_areAcross 78 = .ok (.iconst 4, 1) := by decide +kernel
theorem dX7_areAcross_79 : decode cX7_areAcross 79 = .ok (.invokevirtual 94, 3) := by decide +kernel
theorem dX7_areAcross_82 : decode cX7_areAcross 82 = .ok (.aload_n 0, 1) := by decide +kernel
theorem dX7_areAcross_83 : decode cX7_areAcross 83 = .ok (.bipush 17, 2) := by decide +kernel
theorem dX7_areAcross_85 : decode cX7_areAcross 85 = .ok (.iconst 3, 1) := by decide +kernel
theorem dX7_areAcross_86 : decode cX7_areAcross 86 = .ok (.iconst 5, 1) := by decide +kernel
theorem dX7_areAcross_87 : decode cX7_areAcross 87 = .ok (.invokevirtual 94, 3) := by decide +kernel
theorem dX7_areAcross_90 : decode cX7_areAcross 90 = .ok (.aload_n 0, 1) := by decide +kernel
theorem dX7_areAcross_91 : decode cX7_areAcross 91 = .ok (.iconst 1, 1) := by decide +kernel
theorem dX7_areAcross_92 : decode cX7_areAcross 92 = .ok (.iload_n 2, 1) := by decide +kernel
theorem dX7_areAcross_93 : decode cX7_areAcross 93 = .ok (.iload_n 3, 1) := by decide +kernel
theorem dX7_areAcross_94 : decode cX7_areAcross 94 = .ok (.invokestatic 182, 3) := by decide +kernel
theorem dX7_areAcross_97 : decode cX7_areAcross 97 = .ok (.invokevirtual 107, 3) := by decide +kernel
theorem dX7_areAcross_100 : decode cX7_areAcross 100 = .ok (.aload_n 0, 1) := by decide +kernel
theorem dX7_areAcross_101 : decode cX7_areAcross 101 = .ok (.iconst 2, 1) := by decide +kernel
theorem dX7_areAcross_102 : decode cX7_areAcross 102 = .ok (.iload_n 1, 1) := by decide +kernel
theorem dX7_areAcross_103 : decode cX7_areAcross 103 = .ok (.iload 4, 2) := by decide +kernel
theorem dX7_areAcross_105 : decode cX7_areAcross 105 = .ok (.invokestatic 182, 3) := by decide +kernel
theorem dX7_areAcross_108 : decode cX7_areAcross 108 = .ok (.invokevirtual 107, 3) := by decide +kernel
theorem dX7_areAcross_111 : decode cX7_areAcross 111 = .ok (.aload_n 0, 1) := by decide +kernel
theorem dX7_areAcross_112 : decode cX7_areAcross 112 = .ok (.bipush 10, 2) := by decide +kernel
theorem dX7_areAcross_114 : decode cX7_areAcross 114 = .ok (.iconst 2, 1) := by decide +kernel
theorem dX7_areAcross_115 : decode cX7_areAcross 115 = .ok (.iconst 4, 1) := by decide +kernel
theorem dX7_areAcross_116 : decode cX7_areAcross 116 = .ok (.invokevirtual 94, 3) := by decide +kernel
theorem dX7_areAcross_119 : decode cX7_areAcross 119 = .ok (.aload_n 0, 1) := by decide +kernel
theorem dX7_areAcross_120 : decode cX7_areAcross 120 = .ok (.bipush 11, 2) := by decide +kernel
theorem dX7_areAcross_122 : decode cX7_areAcross 122 = .ok (.iconst 3, 1) := by decide +kernel
theorem dX7_areAcross_123 : decode cX7_areAcross 123 = .ok (.iconst 5, 1) := by decide +kernel
theorem dX7_areAcross_124 : decode cX7_areAcross 124 = .ok (.invokevirtual 94, 3) := by decide +kernel
theorem dX7_areAcross_127 : decode cX7_areAcross 127 = .ok (.aload_n 0, 1) := by decide +kernel
theorem dX7_areAcross_128 : decode cX7_areAcross 128 = .ok (.bipush 12, 2) := by decide +kernel
theorem dX7_areAcross_130 : decode cX7_areAcross 130 = .ok (.bipush 16, 2) := by decide +kernel
theorem dX7_areAcross_132 : decode cX7_areAcross 132 = .ok (.bipush 11, 2) := by decide +kernel
theorem dX7_areAcross_134 : decode cX7_areAcross 134 = .ok (.invokevirtual 94, 3) := by decide +kernel
theorem dX7_areAcross_137 : decode cX7_areAcross 137 = .ok (.aload_n 0, 1) := by decide +kernel
theorem dX7_areAcross_138 : decode cX7_areAcross 138 = .ok (.bipush 13, 2) := by decide +kernel
theorem dX7_areAcross_140 : decode cX7_areAcross 140 = .ok (.bipush 10, 2) := by decide +kernel
theorem dX7_areAcross_142 : decode cX7_areAcross 142 = .ok (.bipush 17, 2) := by decide +kernel
theorem dX7_areAcross_144 : decode cX7_areAcross 144 = .ok (.invokevirtual 94, 3) := by decide +kernel
theorem dX7_areAcross_147 : decode cX7_areAcross 147 = .ok (.aload_n 0, 1) := by decide +kernel
theorem dX7_areAcross_148 : decode cX7_areAcross 148 = .ok (.bipush 12, 2) := by decide +kernel
theorem dX7_areAcross_150 : decode cX7_areAcross 150 = .ok (.bipush 13, 2) := by decide +kernel
theorem dX7_areAcross_152 : decode cX7_areAcross 152 = .ok (.invokevirtual 91, 3) := by decide +kernel
theorem dX7_areAcross_155 : decode cX7_areAcross 155 = .ok (.ifCond .ne 7, 3) := by decide +kernel
theorem dX7_areAcross_158 : decode cX7_areAcross 158 = .ok (.iconst 1, 1) := by decide +kernel
theorem dX7_areAcross_159 : decode cX7_areAcross 159 = .ok (.goto 4, 3) := by decide +kernel
theorem dX7_areAcross_162 : decode cX7_areAcross 162 = .ok (.iconst 0, 1) := by decide +kernel
theorem dX7_areAcross_163 : decode cX7_areAcross 163 = .ok (.ireturn, 1) := by decide +kernel
theorem dX7_alike_0 : decode cX7_alike 0 = .ok (.aload_n 0, 1) := by decide +kernel
theorem dX7_alike_1 : decode cX7_alike 1 = .ok (.iconst 0, 1) := by decide +kernel
theorem dX7_alike_2 : decode cX7_alike 2 = .ok (.putfield 47, 3) := by decide +kernel
theorem dX7_alike_5 : decode cX7_alike 5 = .ok (.aload_n 0, 1) := by decide +kernel
theorem dX7_alike_6 : decode cX7_alike 6 = .ok (.iload_n 1, 1) := by decide +kernel
theorem dX7_alike_7 : decode cX7_alike 7 = .ok (.iload_n 2, 1) := by decide +kernel
theorem dX7_alike_8 : decode cX7_alike 8 = .ok (.invokevirtual 191, 3) := by decide +kernel
theorem dX7_alike_11 : decode cX7_alike 11 = .ok (.ifCond .eq 12, 3) := by decide +kernel
theorem dX7_alike_14 : decode cX7_alike 14 = .ok (.iload_n 3, 1) := by decide +kernel
theorem dX7_alike_15 : decode cX7_alike 15 = .ok (.ifCond .lt 8, 3) := by decide +kernel
theorem dX7_alike_18 : decode cX7_alike 18 = .ok (.iload_n 3, 1) := by decide +kernel
theorem dX7_alike_19 : decode cX7_alike 19 = .ok (.iconst 1, 1) := by decide +kernel
theorem dX7_alike_20 : decode cX7_alike 20 = .ok (.if_icmp .le 6, 3) := by decide +kernel
theorem dX7_alike_23 : decode cX7_alike 23 = .ok (.bipush (-2), 2) := by decide +kernel
theorem dX7_alike_25 : decode cX7_alike 25 = .ok (.ireturn, 1) := by decide +kernel
theorem dX7_alike_26 : decode cX7_alike 26 = .ok (.aload_n 0, 1) := by decide +kernel
theorem dX7_alike_27 : decode cX7_alike 27 = .ok (.iload_n 1, 1) := by decide +kernel
theorem dX7_alike_28 : decode cX7_alike 28 = .ok (.invokevirtual 201, 3) := by decide +kernel
theorem dX7_alike_31 : decode cX7_alike 31 = .ok (.aload_n 0, 1) := by decide +kernel
theorem dX7_alike_32 : decode cX7_alike 32 = .ok (.iload_n 2, 1) := by decide +kernel
theorem dX7_alike_33 : decode cX7_alike 33 = .ok (.invokevirtual 201, 3) := by decide +kernel
theorem dX7_alike_36 : decode cX7_alike 36 = .ok (.if_icmp .ne 7, 3) := by decide +kernel
theorem dX7_alike_39 : decode cX7_alike 39 = .ok (.iconst 1, 1) := by decide +kernel
theorem dX7_alike_40 : decode cX7_alike 40 = .ok (.goto 4, 3) := by decide +kernel
theorem dX7_alike_43 : decode cX7_alike 43 = .ok (.iconst 0, 1) := by decide +kernel
theorem dX7_alike_44 : decode cX7_alike 44 = .ok (.istore 4, 2) := by decide +kernel
theorem dX7_alike_46 : decode cX7_alike 46 = .ok (.aload_n 0, 1) := by decide +kernel
theorem dX7_alike_47 : decode cX7_alike 47 = .ok (.iload_n 1, 1) := by decide +kernel
theorem dX7_alike_48 : decode cX7_alike 48 = .ok (.invokevirtual 201, 3) := by decide +kernel
theorem dX7_alike_51 : decode cX7_alike 51 = .ok (.istore 5, 2) := by decide +kernel
theorem dX7_alike_53 : decode cX7_alike 53 = .ok (.iconst 0, 1) := by decide +kernel
theorem dX7_alike_54 : decode cX7_alike 54 = .ok (.istore 6, 2) := by decide +kernel
theorem dX7_alike_56 : decode cX7_alike 56 = .ok (.iload 6, 2) := by decide +kernel
theorem dX7_alike_58 : decode cX7_alike 58 = .ok (.aload_n 0, 1) := by decide +kernel
theorem dX7_alike_59 : decode cX7_alike 59 = .ok (.getfield 34, 3) := by decide +kernel
theorem dX7_alike_62 : decode cX7_alike 62 = .ok (.iload_n 1, 1) := by decide +kernel
theorem dX7_alike_63 : decode cX7_alike 63 = .ok (.iaload, 1) := by decide +kernel
theorem dX7_alike_64 : decode cX7_alike 64 = .ok (.if_icmp .ge 78, 3) := by decide +kernel
theorem dX7_alike_67 : decode cX7_alike 67 = .ok (.iload 4, 2) := by decide +kernel
theorem dX7_alike_69 : decode cX7_alike 69 = .ok (.ifCond .eq 73, 3) := by decide +kernel
theorem dX7_alike_72 : decode cX7_alike 72 = .ok (.iload 5, 2) := by decide +kernel
theorem dX7_alike_74 : decode cX7_alike 74 = .ok (.iconst (-1), 1) := by decide +kernel
theorem dX7_alike_75 : decode cX7_alike 75 = .ok (.if_icmp .eq 67, 3) := by decide +kernel
theorem dX7_alike_78 : decode cX7_alike 78 = .ok (.iload_n 3, 1) := by decide +kernel
theorem dX7_alike_79 : decode cX7_alike 79 = .ok (.iconst 1, 1) := by decide +kernel
theorem dX7_alike_80 : decode cX7_alike 80 = .ok (.if_icmp .ne 18, 3) := by decide +kernel
theorem dX7_alike_83 : decode cX7_alike 83 = .ok (.aload_n 0, 1) := by decide +kernel
theorem dX7_alike_84 : decode cX7_alike 84 = .ok (.iload_n 1, 1) := by decide +kernel
theorem dX7_alike_85 : decode cX7_alike 85 = .ok (.iload_n 2, 1) := by decide +kernel
theorem dX7_alike_86 : decode cX7_alike 86 = .ok (.iload 6, 2) := by decide +kernel
theorem dX7_alike_88 : decode cX7_alike 88 = .ok (.iload 5, 2) := by decide +kernel
theorem dX7_alike_90 : decode cX7_alike 90 = .ok (.invokevirtual 204, 3) := by decide +kernel
theorem dX7_alike_93 : decode cX7_alike 93 = .ok (.istore 4, 2) := by decide +kernel
theorem dX7_alike_95 : decode cX7_alike 95 = .ok (.goto 41, 3) := by decide +kernel
theorem dX7_alike_98 : decode cX7_alike 98 = .ok (.aload_n 0, 1) := by decide +kernel
theorem dX7_alike_99 : decode cX7_alike 99 = .ok (.iconst 1, 1) := by decide +kernel
theorem dX7_alike_100 : decode cX7_alike 100 = .ok (.iload_n 1, 1) := by decide +kernel
theorem dX7_alike_101 : decode cX7_alike 101 = .ok (.iload 6, 2) := by decide +kernel
theorem dX7_alike_103 : decode cX7_alike 103 = .ok (.invokestatic 182, 3) := by decide +kernel
theorem dX7_alike_106 : decode cX7_alike 106 = .ok (.invokevirtual 107, 3) := by decide +kernel
theorem dX7_alike_109 : decode cX7_alike 109 = .ok (.aload_n 0, 1) := by decide +kernel
theorem dX7_alike_110 : decode cX7_alike 110 = .ok (.iconst 2, 1) := by decide +kernel
theorem dX7_alike_111 : decode cX7_alike 111 = .ok (.iload_n 2, 1) := by decide +kernel
theorem dX7_alike_112 : decode cX7_alike 112 = .ok (.iload 6, 2) := by decide +kernel
theorem dX7_alike_114 : decode cX7_alike 114 = .ok (.invokestatic 182, 3) := by decide +kernel
theorem dX7_alike_117 : decode cX7_alike 117 = .ok (.invokevirtual 107, 3) := by decide +kernel
theorem dX7_alike_120 : decode cX7_alike 120 = .ok (.aload_n 0, 1) := by decide +kernel
theorem dX7_alike_121 : decode cX7_alike 121 = .ok (.iconst 1, 1) := by decide +kernel
theorem dX7_alike_122 : decode cX7_alike 122 = .ok (.iconst 2, 1) := by decide +kernel
theorem dX7_alike_123 : decode cX7_alike 123 = .ok (.invokevirtual 159, 3) := by decide +kernel
theorem dX7_alike_126 : decode cX7_alike 126 = .ok (.ifCond .ne 7, 3) := by decide +kernel
theorem dX7_alike_129 : decode cX7_alike 129 = .ok (.iconst 1, 1) := by decide +kernel
theorem dX7_alike_130 : decode cX7_alike 130 = .ok (.goto 4, 3) := by decide +kernel
theorem dX7_alike_133 : decode cX7_alike 133 = .ok (.iconst 0, 1) := by decide +kernel
theorem dX7_alike_134 : decode cX7_alike 134 = .ok (.istore 4, 2) := by decide +kernel
theorem dX7_alike_136 : decode cX7_alike 136 = .ok (.iinc 6 1, 3) := by decide +kernel
theorem dX7_alike_139 : decode cX7_alike 139 = .ok (.goto (-83), 3) := by decide +kernel
theorem dX7_alike_142 : decode cX7_alike 142 = .ok (.iload 4, 2) := by decide +kernel
theorem dX7_alike_144 : decode cX7_alike 144 = .ok (.ifCond .eq 7, 3) := by decide +kernel
theorem dX7_alike_147 : decode cX7_alike 147 = .ok (.iconst 1, 1) := by decide +kernel
theorem dX7_alike_148 : decode cX7_alike 148 = .ok (.goto 4, 3) := by decide +kernel
theorem dX7_alike_151 : decode cX7_alike 151 = .ok (.iconst 0, 1) := by decide +kernel
theorem dX7_alike_152 : decode cX7_alike 152 = .ok (.ireturn, 1) := by decide +kernel
theorem dX7_say_0 : decode cX7_say 0 = .ok (.aload_n 0, 1) := by decide +kernel
theorem dX7_say_1 : decode cX7_say 1 = .ok (.getfield 37, 3) := by decide +kernel
theorem dX7_say_4 : decode cX7_say 4 = .ok (.aload_n 0, 1) := by decide +kernel
theorem dX7_say_5 : decode cX7_say 5 = .ok (.getfield 208, 3) := by decide +kernel
theorem dX7_say_8 : decode cX7_say 8 = .ok (.iload_n 1, 1) := by decide +kernel
theorem dX7_say_9 : decode cX7_say 9 = .ok (.iastore, 1) := by decide +kernel
theorem dX7_say_10 : decode cX7_say 10 = .ok (.aload_n 0, 1) := by decide +kernel
theorem dX7_say_11 : decode cX7_say 11 = .ok (.dup, 1) := by decide +kernel
theorem dX7_say_12 : decode cX7_say 12 = .ok (.getfield 208, 3) := by decide +kernel
theorem dX7_say_15 : decode cX7_say 15 = .ok (.iconst 1, 1) := by decide +kernel
theorem dX7_say_16 : decode cX7_say 16 = .ok (.iadd, 1) := by decide +kernel
theorem dX7_say_17 : decode cX7_say 17 = .ok (.putfield 208, 3) := by decide +kernel
theorem dX7_say_20 : decode cX7_say 20 = .ok (.return_, 1) := by decide +kernel
theorem dX7_tenth_0 : decode cX7_tenth 0 = .ok (.iconst 0, 1) := by decide +kernel
theorem dX7_tenth_1 : decode cX7_tenth 1 = .ok (.istore_n 1, 1) := by decide +kernel
theorem dX7_tenth_2 : decode cX7_tenth 2 = .ok (.aload_n 0, 1) := by decide +kernel
theorem dX7_tenth_3 : decode cX7_tenth 3 = .ok (.getfield 13, 3) := by decide +kernel
theorem dX7_tenth_6 : decode cX7_tenth 6 = .ok (.bipush 12, 2) := by decide +kernel
theorem dX7_tenth_8 : decode cX7_tenth 8 = .ok (.iaload, 1) := by decide +kernel
theorem dX7_tenth_9 : decode cX7_tenth 9 = .ok (.iconst 1, 1) := by decide +kernel
theorem dX7_tenth_10 : decode cX7_tenth 10 = .ok (.isub, 1) := by decide +kernel
theorem dX7_tenth_11 : decode cX7_tenth 11 = .ok (.istore_n 2, 1) := by decide +kernel
theorem dX7_tenth_12 : decode cX7_tenth 12 = .ok (.iload_n 2, 1) := by decide +kernel
theorem dX7_tenth_13 : decode cX7_tenth 13 = .ok (.ifCond .lt 44, 3) := by decide +kernel
theorem dX7_tenth_16 : decode cX7_tenth 16 = .ok (.iload_n 1, 1) := by decide +kernel
theorem dX7_tenth_17 : decode cX7_tenth 17 = .ok (.bipush 16, 2) := by decide +kernel
theorem dX7_tenth_19 : decode cX7_tenth 19 = .ok (.ishl, 1) := by decide +kernel
theorem dX7_tenth_20 : decode cX7_tenth 20 = .ok (.aload_n 0, 1) := by decide +kernel
theorem dX7_tenth_21 : decode cX7_tenth 21 = .ok (.getfield 7, 3) := by decide +kernel
theorem dX7_tenth_24 : decode cX7_tenth 24 = .ok (.sipush 1920, 3) := by decide +kernel
theorem dX7_tenth_27 : decode cX7_tenth 27 = .ok (.iload_n 2, 1) := by decide +kernel
theorem dX7_tenth_28 : decode cX7_tenth 28 = .ok (.iadd, 1) := by decide +kernel
theorem dX7_tenth_29 : decode cX7_tenth 29 = .ok (.iaload, 1) := by decide +kernel
theorem dX7_tenth_30 : decode cX7_tenth 30 = .ok (.ior, 1) := by decide +kernel
theorem dX7_tenth_31 : decode cX7_tenth 31 = .ok (.istore_n 3, 1) := by decide +kernel
theorem dX7_tenth_32 : decode cX7_tenth 32 = .ok (.aload_n 0, 1) := by decide +kernel
theorem dX7_tenth_33 : decode cX7_tenth 33 = .ok (.getfield 7, 3) := by decide +kernel
theorem dX7_tenth_36 : decode cX7_tenth 36 = .ok (.sipush 1920, 3) := by decide +kernel
theorem dX7_tenth_39 : decode cX7_tenth 39 = .ok (.iload_n 2, 1) := by decide +kernel
theorem dX7_tenth_40 : decode cX7_tenth 40 = .ok (.iadd, 1) := by decide +kernel
theorem dX7_tenth_41 : decode cX7_tenth 41 = .ok (.iload_n 3, 1) := by decide +kernel
theorem dX7_tenth_42 : decode cX7_tenth 42 = .ok (.bipush 10, 2) := by decide +kernel
theorem dX7_tenth_44 : decode cX7_tenth 44 = .ok (.idiv, 1) := by decide +kernel
theorem dX7_tenth_45 : decode cX7_tenth 45 = .ok (.iastore, 1) := by decide +kernel
theorem dX7_tenth_46 : decode cX7_tenth 46 = .ok (.iload_n 3, 1) := by decide +kernel
theorem dX7_tenth_47 : decode cX7_tenth 47 = .ok (.bipush 10, 2) := by decide +kernel
theorem dX7_tenth_49 : decode cX7_tenth 49 = .ok (.irem, 1) := by decide +kernel
theorem dX7_tenth_50 : decode cX7_tenth 50 = .ok (.istore_n 1, 1) := by decide +kernel
theorem dX7_tenth_51 : decode cX7_tenth 51 = .ok (.iinc 2 (-1), 3) := by decide +kernel
theorem dX7_tenth_54 : decode cX7_tenth 54 = .ok (.goto (-42), 3) := by decide +kernel
theorem dX7_tenth_57 : decode cX7_tenth 57 = .ok (.aload_n 0, 1) := by decide +kernel
theorem dX7_tenth_58 : decode cX7_tenth 58 = .ok (.bipush 12, 2) := by decide +kernel
theorem dX7_tenth_60 : decode cX7_tenth 60 = .ok (.aload_n 0, 1) := by decide +kernel
theorem dX7_tenth_61 : decode cX7_tenth 61 = .ok (.getfield 13, 3) := by decide +kernel
theorem dX7_tenth_64 : decode cX7_tenth 64 = .ok (.bipush 12, 2) := by decide +kernel
theorem dX7_tenth_66 : decode cX7_tenth 66 = .ok (.iaload, 1) := by decide +kernel
theorem dX7_tenth_67 : decode cX7_tenth 67 = .ok (.invokevirtual 58, 3) := by decide +kernel
theorem dX7_tenth_70 : decode cX7_tenth 70 = .ok (.iload_n 1, 1) := by decide +kernel
theorem dX7_tenth_71 : decode cX7_tenth 71 = .ok (.ireturn, 1) := by decide +kernel
theorem dX7_decimal_0 : decode cX7_decimal 0 = .ok (.aload_n 0, 1) := by decide +kernel
theorem dX7_decimal_1 : decode cX7_decimal 1 = .ok (.iconst 0, 1) := by decide +kernel
theorem dX7_decimal_2 : decode cX7_decimal 2 = .ok (.putfield 47, 3) := by decide +kernel
theorem dX7_decimal_5 : decode cX7_decimal 5 = .ok (.aload_n 0, 1) := by decide +kernel
theorem dX7_decimal_6 : decode cX7_decimal 6 = .ok (.iload_n 1, 1) := by decide +kernel
theorem dX7_decimal_7 : decode cX7_decimal 7 = .ok (.invokevirtual 136, 3) := by decide +kernel
theorem dX7_decimal_10 : decode cX7_decimal 10 = .ok (.ifCond .eq 22, 3) := by decide +kernel
theorem dX7_decimal_13 : decode cX7_decimal 13 = .ok (.iload_n 2, 1) := by decide +kernel
theorem dX7_decimal_14 : decode cX7_decimal 14 = .ok (.ifCond .lt 18, 3) := by decide +kernel
theorem dX7_decimal_17 : decode cX7_decimal 17 = .ok (.iload_n 2, 1) := by decide +kernel
theorem dX7_decimal_18 : decode cX7_decimal 18 = .ok (.bipush 30, 2) := by decide +kernel
theorem dX7_decimal_20 : decode cX7_decimal 20 = .ok (.if_icmp .gt 12, 3) := by decide +kernel
theorem dX7_decimal_23 : decode cX7_decimal 23 = .ok (.iload_n 3, 1) := by decide +kernel
theorem dX7_decimal_24 : decode cX7_decimal 24 = .ok (.ifCond .lt 8, 3) := by decide +kernel
theorem dX7_decimal_27 : decode cX7_decimal 27 = .ok (.iload_n 3, 1) := by decide +kernel
theorem dX7_decimal_28 : decode cX7_decimal 28 = .ok (.iconst 1, 1) := by decide +kernel
theorem dX7_decimal_29 : decode cX7_decimal 29 = .ok (.if_icmp .le 6, 3) := by decide +kernel
theorem dX7_decimal_32 : decode cX7_decimal 32 = .ok (.bipush (-2), 2) := by decide +kernel
theorem dX7_decimal_34 : decode cX7_decimal 34 = .ok (.ireturn, 1) := by decide +kernel
theorem dX7_decimal_35 : decode cX7_decimal 35 = .ok (.aload_n 0, 1) := by decide +kernel
theorem dX7_decimal_36 : decode cX7_decimal 36 = .ok (.iconst 1, 1) := by decide +kernel
theorem dX7_decimal_37 : decode cX7_decimal 37 = .ok (.iload_n 1, 1) := by decide +kernel
theorem dX7_decimal_38 : decode cX7_decimal 38 = .ok (.invokevirtual 107, 3) := by decide +kernel
theorem dX7_decimal_41 : decode cX7_decimal 41 = .ok (.aload_n 0, 1) := by decide +kernel
theorem dX7_decimal_42 : decode cX7_decimal 42 = .ok (.bipush 10, 2) := by decide +kernel
theorem dX7_decimal_44 : decode cX7_decimal 44 = .ok (.iconst 2, 1) := by decide +kernel
theorem dX7_decimal_45 : decode cX7_decimal 45 = .ok (.invokevirtual 82, 3) := by decide +kernel
theorem dX7_decimal_48 : decode cX7_decimal 48 = .ok (.aload_n 0, 1) := by decide +kernel
theorem dX7_decimal_49 : decode cX7_decimal 49 = .ok (.bipush 11, 2) := by decide +kernel
theorem dX7_decimal_51 : decode cX7_decimal 51 = .ok (.ldc2_w 211, 3) := by decide +kernel
theorem dX7_decimal_54 : decode cX7_decimal 54 = .ok (.invokevirtual 43, 3) := by decide +kernel
theorem dX7_decimal_57 : decode cX7_decimal 57 = .ok (.iconst 0, 1) := by decide +kernel
theorem dX7_decimal_58 : decode cX7_decimal 58 = .ok (.istore 4, 2) := by decide +kernel
theorem dX7_decimal_60 : decode cX7_decimal 60 = .ok (.iload 4, 2) := by decide +kernel
theorem dX7_decimal_62 : decode cX7_decimal 62 = .ok (.iload_n 2, 1) := by decide +kernel
theorem dX7_decimal_63 : decode cX7_decimal 63 = .ok (.if_icmp .ge 27, 3) := by decide +kernel
theorem dX7_decimal_66 : decode cX7_decimal 66 = .ok (.aload_n 0, 1) := by decide +kernel
theorem dX7_decimal_67 : decode cX7_decimal 67 = .ok (.bipush 12, 2) := by decide +kernel
theorem dX7_decimal_69 : decode cX7_decimal 69 = .ok (.bipush 10, 2) := by decide +kernel
theorem dX7_decimal_71 : decode cX7_decimal 71 = .ok (.bipush 11, 2) := by decide +kernel
theorem dX7_decimal_73 : decode cX7_decimal 73 = .ok (.invokevirtual 94, 3) := by decide +kernel
theorem dX7_decimal_76 : decode cX7_decimal 76 = .ok (.aload_n 0, 1) := by decide +kernel
theorem dX7_decimal_77 : decode cX7_decimal 77 = .ok (.bipush 10, 2) := by decide +kernel
theorem dX7_decimal_79 : decode cX7_decimal 79 = .ok (.bipush 12, 2) := by decide +kernel
theorem dX7_decimal_81 : decode cX7_decimal 81 = .ok (.invokevirtual 82, 3) := by decide +kernel
theorem dX7_decimal_84 : decode cX7_decimal 84 = .ok (.iinc 4 1, 3) := by decide +kernel
theorem dX7_decimal_87 : decode cX7_decimal 87 = .ok (.goto (-27), 3) := by decide +kernel
theorem dX7_decimal_90 : decode cX7_decimal 90 = .ok (.aload_n 0, 1) := by decide +kernel
theorem dX7_decimal_91 : decode cX7_decimal 91 = .ok (.bipush 10, 2) := by decide +kernel
theorem dX7_decimal_93 : decode cX7_decimal 93 = .ok (.iconst 3, 1) := by decide +kernel
theorem dX7_decimal_94 : decode cX7_decimal 94 = .ok (.bipush 12, 2) := by decide +kernel
theorem dX7_decimal_96 : decode cX7_decimal 96 = .ok (.invokevirtual 85, 3) := by decide +kernel
theorem dX7_decimal_99 : decode cX7_decimal 99 = .ok (.aload_n 0, 1) := by decide +kernel
theorem dX7_decimal_100 : decode cX7_decimal 100 = .ok (.getfield 13, 3) := by decide +kernel
theorem dX7_decimal_103 : decode cX7_decimal 103 = .ok (.bipush 10, 2) := by decide +kernel
theorem dX7_decimal_105 : decode cX7_decimal 105 = .ok (.iaload, 1) := by decide +kernel
theorem dX7_decimal_106 : decode cX7_decimal 106 = .ok (.ifCond .le 38, 3) := by decide +kernel
theorem dX7_decimal_109 : decode cX7_decimal 109 = .ok (.iload_n 3, 1) := by decide +kernel
theorem dX7_decimal_110 : decode cX7_decimal 110 = .ok (.ifCond .ne 15, 3) := by decide +kernel
theorem dX7_decimal_113 : decode cX7_decimal 113 = .ok (.aload_n 0, 1) := by decide +kernel
theorem dX7_decimal_114 : decode cX7_decimal 114 = .ok (.getfield 16, 3) := by decide +kernel
theorem dX7_decimal_117 : decode cX7_decimal 117 = .ok (.iconst 1, 1) := by decide +kernel
theorem dX7_decimal_118 : decode cX7_decimal 118 = .ok (.iaload, 1) := by decide +kernel
theorem dX7_decimal_119 : decode cX7_decimal 119 = .ok (.ifCond .ge 25, 3) := by decide +kernel
theorem dX7_decimal_122 : decode cX7_decimal 122 = .ok (.goto 12, 3) := by decide +kernel
theorem dX7_decimal_125 : decode cX7_decimal 125 = .ok (.aload_n 0, 1) := by decide +kernel
theorem dX7_decimal_126 : decode cX7_decimal 126 = .ok (.getfield 16, 3) := by decide +kernel
theorem dX7_decimal_129 : decode cX7_decimal 129 = .ok (.iconst 1, 1) := by decide +kernel
theorem dX7_decimal_130 : decode cX7_decimal 130 = .ok (.iaload, 1) := by decide +kernel
theorem dX7_decimal_131 : decode cX7_decimal 131 = .ok (.ifCond .le 13, 3) := by decide +kernel
theorem dX7_decimal_134 : decode cX7_decimal 134 = .ok (.aload_n 0, 1) := by decide +kernel
theorem dX7_decimal_135 : decode cX7_decimal 135 = .ok (.bipush 12, 2) := by decide +kernel
theorem dX7_decimal_137 : decode cX7_decimal 137 = .ok (.bipush 12, 2) := by decide +kernel
theorem dX7_decimal_139 : decode cX7_decimal 139 = .ok (.bipush 18, 2) := by decide +kernel
theorem dX7_decimal_141 : decode cX7_decimal 141 = .ok (.invokevirtual 100, 3) := by decide +kernel
theorem dX7_decimal_144 : decode cX7_decimal 144 = .ok (.aload_n 0, 1) := by decide +kernel
theorem dX7_decimal_145 : decode cX7_decimal 145 = .ok (.iconst 0, 1) := by decide +kernel
theorem dX7_decimal_146 : decode cX7_decimal 146 = .ok (.putfield 208, 3) := by decide +kernel
theorem dX7_decimal_149 : decode cX7_decimal 149 = .ok (.aload_n 0, 1) := by decide +kernel
theorem dX7_decimal_150 : decode cX7_decimal 150 = .ok (.getfield 16, 3) := by decide +kernel
theorem dX7_decimal_153 : decode cX7_decimal 153 = .ok (.iconst 1, 1) := by decide +kernel
theorem dX7_decimal_154 : decode cX7_decimal 154 = .ok (.iaload, 1) := by decide +kernel
theorem dX7_decimal_155 : decode cX7_decimal 155 = .ok (.ifCond .ge 19, 3) := by decide +kernel
theorem dX7_decimal_158 : decode cX7_decimal 158 = .ok (.aload_n 0, 1) := by decide +kernel
theorem dX7_decimal_159 : decode cX7_decimal 159 = .ok (.getfield 13, 3) := by decide +kernel
theorem dX7_decimal_162 : decode cX7_decimal 162 = .ok (.bipush 12, 2) := by decide +kernel
theorem dX7_decimal_164 : decode cX7_decimal 164 = .ok (.iaload, 1) := by decide +kernel
theorem dX7_decimal_165 : decode cX7_decimal 165 = .ok (.ifCond .le 9, 3) := by decide +kernel
theorem dX7_decimal_168 : decode cX7_decimal 168 = .ok (.aload_n 0, 1) := by decide +kernel
theorem dX7_decimal_169 : decode cX7_decimal 169 = .ok (.bipush 45, 2) := by decide +kernel
theorem dX7_decimal_171 : decode cX7_decimal 171 = .ok (.invokevirtual 213, 3) := by decide +kernel
theorem dX7_decimal_174 : decode cX7_decimal 174 = .ok (.iconst 0, 1) := by decide +kernel
theorem dX7_decimal_175 : decode cX7_decimal 175 = .ok (.istore 4, 2) := by decide +kernel
theorem dX7_decimal_177 : decode cX7_decimal 177 = .ok (.aload_n 0, 1) := by decide +kernel
theorem dX7_decimal_178 : decode cX7_decimal 178 = .ok (.getfield 13, 3) := by decide +kernel
theorem dX7_decimal_181 : decode cX7_decimal 181 = .ok (.bipush 12, 2) := by decide +kernel
theorem dX7_decimal_183 : decode cX7_decimal 183 = .ok (.iaload, 1) := by decide +kernel
theorem dX7_decimal_184 : decode cX7_decimal 184 = .ok (.ifCond .gt 9, 3) := by decide +kernel
theorem dX7_decimal_187 : decode cX7_decimal 187 = .ok (.iload 4, 2) := by decide +kernel
theorem dX7_decimal_189 : decode cX7_decimal 189 = .ok (.iload_n 2, 1) := by decide +kernel
theorem dX7_decimal_190 : decode cX7_decimal 190 = .ok (.if_icmp .gt 20, 3) := by decide +kernel
theorem dX7_decimal_193 : decode cX7_decimal 193 = .ok (.aload_n 0, 1) := by decide +kernel
theorem dX7_decimal_194 : decode cX7_decimal 194 = .ok (.getfield 40, 3) := by decide +kernel
theorem dX7_decimal_197 : decode cX7_decimal 197 = .ok (.iload 4, 2) := by decide +kernel
theorem dX7_decimal_199 : decode cX7_decimal 199 = .ok (.aload_n 0, 1) := by decide +kernel
theorem dX7_decimal_200 : decode cX7_decimal 200 = .ok (.invokevirtual 217, 3) := by decide +kernel
theorem dX7_decimal_203 : decode cX7_decimal 203 = .ok (.iastore, 1) := by decide +kernel
theorem dX7_decimal_204 : decode cX7_decimal 204 = .ok (.iinc 4 1, 3) := by decide +kernel
theorem dX7_decimal_207 : decode cX7_decimal 207 = .ok (.goto (-30), 3) := by decide +kernel
theorem dX7_decimal_210 : decode cX7_decimal 210 = .ok (.iload 4, 2) := by decide +kernel
theorem dX7_decimal_212 : decode cX7_decimal 212 = .ok (.iconst 1, 1) := by decide +kernel
theorem dX7_decimal_213 : decode cX7_decimal 213 = .ok (.isub, 1) := by decide +kernel
theorem dX7_decimal_214 : decode cX7_decimal 214 = .ok (.istore 5, 2) := by decide +kernel
theorem dX7_decimal_216 : decode cX7_decimal 216 = .ok (.iload 5, 2) := by decide +kernel
theorem dX7_decimal_218 : decode cX7_decimal 218 = .ok (.ifCond .lt 39, 3) := by decide +kernel
theorem dX7_decimal_221 : decode cX7_decimal 221 = .ok (.aload_n 0, 1) := by decide +kernel
theorem dX7_decimal_222 : decode cX7_decimal 222 = .ok (.bipush 48, 2) := by decide +kernel
theorem dX7_decimal_224 : decode cX7_decimal 224 = .ok (.aload_n 0, 1) := by decide +kernel
theorem dX7_decimal_225 : decode cX7_decimal 225 = .ok (.getfield 40, 3) := by decide +kernel
theorem dX7_decimal_228 : decode cX7_decimal 228 = .ok (.iload 5, 2) := by decide +kernel
theorem dX7_decimal_230 : decode cX7_decimal 230 = .ok (.iaload, 1) := by decide +kernel
theorem dX7_decimal_231 : decode cX7_decimal 231 = .ok (.iadd, 1) := by decide +kernel
theorem dX7_decimal_232 : decode cX7_decimal 232 = .ok (.invokevirtual 213, 3) := by decide +kernel
theorem dX7_decimal_235 : decode cX7_decimal 235 = .ok (.iload 5, 2) := by decide +kernel
theorem dX7_decimal_237 : decode cX7_decimal 237 = .ok (.iload_n 2, 1) := by decide +kernel
theorem dX7_decimal_238 : decode cX7_decimal 238 = .ok (.if_icmp .ne 13, 3) := by decide +kernel
theorem dX7_decimal_241 : decode cX7_decimal 241 = .ok (.iload_n 2, 1) := by decide +kernel
theorem dX7_decimal_242 : decode cX7_decimal 242 = .ok (.ifCond .le 9, 3) := by decide +kernel
theorem dX7_decimal_245 : decode cX7_decimal 245 = .ok (.aload_n 0, 1) := by decide +kernel
theorem dX7_decimal_246 : decode cX7_decimal 246 = .ok (.bipush 46, 2) := by decide +kernel
theorem dX7_decimal_248 : decode cX7_decimal 248 = .ok (.invokevirtual 213, 3) := by decide +kernel
theorem dX7_decimal_251 : decode cX7_decimal 251 = .ok (.iinc 5 (-1), 3) := by decide +kernel
theorem dX7_decimal_254 : decode cX7_decimal 254 = .ok (.goto (-38), 3) := by decide +kernel
theorem dX7_decimal_257 : decode cX7_decimal 257 = .ok (.aload_n 0, 1) := by decide +kernel
theorem dX7_decimal_258 : decode cX7_decimal 258 = .ok (.getfield 208, 3) := by decide +kernel
theorem dX7_decimal_261 : decode cX7_decimal 261 = .ok (.ireturn, 1) := by decide +kernel
theorem dX7_letter_0 : decode cX7_letter 0 = .ok (.aload_n 0, 1) := by decide +kernel
theorem dX7_letter_1 : decode cX7_letter 1 = .ok (.iconst 0, 1) := by decide +kernel
theorem dX7_letter_2 : decode cX7_letter 2 = .ok (.putfield 47, 3) := by decide +kernel
theorem dX7_letter_5 : decode cX7_letter 5 = .ok (.iload_n 1, 1) := by decide +kernel
theorem dX7_letter_6 : decode cX7_letter 6 = .ok (.ifCond .lt 20, 3) := by decide +kernel
theorem dX7_letter_9 : decode cX7_letter 9 = .ok (.iload_n 1, 1) := by decide +kernel
theorem dX7_letter_10 : decode cX7_letter 10 = .ok (.aload_n 0, 1) := by decide +kernel
theorem dX7_letter_11 : decode cX7_letter 11 = .ok (.getfield 208, 3) := by decide +kernel
theorem dX7_letter_14 : decode cX7_letter 14 = .ok (.if_icmp .ge 12, 3) := by decide +kernel
theorem dX7_letter_17 : decode cX7_letter 17 = .ok (.aload_n 0, 1) := by decide +kernel
theorem dX7_letter_18 : decode cX7_letter 18 = .ok (.getfield 37, 3) := by decide +kernel
theorem dX7_letter_21 : decode cX7_letter 21 = .ok (.iload_n 1, 1) := by decide +kernel
theorem dX7_letter_22 : decode cX7_letter 22 = .ok (.iaload, 1) := by decide +kernel
theorem dX7_letter_23 : decode cX7_letter 23 = .ok (.goto 4, 3) := by decide +kernel
theorem dX7_letter_26 : decode cX7_letter 26 = .ok (.iconst (-1), 1) := by decide +kernel
theorem dX7_letter_27 : decode cX7_letter 27 = .ok (.ireturn, 1) := by decide +kernel
theorem dX7_count_0 : decode cX7_count 0 = .ok (.aload_n 0, 1) := by decide +kernel
theorem dX7_count_1 : decode cX7_count 1 = .ok (.iconst 0, 1) := by decide +kernel
theorem dX7_count_2 : decode cX7_count 2 = .ok (.putfield 47, 3) := by decide +kernel
theorem dX7_count_5 : decode cX7_count 5 = .ok (.iconst 0, 1) := by decide +kernel
theorem dX7_count_6 : decode cX7_count 6 = .ok (.istore_n 2, 1) := by decide +kernel
theorem dX7_count_7 : decode cX7_count 7 = .ok (.iconst 0, 1) := by decide +kernel
theorem dX7_count_8 : decode cX7_count 8 = .ok (.istore_n 3, 1) := by decide +kernel
theorem dX7_count_9 : decode cX7_count 9 = .ok (.iconst 0, 1) := by decide +kernel
theorem dX7_count_10 : decode cX7_count 10 = .ok (.istore 4, 2) := by decide +kernel
theorem dX7_count_12 : decode cX7_count 12 = .ok (.iload 4, 2) := by decide +kernel
theorem dX7_count_14 : decode cX7_count 14 = .ok (.aload_n 0, 1) := by decide +kernel
theorem dX7_count_15 : decode cX7_count 15 = .ok (.getfield 113, 3) := by decide +kernel
theorem dX7_count_18 : decode cX7_count 18 = .ok (.if_icmp .ge 77, 3) := by decide +kernel
theorem dX7_count_21 : decode cX7_count 21 = .ok (.iload_n 1, 1) := by decide +kernel
theorem dX7_count_22 : decode cX7_count 22 = .ok (.iconst 2, 1) := by decide +kernel
theorem dX7_count_23 : decode cX7_count 23 = .ok (.if_icmp .eq 8, 3) := by decide +kernel
theorem dX7_count_26 : decode cX7_count 26 = .ok (.iload_n 1, 1) := by decide +kernel
theorem dX7_count_27 : decode cX7_count 27 = .ok (.iconst 4, 1) := by decide +kernel
theorem dX7_count_28 : decode cX7_count 28 = .ok (.if_icmp .ne 67, 3) := by decide +kernel
theorem dX7_count_31 : decode cX7_count 31 = .ok (.iload_n 2, 1) := by decide +kernel
theorem dX7_count_32 : decode cX7_count 32 = .ok (.aload_n 0, 1) := by decide +kernel
theorem dX7_count_33 : decode cX7_count 33 = .ok (.iload 4, 2) := by decide +kernel
theorem dX7_count_35 : decode cX7_count 35 = .ok (.invokevirtual 169, 3) := by decide +kernel
theorem dX7_count_38 : decode cX7_count 38 = .ok (.ifCond .eq 7, 3) := by decide +kernel
theorem dX7_count_41 : decode cX7_count 41 = .ok (.iconst 1, 1) := by decide +kernel
theorem dX7_count_42 : decode cX7_count 42 = .ok (.goto 4, 3) := by decide +kernel
theorem dX7_count_45 : decode cX7_count 45 = .ok (.iconst 0, 1) := by decide +kernel
theorem dX7_count_46 : decode cX7_count 46 = .ok (.iadd, 1) := by decide +kernel
theorem dX7_count_47 : decode cX7_count 47 = .ok (.istore_n 2, 1) := by decide +kernel
theorem dX7_count_48 : decode cX7_count 48 = .ok (.aload_n 0, 1) := by decide +kernel
theorem dX7_count_49 : decode cX7_count 49 = .ok (.iconst 2, 1) := by decide +kernel
theorem dX7_count_50 : decode cX7_count 50 = .ok (.invokevirtual 70, 3) := by decide +kernel
theorem dX7_count_53 : decode cX7_count 53 = .ok (.aload_n 0, 1) := by decide +kernel
theorem dX7_count_54 : decode cX7_count 54 = .ok (.iconst 3, 1) := by decide +kernel
theorem dX7_count_55 : decode cX7_count 55 = .ok (.invokevirtual 70, 3) := by decide +kernel
theorem dX7_count_58 : decode cX7_count 58 = .ok (.if_icmp .le 11, 3) := by decide +kernel
theorem dX7_count_61 : decode cX7_count 61 = .ok (.aload_n 0, 1) := by decide +kernel
theorem dX7_count_62 : decode cX7_count 62 = .ok (.iconst 2, 1) := by decide +kernel
theorem dX7_count_63 : decode cX7_count 63 = .ok (.invokevirtual 70, 3) := by decide +kernel
theorem dX7_count_66 : decode cX7_count 66 = .ok (.goto 8, 3) := by decide +kernel
theorem dX7_count_69 : decode cX7_count 69 = .ok (.aload_n 0, 1) := by decide +kernel
theorem dX7_count_70 : decode cX7_count 70 = .ok (.iconst 3, 1) := by decide +kernel
theorem dX7_count_71 : decode cX7_count 71 = .ok (.invokevirtual 70, 3) := by decide +kernel
theorem dX7_count_74 : decode cX7_count 74 = .ok (.istore 5, 2) := by decide +kernel
theorem dX7_count_76 : decode cX7_count 76 = .ok (.iload 5, 2) := by decide +kernel
theorem dX7_count_78 : decode cX7_count 78 = .ok (.iload_n 3, 1) := by decide +kernel
theorem dX7_count_79 : decode cX7_count 79 = .ok (.if_icmp .le 8, 3) := by decide +kernel
theorem dX7_count_82 : decode cX7_count 82 = .ok (.iload 5, 2) := by decide +kernel
theorem dX7_count_84 : decode cX7_count 84 = .ok (.goto 4, 3) := by decide +kernel
theorem dX7_count_87 : decode cX7_count 87 = .ok (.iload_n 3, 1) := by decide +kernel
theorem dX7_count_88 : decode cX7_count 88 = .ok (.istore_n 3, 1) := by decide +kernel
theorem dX7_count_89 : decode cX7_count 89 = .ok (.iinc 4 1, 3) := by decide +kernel
theorem dX7_count_92 : decode cX7_count 92 = .ok (.goto (-80), 3) := by decide +kernel
theorem dX7_count_95 : decode cX7_count 95 = .ok (.iload_n 1, 1) := by decide +kernel
theorem dX7_count_96 : decode cX7_count 96 = .ok (.ifCond .ne 10, 3) := by decide +kernel
theorem dX7_count_99 : decode cX7_count 99 = .ok (.aload_n 0, 1) := by decide +kernel
theorem dX7_count_100 : decode cX7_count 100 = .ok (.getfield 113, 3) := by decide +kernel
theorem dX7_count_103 : decode cX7_count 103 = .ok (.goto 47, 3) := by decide +kernel
theorem dX7_count_106 : decode cX7_count 106 = .ok (.iload_n 1, 1) := by decide +kernel
theorem dX7_count_107 : decode cX7_count 107 = .ok (.iconst 1, 1) := by decide +kernel
theorem dX7_count_108 : decode cX7_count 108 = .ok (.if_icmp .ne 10, 3) := by decide +kernel
theorem dX7_count_111 : decode cX7_count 111 = .ok (.aload_n 0, 1) := by decide +kernel
theorem dX7_count_112 : decode cX7_count 112 = .ok (.getfield 116, 3) := by decide +kernel
theorem dX7_count_115 : decode cX7_count 115 = .ok (.goto 35, 3) := by decide +kernel
theorem dX7_count_118 : decode cX7_count 118 = .ok (.iload_n 1, 1) := by decide +kernel
theorem dX7_count_119 : decode cX7_count 119 = .ok (.iconst 2, 1) := by decide +kernel
theorem dX7_count_120 : decode cX7_count 120 = .ok (.if_icmp .ne 7, 3) := by decide +kernel
theorem dX7_count_123 : decode cX7_count 123 = .ok (.iload_n 2, 1) := by decide +kernel
theorem dX7_count_124 : decode cX7_count 124 = .ok (.goto 26, 3) := by decide +kernel
theorem dX7_count_127 : decode cX7_count 127 = .ok (.iload_n 1, 1) := by decide +kernel
theorem dX7_count_128 : decode cX7_count 128 = .ok (.iconst 3, 1) := by decide +kernel
theorem dX7_count_129 : decode cX7_count 129 = .ok (.if_icmp .ne 10, 3) := by decide +kernel
theorem dX7_count_132 : decode cX7_count 132 = .ok (.aload_n 0, 1) := by decide +kernel
theorem dX7_count_133 : decode cX7_count 133 = .ok (.getfield 122, 3) := by decide +kernel
theorem dX7_count_136 : decode cX7_count 136 = .ok (.goto 14, 3) := by decide +kernel
theorem dX7_count_139 : decode cX7_count 139 = .ok (.iload_n 1, 1) := by decide +kernel
theorem dX7_count_140 : decode cX7_count 140 = .ok (.iconst 4, 1) := by decide +kernel
theorem dX7_count_141 : decode cX7_count 141 = .ok (.if_icmp .ne 7, 3) := by decide +kernel
theorem dX7_count_144 : decode cX7_count 144 = .ok (.iload_n 3, 1) := by decide +kernel
theorem dX7_count_145 : decode cX7_count 145 = .ok (.goto 5, 3) := by decide +kernel
theorem dX7_count_148 : decode cX7_count 148 = .ok (.bipush (-2), 2) := by decide +kernel
theorem dX7_count_150 : decode cX7_count 150 = .ok (.ireturn, 1) := by decide +kernel
theorem dX7_clear_0 : decode cX7_clear 0 = .ok (.aload_n 0, 1) := by decide +kernel
theorem dX7_clear_1 : decode cX7_clear 1 = .ok (.iconst 0, 1) := by decide +kernel
theorem dX7_clear_2 : decode cX7_clear 2 = .ok (.putfield 47, 3) := by decide +kernel
theorem dX7_clear_5 : decode cX7_clear 5 = .ok (.aload_n 0, 1) := by decide +kernel
theorem dX7_clear_6 : decode cX7_clear 6 = .ok (.getfield 113, 3) := by decide +kernel
theorem dX7_clear_9 : decode cX7_clear 9 = .ok (.istore_n 1, 1) := by decide +kernel
theorem dX7_clear_10 : decode cX7_clear 10 = .ok (.aload_n 0, 1) := by decide +kernel
theorem dX7_clear_11 : decode cX7_clear 11 = .ok (.iconst 0, 1) := by decide +kernel
theorem dX7_clear_12 : decode cX7_clear 12 = .ok (.putfield 113, 3) := by decide +kernel
theorem dX7_clear_15 : decode cX7_clear 15 = .ok (.aload_n 0, 1) := by decide +kernel
theorem dX7_clear_16 : decode cX7_clear 16 = .ok (.iconst 0, 1) := by decide +kernel
theorem dX7_clear_17 : decode cX7_clear 17 = .ok (.putfield 116, 3) := by decide +kernel
theorem dX7_clear_20 : decode cX7_clear 20 = .ok (.aload_n 0, 1) := by decide +kernel
theorem dX7_clear_21 : decode cX7_clear 21 = .ok (.iconst 0, 1) := by decide +kernel
theorem dX7_clear_22 : decode cX7_clear 22 = .ok (.putfield 122, 3) := by decide +kernel
theorem dX7_clear_25 : decode cX7_clear 25 = .ok (.aload_n 0, 1) := by decide +kernel
theorem dX7_clear_26 : decode cX7_clear 26 = .ok (.iconst 0, 1) := by decide +kernel
theorem dX7_clear_27 : decode cX7_clear 27 = .ok (.putfield 208, 3) := by decide +kernel
theorem dX7_clear_30 : decode cX7_clear 30 = .ok (.iload_n 1, 1) := by decide +kernel
theorem dX7_clear_31 : decode cX7_clear 31 = .ok (.ireturn, 1) := by decide +kernel
