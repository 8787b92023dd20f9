theorem dJx00060_init_a7421_0 : decode cJx00060_init_a7421 0 = .ok (.aload_n 0, 1) := by decide +kernel
theorem dJx00060_init_a7421_1 : decode cJx00060_init_a7421 1 = .ok (.aload_n 1, 1) := by decide +kernel
theorem dJx00060_init_a7421_2 : decode cJx00060_init_a7421 2 = .ok (.invokespecial 7, 3) := by decide +kernel
theorem dJx00060_init_a7421_5 : decode cJx00060_init_a7421 5 = .ok (.return_, 1) := by decide +kernel
theorem dJ6_numberOfLeadingZeros_0f7a4_0 : decode cJ6_numberOfLeadingZeros_0f7a4 0 = .ok (.iload_n 0, 1) := by decide +kernel
theorem dJ6_numberOfLeadingZeros_0f7a4_1 : decode cJ6_numberOfLeadingZeros_0f7a4 1 = .ok (.ifCond .gt 14, 3) := by decide +kernel
theorem dJ6_numberOfLeadingZeros_0f7a4_4 : decode cJ6_numberOfLeadingZeros_0f7a4 4 = .ok (.iload_n 0, 1) := by decide +kernel
theorem dJ6_numberOfLeadingZeros_0f7a4_5 : decode cJ6_numberOfLeadingZeros_0f7a4 5 = .ok (.ifCond .ne 8, 3) := by decide +kernel
theorem dJ6_numberOfLeadingZeros_0f7a4_8 : decode cJ6_numberOfLeadingZeros_0f7a4 8 = .ok (.bipush 32, 2) := by decide +kernel
theorem dJ6_numberOfLeadingZeros_0f7a4_10 : decode cJ6_numberOfLeadingZeros_0f7a4 10 = .ok (.goto 4, 3) := by decide +kernel
theorem dJ6_numberOfLeadingZeros_0f7a4_13 : decode cJ6_numberOfLeadingZeros_0f7a4 13 = .ok (.iconst 0, 1) := by decide +kernel
theorem dJ6_numberOfLeadingZeros_0f7a4_14 : decode cJ6_numberOfLeadingZeros_0f7a4 14 = .ok (.ireturn, 1) := by decide +kernel
theorem dJ6_numberOfLeadingZeros_0f7a4_15 : decode cJ6_numberOfLeadingZeros_0f7a4 15 = .ok (.bipush 31, 2) := by decide +kernel
theorem dJ6_numberOfLeadingZeros_0f7a4_17 : decode cJ6_numberOfLeadingZeros_0f7a4 17 = .ok (.istore_n 1, 1) := by decide +kernel
theorem dJ6_numberOfLeadingZeros_0f7a4_18 : decode cJ6_numberOfLeadingZeros_0f7a4 18 = .ok (.iload_n 0, 1) := by decide +kernel
theorem dJ6_numberOfLeadingZeros_0f7a4_19 : decode cJ6_numberOfLeadingZeros_0f7a4 19 = .ok (.ldc_w 264, 3) := by decide +kernel
theorem dJ6_numberOfLeadingZeros_0f7a4_22 : decode cJ6_numberOfLeadingZeros_0f7a4 22 = .ok (.if_icmp .lt 11, 3) := by decide +kernel
theorem dJ6_numberOfLeadingZeros_0f7a4_25 : decode cJ6_numberOfLeadingZeros_0f7a4 25 = .ok (.iinc 1 (-16), 3) := by decide +kernel
theorem dJ6_numberOfLeadingZeros_0f7a4_28 : decode cJ6_numberOfLeadingZeros_0f7a4 28 = .ok (.iload_n 0, 1) := by decide +kernel
theorem dJ6_numberOfLeadingZeros_0f7a4_29 : decode cJ6_numberOfLeadingZeros_0f7a4 29 = .ok (.bipush 16, 2) := by decide +kernel
theorem dJ6_numberOfLeadingZeros_0f7a4_31 : decode cJ6_numberOfLeadingZeros_0f7a4 31 = .ok (.iushr, 1) := by decide +kernel
theorem dJ6_numberOfLeadingZeros_0f7a4_32 : decode cJ6_numberOfLeadingZeros_0f7a4 32 = .ok (.istore_n 0, 1) := by decide +kernel
theorem dJ6_numberOfLeadingZeros_0f7a4_33 : decode cJ6_numberOfLeadingZeros_0f7a4 33 = .ok (.iload_n 0, 1) := by decide +kernel
theorem dJ6_numberOfLeadingZeros_0f7a4_34 : decode cJ6_numberOfLeadingZeros_0f7a4 34 = .ok (.sipush 256, 3) := by decide +kernel
theorem dJ6_numberOfLeadingZeros_0f7a4_37 : decode cJ6_numberOfLeadingZeros_0f7a4 37 = .ok (.if_icmp .lt 11, 3) := by decide +kernel
theorem dJ6_numberOfLeadingZeros_0f7a4_40 : decode cJ6_numberOfLeadingZeros_0f7a4 40 = .ok (.iinc 1 (-8), 3) := by decide +kernel
theorem dJ6_numberOfLeadingZeros_0f7a4_43 : decode cJ6_numberOfLeadingZeros_0f7a4 43 = .ok (.iload_n 0, 1) := by decide +kernel
theorem dJ6_numberOfLeadingZeros_0f7a4_44 : decode cJ6_numberOfLeadingZeros_0f7a4 44 = .ok (.bipush 8, 2) := by decide +kernel
theorem dJ6_numberOfLeadingZeros_0f7a4_46 : decode cJ6_numberOfLeadingZeros_0f7a4 46 = .ok (.iushr, 1) := by decide +kernel
theorem dJ6_numberOfLeadingZeros_0f7a4_47 : decode cJ6_numberOfLeadingZeros_0f7a4 47 = .ok (.istore_n 0, 1) := by decide +kernel
theorem dJ6_numberOfLeadingZeros_0f7a4_48 : decode cJ6_numberOfLeadingZeros_0f7a4 48 = .ok (.iload_n 0, 1) := by decide +kernel
theorem dJ6_numberOfLeadingZeros_0f7a4_49 : decode cJ6_numberOfLeadingZeros_0f7a4 49 = .ok (.bipush 16, 2) := by decide +kernel
theorem dJ6_numberOfLeadingZeros_0f7a4_51 : decode cJ6_numberOfLeadingZeros_0f7a4 51 = .ok (.if_icmp .lt 10, 3) := by decide +kernel
theorem dJ6_numberOfLeadingZeros_0f7a4_54 : decode cJ6_numberOfLeadingZeros_0f7a4 54 = .ok (.iinc 1 (-4), 3) := by decide +kernel
theorem dJ6_numberOfLeadingZeros_0f7a4_57 : decode cJ6_numberOfLeadingZeros_0f7a4 57 = .ok (.iload_n 0, 1) := by decide +kernel
theorem dJ6_numberOfLeadingZeros_0f7a4_58 : decode cJ6_numberOfLeadingZeros_0f7a4 58 = .ok (.iconst 4, 1) := by decide +kernel
theorem dJ6_numberOfLeadingZeros_0f7a4_59 : decode cJ6_numberOfLeadingZeros_0f7a4 59 = .ok (.iushr, 1) := by decide +kernel
theorem dJ6_numberOfLeadingZeros_0f7a4_60 : decode cJ6_numberOfLeadingZeros_0f7a4 60 = .ok (.istore_n 0, 1) := by decide +kernel
theorem dJ6_numberOfLeadingZeros_0f7a4_61 : decode cJ6_numberOfLeadingZeros_0f7a4 61 = .ok (.iload_n 0, 1) := by decide +kernel
theorem dJ6_numberOfLeadingZeros_0f7a4_62 : decode cJ6_numberOfLeadingZeros_0f7a4 62 = .ok (.iconst 4, 1) := by decide +kernel
theorem dJ6_numberOfLeadingZeros_0f7a4_63 : decode cJ6_numberOfLeadingZeros_0f7a4 63 = .ok (.if_icmp .lt 10, 3) := by decide +kernel
theorem dJ6_numberOfLeadingZeros_0f7a4_66 : decode cJ6_numberOfLeadingZeros_0f7a4 66 = .ok (.iinc 1 (-2), 3) := by decide +kernel
theorem dJ6_numberOfLeadingZeros_0f7a4_69 : decode cJ6_numberOfLeadingZeros_0f7a4 69 = .ok (.iload_n 0, 1) := by decide +kernel
theorem dJ6_numberOfLeadingZeros_0f7a4_70 : decode cJ6_numberOfLeadingZeros_0f7a4 70 = .ok (.iconst 2, 1) := by decide +kernel
theorem dJ6_numberOfLeadingZeros_0f7a4_71 : decode cJ6_numberOfLeadingZeros_0f7a4 71 = .ok (.iushr, 1) := by decide +kernel
theorem dJ6_numberOfLeadingZeros_0f7a4_72 : decode cJ6_numberOfLeadingZeros_0f7a4 72 = .ok (.istore_n 0, 1) := by decide +kernel
theorem dJ6_numberOfLeadingZeros_0f7a4_73 : decode cJ6_numberOfLeadingZeros_0f7a4 73 = .ok (.iload_n 1, 1) := by decide +kernel
theorem dJ6_numberOfLeadingZeros_0f7a4_74 : decode cJ6_numberOfLeadingZeros_0f7a4 74 = .ok (.iload_n 0, 1) := by decide +kernel
theorem dJ6_numberOfLeadingZeros_0f7a4_75 : decode cJ6_numberOfLeadingZeros_0f7a4 75 = .ok (.iconst 1, 1) := by decide +kernel
theorem dJ6_numberOfLeadingZeros_0f7a4_76 : decode cJ6_numberOfLeadingZeros_0f7a4 76 = .ok (.iushr, 1) := by decide +kernel
theorem dJ6_numberOfLeadingZeros_0f7a4_77 : decode cJ6_numberOfLeadingZeros_0f7a4 77 = .ok (.isub, 1) := by decide +kernel
theorem dJ6_numberOfLeadingZeros_0f7a4_78 : decode cJ6_numberOfLeadingZeros_0f7a4 78 = .ok (.ireturn, 1) := by decide +kernel
theorem dJ9_floorDiv_f86c9_0 : decode cJ9_floorDiv_f86c9 0 = .ok (.lload_n 0, 1) := by decide +kernel
theorem dJ9_floorDiv_f86c9_1 : decode cJ9_floorDiv_f86c9 1 = .ok (.lload_n 2, 1) := by decide +kernel
theorem dJ9_floorDiv_f86c9_2 : decode cJ9_floorDiv_f86c9 2 = .ok (.ldiv, 1) := by decide +kernel
theorem dJ9_floorDiv_f86c9_3 : decode cJ9_floorDiv_f86c9 3 = .ok (.lstore 4, 2) := by decide +kernel
theorem dJ9_floorDiv_f86c9_5 : decode cJ9_floorDiv_f86c9 5 = .ok (.lload_n 0, 1) := by decide +kernel
theorem dJ9_floorDiv_f86c9_6 : decode cJ9_floorDiv_f86c9 6 = .ok (.lload_n 2, 1) := by decide +kernel
theorem dJ9_floorDiv_f86c9_7 : decode cJ9_floorDiv_f86c9 7 = .ok (.lxor, 1) := by decide +kernel
theorem dJ9_floorDiv_f86c9_8 : decode cJ9_floorDiv_f86c9 8 = .ok (.lconst 0, 1) := by decide +kernel
theorem dJ9_floorDiv_f86c9_9 : decode cJ9_floorDiv_f86c9 9 = .ok (.lcmp, 1) := by decide +kernel
theorem dJ9_floorDiv_f86c9_10 : decode cJ9_floorDiv_f86c9 10 = .ok (.ifCond .ge 17, 3) := by decide +kernel
theorem dJ9_floorDiv_f86c9_13 : decode cJ9_floorDiv_f86c9 13 = .ok (.lload 4, 2) := by decide +kernel
theorem dJ9_floorDiv_f86c9_15 : decode cJ9_floorDiv_f86c9 15 = .ok (.lload_n 2, 1) := by decide +kernel
theorem dJ9_floorDiv_f86c9_16 : decode cJ9_floorDiv_f86c9 16 = .ok (.lmul, 1) := by decide +kernel
theorem dJ9_floorDiv_f86c9_17 : decode cJ9_floorDiv_f86c9 17 = .ok (.lload_n 0, 1) := by decide +kernel
theorem dJ9_floorDiv_f86c9_18 : decode cJ9_floorDiv_f86c9 18 = .ok (.lcmp, 1) := by decide +kernel
theorem dJ9_floorDiv_f86c9_19 : decode cJ9_floorDiv_f86c9 19 = .ok (.ifCond .eq 8, 3) := by decide +kernel
theorem dJ9_floorDiv_f86c9_22 : decode cJ9_floorDiv_f86c9 22 = .ok (.lload 4, 2) := by decide +kernel
theorem dJ9_floorDiv_f86c9_24 : decode cJ9_floorDiv_f86c9 24 = .ok (.lconst 1, 1) := by decide +kernel
theorem dJ9_floorDiv_f86c9_25 : decode cJ9_floorDiv_f86c9 25 = .ok (.lsub, 1) := by decide +kernel
theorem dJ9_floorDiv_f86c9_26 : decode cJ9_floorDiv_f86c9 26 = .ok (.lreturn, 1) := by decide +kernel
theorem dJ9_floorDiv_f86c9_27 : decode cJ9_floorDiv_f86c9 27 = .ok (.lload 4, 2) := by decide +kernel
theorem dJ9_floorDiv_f86c9_29 : decode cJ9_floorDiv_f86c9 29 = .ok (.lreturn, 1) := by decide +kernel
theorem dJ9_floorMod_f86c9_0 : decode cJ9_floorMod_f86c9 0 = .ok (.lload_n 0, 1) := by decide +kernel
theorem dJ9_floorMod_f86c9_1 : decode cJ9_floorMod_f86c9 1 = .ok (.lload_n 2, 1) := by decide +kernel
theorem dJ9_floorMod_f86c9_2 : decode cJ9_floorMod_f86c9 2 = .ok (.lrem, 1) := by decide +kernel
theorem dJ9_floorMod_f86c9_3 : decode cJ9_floorMod_f86c9 3 = .ok (.lstore 4, 2) := by decide +kernel
theorem dJ9_floorMod_f86c9_5 : decode cJ9_floorMod_f86c9 5 = .ok (.lload_n 0, 1) := by decide +kernel
theorem dJ9_floorMod_f86c9_6 : decode cJ9_floorMod_f86c9 6 = .ok (.lload_n 2, 1) := by decide +kernel
theorem dJ9_floorMod_f86c9_7 : decode cJ9_floorMod_f86c9 7 = .ok (.lxor, 1) := by decide +kernel
theorem dJ9_floorMod_f86c9_8 : decode cJ9_floorMod_f86c9 8 = .ok (.lconst 0, 1) := by decide +kernel
theorem dJ9_floorMod_f86c9_9 : decode cJ9_floorMod_f86c9 9 = .ok (.lcmp, 1) := by decide +kernel
theorem dJ9_floorMod_f86c9_10 : decode cJ9_floorMod_f86c9 10 = .ok (.ifCond .ge 15, 3) := by decide +kernel
theorem dJ9_floorMod_f86c9_13 : decode cJ9_floorMod_f86c9 13 = .ok (.lload 4, 2) := by decide +kernel
theorem dJ9_floorMod_f86c9_15 : decode cJ9_floorMod_f86c9 15 = .ok (.lconst 0, 1) := by decide +kernel
theorem dJ9_floorMod_f86c9_16 : decode cJ9_floorMod_f86c9 16 = .ok (.lcmp, 1) := by decide +kernel
theorem dJ9_floorMod_f86c9_17 : decode cJ9_floorMod_f86c9 17 = .ok (.ifCond .eq 8, 3) := by decide +kernel
theorem dJ9_floorMod_f86c9_20 : decode cJ9_floorMod_f86c9 20 = .ok (.lload 4, 2) := by decide +kernel
theorem dJ9_floorMod_f86c9_22 : decode cJ9_floorMod_f86c9 22 = .ok (.lload_n 2, 1) := by decide +kernel
theorem dJ9_floorMod_f86c9_23 : decode cJ9_floorMod_f86c9 23 = .ok (.ladd, 1) := by decide +kernel
theorem dJ9_floorMod_f86c9_24 : decode cJ9_floorMod_f86c9 24 = .ok (.lreturn, 1) := by decide +kernel
theorem dJ9_floorMod_f86c9_25 : decode cJ9_floorMod_f86c9 25 = .ok (.lload 4, 2) := by decide +kernel
theorem dJ9_floorMod_f86c9_27 : decode cJ9_floorMod_f86c9 27 = .ok (.lreturn, 1) := by decide +kernel
theorem dJ9_max_7cf53_0 : decode cJ9_max_7cf53 0 = .ok (.iload_n 0, 1) := by decide +kernel
theorem dJ9_max_7cf53_1 : decode cJ9_max_7cf53 1 = .ok (.iload_n 1, 1) := by decide +kernel
theorem dJ9_max_7cf53_2 : decode cJ9_max_7cf53 2 = .ok (.if_icmp .lt 7, 3) := by decide +kernel
theorem dJ9_max_7cf53_5 : decode cJ9_max_7cf53 5 = .ok (.iload_n 0, 1) := by decide +kernel
theorem dJ9_max_7cf53_6 : decode cJ9_max_7cf53 6 = .ok (.goto 4, 3) := by decide +kernel
theorem dJ9_max_7cf53_9 : decode cJ9_max_7cf53 9 = .ok (.iload_n 1, 1) := by decide +kernel
theorem dJ9_max_7cf53_10 : decode cJ9_max_7cf53 10 = .ok (.ireturn, 1) := by decide +kernel
theorem dJ9_min_f86c9_0 : decode cJ9_min_f86c9 0 = .ok (.lload_n 0, 1) := by decide +kernel
theorem dJ9_min_f86c9_1 : decode cJ9_min_f86c9 1 = .ok (.lload_n 2, 1) := by decide +kernel
theorem dJ9_min_f86c9_2 : decode cJ9_min_f86c9 2 = .ok (.lcmp, 1) := by decide +kernel
theorem dJ9_min_f86c9_3 : decode cJ9_min_f86c9 3 = .ok (.ifCond .gt 7, 3) := by decide +kernel
theorem dJ9_min_f86c9_6 : decode cJ9_min_f86c9 6 = .ok (.lload_n 0, 1) := by decide +kernel
theorem dJ9_min_f86c9_7 : decode cJ9_min_f86c9 7 = .ok (.goto 4, 3) := by decide +kernel
theorem dJ9_min_f86c9_10 : decode cJ9_min_f86c9 10 = .ok (.lload_n 2, 1) := by decide +kernel
theorem dJ9_min_f86c9_11 : decode cJ9_min_f86c9 11 = .ok (.lreturn, 1) := by decide +kernel
theorem dX0_init_0 : decode cX0_init 0 = .ok (.aload_n 0, 1) := by decide +kernel
theorem dX0_init_1 : decode cX0_init 1 = .ok (.invokespecial 3, 3) := by decide +kernel
theorem dX0_init_4 : decode cX0_init 4 = .ok (.aload_n 0, 1) := by decide +kernel
theorem dX0_init_5 : decode cX0_init 5 = .ok (.sipush 216, 3) := by decide +kernel
theorem dX0_init_8 : decode cX0_init 8 = .ok (.newarray .byte, 2) := by decide +kernel
theorem dX0_init_10 : decode cX0_init 10 = .ok (.putfield 9, 3) := by decide +kernel
theorem dX0_init_13 : decode cX0_init 13 = .ok (.aload_n 0, 1) := by decide +kernel
theorem dX0_init_14 : decode cX0_init 14 = .ok (.sipush 216, 3) := by decide +kernel
theorem dX0_init_17 : decode cX0_init 17 = .ok (.newarray .byte, 2) := by decide +kernel
theorem dX0_init_19 : decode cX0_init 19 = .ok (.putfield 15, 3) := by decide +kernel
theorem dX0_init_22 : decode cX0_init 22 = .ok (.return_, 1) := by decide +kernel
theorem dX0_write_0 : decode cX0_write 0 = .ok (.aload_n 0, 1) := by decide +kernel
theorem dX0_write_1 : decode cX0_write 1 = .ok (.iconst 0, 1) := by decide +kernel
theorem dX0_write_2 : decode cX0_write 2 = .ok (.putfield 18, 3) := by decide +kernel
theorem dX0_write_5 : decode cX0_write 5 = .ok (.iload_n 1, 1) := by decide +kernel
theorem dX0_write_6 : decode cX0_write 6 = .ok (.ifCond .eq 16, 3) := by decide +kernel
theorem dX0_write_9 : decode cX0_write 9 = .ok (.aload_n 2, 1) := by decide +kernel
theorem dX0_write_10 : decode cX0_write 10 = .ok (.getfield 22, 3) := by decide +kernel
theorem dX0_write_13 : decode cX0_write 13 = .ok (.ifCond .le 9, 3) := by decide +kernel
theorem dX0_write_16 : decode cX0_write 16 = .ok (.aload_n 0, 1) := by decide +kernel
theorem dX0_write_17 : decode cX0_write 17 = .ok (.bipush 45, 2) := by decide +kernel
theorem dX0_write_19 : decode cX0_write 19 = .ok (.invokevirtual 25, 3) := by decide +kernel
theorem dX0_write_22 : decode cX0_write 22 = .ok (.aload_n 0, 1) := by decide +kernel
theorem dX0_write_23 : decode cX0_write 23 = .ok (.aload_n 2, 1) := by decide +kernel
theorem dX0_write_24 : decode cX0_write 24 = .ok (.iload_n 3, 1) := by decide +kernel
theorem dX0_write_25 : decode cX0_write 25 = .ok (.iconst 1, 1) := by decide +kernel
theorem dX0_write_26 : decode cX0_write 26 = .ok (.iadd, 1) := by decide +kernel
theorem dX0_write_27 : decode cX0_write 27 = .ok (.invokevirtual 29, 3) := by decide +kernel
theorem dX0_write_30 : decode cX0_write 30 = .ok (.istore 4, 2) := by decide +kernel
theorem dX0_write_32 : decode cX0_write 32 = .ok (.iload 4, 2) := by decide +kernel
theorem dX0_write_34 : decode cX0_write 34 = .ok (.iconst 1, 1) := by decide +kernel
theorem dX0_write_35 : decode cX0_write 35 = .ok (.isub, 1) := by decide +kernel
theorem dX0_write_36 : decode cX0_write 36 = .ok (.istore 5, 2) := by decide +kernel
theorem dX0_write_38 : decode cX0_write 38 = .ok (.iload 5, 2) := by decide +kernel
theorem dX0_write_40 : decode cX0_write 40 = .ok (.ifCond .lt 37, 3) := by decide +kernel
theorem dX0_write_43 : decode cX0_write 43 = .ok (.aload_n 0, 1) := by decide +kernel
theorem dX0_write_44 : decode cX0_write 44 = .ok (.aload_n 0, 1) := by decide +kernel
theorem dX0_write_45 : decode cX0_write 45 = .ok (.getfield 15, 3) := by decide +kernel
theorem dX0_write_48 : decode cX0_write 48 = .ok (.iload 5, 2) := by decide +kernel
theorem dX0_write_50 : decode cX0_write 50 = .ok (.baload, 1) := by decide +kernel
theorem dX0_write_51 : decode cX0_write 51 = .ok (.invokevirtual 25, 3) := by decide +kernel
theorem dX0_write_54 : decode cX0_write 54 = .ok (.iload 5, 2) := by decide +kernel
theorem dX0_write_56 : decode cX0_write 56 = .ok (.iload_n 3, 1) := by decide +kernel
theorem dX0_write_57 : decode cX0_write 57 = .ok (.if_icmp .ne 14, 3) := by decide +kernel
theorem dX0_write_60 : decode cX0_write 60 = .ok (.iload 5, 2) := by decide +kernel
theorem dX0_write_62 : decode cX0_write 62 = .ok (.ifCond .le 9, 3) := by decide +kernel
theorem dX0_write_65 : decode cX0_write 65 = .ok (.aload_n 0, 1) := by decide +kernel
theorem dX0_write_66 : decode cX0_write 66 = .ok (.bipush 46, 2) := by decide +kernel
theorem dX0_write_68 : decode cX0_write 68 = .ok (.invokevirtual 25, 3) := by decide +kernel
theorem dX0_write_71 : decode cX0_write 71 = .ok (.iinc 5 (-1), 3) := by decide +kernel
theorem dX0_write_74 : decode cX0_write 74 = .ok (.goto (-36), 3) := by decide +kernel
theorem dX0_write_77 : decode cX0_write 77 = .ok (.return_, 1) := by decide +kernel
theorem dX0_append_0 : decode cX0_append 0 = .ok (.aload_n 0, 1) := by decide +kernel
theorem dX0_append_1 : decode cX0_append 1 = .ok (.getfield 18, 3) := by decide +kernel
theorem dX0_append_4 : decode cX0_append 4 = .ok (.aload_n 0, 1) := by decide +kernel
theorem dX0_append_5 : decode cX0_append 5 = .ok (.getfield 9, 3) := by decide +kernel
theorem dX0_append_8 : decode cX0_append 8 = .ok (.arraylength, 1) := by decide +kernel
theorem dX0_append_9 : decode cX0_append 9 = .ok (.if_icmp .ge 24, 3) := by decide +kernel
theorem dX0_append_12 : decode cX0_append 12 = .ok (.aload_n 0, 1) := by decide +kernel
theorem dX0_append_13 : decode cX0_append 13 = .ok (.getfield 9, 3) := by decide +kernel
theorem dX0_append_16 : decode cX0_append 16 = .ok (.aload_n 0, 1) := by decide +kernel
theorem dX0_append_17 : decode cX0_append 17 = .ok (.getfield 18, 3) := by decide +kernel
theorem dX0_append_20 : decode cX0_append 20 = .ok (.iload_n 1, 1) := by decide +kernel
theorem dX0_append_21 : decode cX0_append 21 = .ok (.i2b, 1) := by decide +kernel
theorem dX0_append_22 : decode cX0_append 22 = .ok (.bastore, 1) := by decide +kernel
theorem dX0_append_23 : decode cX0_append 23 = .ok (.aload_n 0, 1) := by decide +kernel
theorem dX0_append_24 : decode cX0_append 24 = .ok (.dup, 1) := by decide +kernel
theorem dX0_append_25 : decode cX0_append 25 = .ok (.getfield 18, 3) := by decide +kernel
theorem dX0_append_28 : decode cX0_append 28 = .ok (.iconst 1, 1) := by decide +kernel
theorem dX0_append_29 : decode cX0_append 29 = .ok (.iadd, 1) := by decide +kernel
theorem dX0_append_30 : decode cX0_append 30 = .ok (.putfield 18, 3) := by decide +kernel
theorem dX0_append_33 : decode cX0_append 33 = .ok (.return_, 1) := by decide +kernel
theorem dX0_splitDigits_0 : decode cX0_splitDigits 0 = .ok (.iconst 0, 1) := by decide +kernel
theorem dX0_splitDigits_1 : decode cX0_splitDigits 1 = .ok (.istore_n 3, 1) := by decide +kernel
theorem dX0_splitDigits_2 : decode cX0_splitDigits 2 = .ok (.aload_n 1, 1) := by decide +kernel
theorem dX0_splitDigits_3 : decode cX0_splitDigits 3 = .ok (.getfield 22, 3) := by decide +kernel
theorem dX0_splitDigits_6 : decode cX0_splitDigits 6 = .ok (.ifCond .le 67, 3) := by decide +kernel
theorem dX0_splitDigits_9 : decode cX0_splitDigits 9 = .ok (.iload_n 3, 1) := by decide +kernel
theorem dX0_splitDigits_10 : decode cX0_splitDigits 10 = .ok (.bipush 9, 2) := by decide +kernel
theorem dX0_splitDigits_12 : decode cX0_splitDigits 12 = .ok (.iadd, 1) := by decide +kernel
theorem dX0_splitDigits_13 : decode cX0_splitDigits 13 = .ok (.aload_n 0, 1) := by decide +kernel
theorem dX0_splitDigits_14 : decode cX0_splitDigits 14 = .ok (.getfield 15, 3) := by decide +kernel
theorem dX0_splitDigits_17 : decode cX0_splitDigits 17 = .ok (.arraylength, 1) := by decide +kernel
theorem dX0_splitDigits_18 : decode cX0_splitDigits 18 = .ok (.if_icmp .gt 55, 3) := by decide +kernel
theorem dX0_splitDigits_21 : decode cX0_splitDigits 21 = .ok (.aload_n 1, 1) := by decide +kernel
theorem dX0_splitDigits_22 : decode cX0_splitDigits 22 = .ok (.ldc 33, 2) := by decide +kernel
theorem dX0_splitDigits_24 : decode cX0_splitDigits 24 = .ok (.invokevirtual 34, 3) := by decide +kernel
theorem dX0_splitDigits_27 : decode cX0_splitDigits 27 = .ok (.istore 4, 2) := by decide +kernel
theorem dX0_splitDigits_29 : decode cX0_splitDigits 29 = .ok (.iconst 0, 1) := by decide +kernel
theorem dX0_splitDigits_30 : decode cX0_splitDigits 30 = .ok (.istore 5, 2) := by decide +kernel
theorem dX0_splitDigits_32 : decode cX0_splitDigits 32 = .ok (.iload 5, 2) := by decide +kernel
theorem dX0_splitDigits_34 : decode cX0_splitDigits 34 = .ok (.bipush 9, 2) := by decide +kernel
theorem dX0_splitDigits_36 : decode cX0_splitDigits 36 = .ok (.if_icmp .ge 34, 3) := by decide +kernel
theorem dX0_splitDigits_39 : decode cX0_splitDigits 39 = .ok (.aload_n 0, 1) := by decide +kernel
theorem dX0_splitDigits_40 : decode cX0_splitDigits 40 = .ok (.getfield 15, 3) := by decide +kernel
theorem dX0_splitDigits_43 : decode cX0_splitDigits 43 = .ok (.iload_n 3, 1) := by decide +kernel
theorem dX0_splitDigits_44 : decode cX0_splitDigits 44 = .ok (.bipush 48, 2) := by decide +kernel
theorem dX0_splitDigits_46 : decode cX0_splitDigits 46 = .ok (.iload 4, 2) := by decide +kernel
theorem dX0_splitDigits_48 : decode cX0_splitDigits 48 = .ok (.bipush 10, 2) := by decide +kernel
theorem dX0_splitDigits_50 : decode cX0_splitDigits 50 = .ok (.irem, 1) := by decide +kernel
theorem dX0_splitDigits_51 : decode cX0_splitDigits 51 = .ok (.iadd, 1) := by decide +kernel
theorem dX0_splitDigits_52 : decode cX0_splitDigits 52 = .ok (.i2b, 1) := by decide +kernel
theorem dX0_splitDigits_53 : decode cX0_splitDigits 53 = .ok (.bastore, 1) := by decide +kernel
theorem dX0_splitDigits_54 : decode cX0_splitDigits 54 = .ok (.iload 4, 2) := by decide +kernel
theorem dX0_splitDigits_56 : decode cX0_splitDigits 56 = .ok (.bipush 10, 2) := by decide +kernel
theorem dX0_splitDigits_58 : decode cX0_splitDigits 58 = .ok (.idiv, 1) := by decide +kernel
theorem dX0_splitDigits_59 : decode cX0_splitDigits 59 = .ok (.istore 4, 2) := by decide +kernel
theorem dX0_splitDigits_61 : decode cX0_splitDigits 61 = .ok (.iinc 3 1, 3) := by decide +kernel
theorem dX0_splitDigits_64 : decode cX0_splitDigits 64 = .ok (.iinc 5 1, 3) := by decide +kernel
theorem dX0_splitDigits_67 : decode cX0_splitDigits 67 = .ok (.goto (-35), 3) := by decide +kernel
theorem dX0_splitDigits_70 : decode cX0_splitDigits 70 = .ok (.goto (-68), 3) := by decide +kernel
theorem dX0_splitDigits_73 : decode cX0_splitDigits 73 = .ok (.iload_n 3, 1) := by decide +kernel
theorem dX0_splitDigits_74 : decode cX0_splitDigits 74 = .ok (.iload_n 2, 1) := by decide +kernel
theorem dX0_splitDigits_75 : decode cX0_splitDigits 75 = .ok (.if_icmp .ge 17, 3) := by decide +kernel
theorem dX0_splitDigits_78 : decode cX0_splitDigits 78 = .ok (.aload_n 0, 1) := by decide +kernel
theorem dX0_splitDigits_79 : decode cX0_splitDigits 79 = .ok (.getfield 15, 3) := by decide +kernel
theorem dX0_splitDigits_82 : decode cX0_splitDigits 82 = .ok (.iload_n 3, 1) := by decide +kernel
theorem dX0_splitDigits_83 : decode cX0_splitDigits 83 = .ok (.bipush 48, 2) := by decide +kernel
theorem dX0_splitDigits_85 : decode cX0_splitDigits 85 = .ok (.bastore, 1) := by decide +kernel
theorem dX0_splitDigits_86 : decode cX0_splitDigits 86 = .ok (.iinc 3 1, 3) := by decide +kernel
theorem dX0_splitDigits_89 : decode cX0_splitDigits 89 = .ok (.goto (-16), 3) := by decide +kernel
theorem dX0_splitDigits_92 : decode cX0_splitDigits 92 = .ok (.iload_n 3, 1) := by decide +kernel
theorem dX0_splitDigits_93 : decode cX0_splitDigits 93 = .ok (.iload_n 2, 1) := by decide +kernel
theorem dX0_splitDigits_94 : decode cX0_splitDigits 94 = .ok (.if_icmp .le 22, 3) := by decide +kernel
theorem dX0_splitDigits_97 : decode cX0_splitDigits 97 = .ok (.aload_n 0, 1) := by decide +kernel
theorem dX0_splitDigits_98 : decode cX0_splitDigits 98 = .ok (.getfield 15, 3) := by decide +kernel
theorem dX0_splitDigits_101 : decode cX0_splitDigits 101 = .ok (.iload_n 3, 1) := by decide +kernel
theorem dX0_splitDigits_102 : decode cX0_splitDigits 102 = .ok (.iconst 1, 1) := by decide +kernel
theorem dX0_splitDigits_103 : decode cX0_splitDigits 103 = .ok (.isub, 1) := by decide +kernel
theorem dX0_splitDigits_104 : decode cX0_splitDigits 104 = .ok (.baload, 1) := by decide +kernel
theorem dX0_splitDigits_105 : decode cX0_splitDigits 105 = .ok (.bipush 48, 2) := by decide +kernel
theorem dX0_splitDigits_107 : decode cX0_splitDigits 107 = .ok (.if_icmp .ne 9, 3) := by decide +kernel
theorem dX0_splitDigits_110 : decode cX0_splitDigits 110 = .ok (.iinc 3 (-1), 3) := by decide +kernel
theorem dX0_splitDigits_113 : decode cX0_splitDigits 113 = .ok (.goto (-21), 3) := by decide +kernel
theorem dX0_splitDigits_116 : decode cX0_splitDigits 116 = .ok (.iload_n 3, 1) := by decide +kernel
theorem dX0_splitDigits_117 : decode cX0_splitDigits 117 = .ok (.ireturn, 1) := by decide +kernel
theorem dX1_init_0 : decode cX1_init 0 = .ok (.aload_n 0, 1) := by decide +kernel
theorem dX1_init_1 : decode cX1_init 1 = .ok (.invokespecial 3, 3) := by decide +kernel
theorem dX1_init_4 : decode cX1_init 4 = .ok (.aload_n 0, 1) := by decide +kernel
theorem dX1_init_5 : decode cX1_init 5 = .ok (.new 9, 3) := by decide +kernel
theorem dX1_init_8 : decode cX1_init 8 = .ok (.dup, 1) := by decide +kernel
theorem dX1_init_9 : decode cX1_init 9 = .ok (.bipush 72, 2) := by decide +kernel
theorem dX1_init_11 : decode cX1_init 11 = .ok (.invokespecial 11, 3) := by decide +kernel
theorem dX1_init_14 : decode cX1_init 14 = .ok (.putfield 14, 3) := by decide +kernel
theorem dX1_init_17 : decode cX1_init 17 = .ok (.aload_n 0, 1) := by decide +kernel
theorem dX1_init_18 : decode cX1_init 18 = .ok (.new 9, 3) := by decide +kernel
theorem dX1_init_21 : decode cX1_init 21 = .ok (.dup, 1) := by decide +kernel
theorem dX1_init_22 : decode cX1_init 22 = .ok (.bipush 72, 2) := by decide +kernel
theorem dX1_init_24 : decode cX1_init 24 = .ok (.invokespecial 11, 3) := by decide +kernel
theorem dX1_init_27 : decode cX1_init 27 = .ok (.putfield 20, 3) := by decide +kernel
theorem dX1_init_30 : decode cX1_init 30 = .ok (.aload_n 0, 1) := by decide +kernel
theorem dX1_init_31 : decode cX1_init 31 = .ok (.new 9, 3) := by decide +kernel
theorem dX1_init_34 : decode cX1_init 34 = .ok (.dup, 1) := by decide +kernel
theorem dX1_init_35 : decode cX1_init 35 = .ok (.bipush 72, 2) := by decide +kernel
theorem dX1_init_37 : decode cX1_init 37 = .ok (.invokespecial 11, 3) := by decide +kernel
theorem dX1_init_40 : decode cX1_init 40 = .ok (.putfield 23, 3) := by decide +kernel
theorem dX1_init_43 : decode cX1_init 43 = .ok (.return_, 1) := by decide +kernel
theorem dX1_find_0 : decode cX1_find 0 = .ok (.aload_n 1, 1) := by decide +kernel
theorem dX1_find_1 : decode cX1_find 1 = .ok (.invokevirtual 26, 3) := by decide +kernel
theorem dX1_find_4 : decode cX1_find 4 = .ok (.ifCond .ne 10, 3) := by decide +kernel
theorem dX1_find_7 : decode cX1_find 7 = .ok (.aload_n 2, 1) := by decide +kernel
theorem dX1_find_8 : decode cX1_find 8 = .ok (.invokevirtual 26, 3) := by decide +kernel
theorem dX1_find_11 : decode cX1_find 11 = .ok (.ifCond .eq 9, 3) := by decide +kernel
theorem dX1_find_14 : decode cX1_find 14 = .ok (.aload_n 3, 1) := by decide +kernel
theorem dX1_find_15 : decode cX1_find 15 = .ok (.lconst 1, 1) := by decide +kernel
theorem dX1_find_16 : decode cX1_find 16 = .ok (.invokevirtual 30, 3) := by decide +kernel
theorem dX1_find_19 : decode cX1_find 19 = .ok (.return_, 1) := by decide +kernel
theorem dX1_find_20 : decode cX1_find 20 = .ok (.aload_n 1, 1) := by decide +kernel
theorem dX1_find_21 : decode cX1_find 21 = .ok (.aload_n 2, 1) := by decide +kernel
theorem dX1_find_22 : decode cX1_find 22 = .ok (.invokevirtual 34, 3) := by decide +kernel
theorem dX1_find_25 : decode cX1_find 25 = .ok (.ifCond .lt 7, 3) := by decide +kernel
theorem dX1_find_28 : decode cX1_find 28 = .ok (.iconst 1, 1) := by decide +kernel
theorem dX1_find_29 : decode cX1_find 29 = .ok (.goto 4, 3) := by decide +kernel
theorem dX1_find_32 : decode cX1_find 32 = .ok (.iconst 0, 1) := by decide +kernel
theorem dX1_find_33 : decode cX1_find 33 = .ok (.istore 4, 2) := by decide +kernel
theorem dX1_find_35 : decode cX1_find 35 = .ok (.aload_n 0, 1) := by decide +kernel
theorem dX1_find_36 : decode cX1_find 36 = .ok (.getfield 20, 3) := by decide +kernel
theorem dX1_find_39 : decode cX1_find 39 = .ok (.iload 4, 2) := by decide +kernel
theorem dX1_find_41 : decode cX1_find 41 = .ok (.ifCond .eq 7, 3) := by decide +kernel
theorem dX1_find_44 : decode cX1_find 44 = .ok (.aload_n 1, 1) := by decide +kernel
theorem dX1_find_45 : decode cX1_find 45 = .ok (.goto 4, 3) := by decide +kernel
theorem dX1_find_48 : decode cX1_find 48 = .ok (.aload_n 2, 1) := by decide +kernel
theorem dX1_find_49 : decode cX1_find 49 = .ok (.invokevirtual 38, 3) := by decide +kernel
theorem dX1_find_52 : decode cX1_find 52 = .ok (.aload_n 0, 1) := by decide +kernel
theorem dX1_find_53 : decode cX1_find 53 = .ok (.getfield 23, 3) := by decide +kernel
theorem dX1_find_56 : decode cX1_find 56 = .ok (.iload 4, 2) := by decide +kernel
theorem dX1_find_58 : decode cX1_find 58 = .ok (.ifCond .eq 7, 3) := by decide +kernel
theorem dX1_find_61 : decode cX1_find 61 = .ok (.aload_n 2, 1) := by decide +kernel
theorem dX1_find_62 : decode cX1_find 62 = .ok (.goto 4, 3) := by decide +kernel
theorem dX1_find_65 : decode cX1_find 65 = .ok (.aload_n 1, 1) := by decide +kernel
theorem dX1_find_66 : decode cX1_find 66 = .ok (.invokevirtual 38, 3) := by decide +kernel
theorem dX1_find_69 : decode cX1_find 69 = .ok (.iconst 0, 1) := by decide +kernel
theorem dX1_find_70 : decode cX1_find 70 = .ok (.istore 5, 2) := by decide +kernel
theorem dX1_find_72 : decode cX1_find 72 = .ok (.iload 5, 2) := by decide +kernel
theorem dX1_find_74 : decode cX1_find 74 = .ok (.sipush 10000, 3) := by decide +kernel
theorem dX1_find_77 : decode cX1_find 77 = .ok (.if_icmp .ge 79, 3) := by decide +kernel
theorem dX1_find_80 : decode cX1_find 80 = .ok (.aload_n 0, 1) := by decide +kernel
theorem dX1_find_81 : decode cX1_find 81 = .ok (.getfield 20, 3) := by decide +kernel
theorem dX1_find_84 : decode cX1_find 84 = .ok (.getfield 42, 3) := by decide +kernel
theorem dX1_find_87 : decode cX1_find 87 = .ok (.iconst 2, 1) := by decide +kernel
theorem dX1_find_88 : decode cX1_find 88 = .ok (.if_icmp .le 68, 3) := by decide +kernel
theorem dX1_find_91 : decode cX1_find 91 = .ok (.aload_n 0, 1) := by decide +kernel
theorem dX1_find_92 : decode cX1_find 92 = .ok (.getfield 23, 3) := by decide +kernel
theorem dX1_find_95 : decode cX1_find 95 = .ok (.getfield 42, 3) := by decide +kernel
theorem dX1_find_98 : decode cX1_find 98 = .ok (.ifCond .le 58, 3) := by decide +kernel
theorem dX1_find_101 : decode cX1_find 101 = .ok (.aload_n 0, 1) := by decide +kernel
theorem dX1_find_102 : decode cX1_find 102 = .ok (.invokevirtual 46, 3) := by decide +kernel
theorem dX1_find_105 : decode cX1_find 105 = .ok (.ifCond .eq 10, 3) := by decide +kernel
theorem dX1_find_108 : decode cX1_find 108 = .ok (.aload_n 0, 1) := by decide +kernel
theorem dX1_find_109 : decode cX1_find 109 = .ok (.invokevirtual 49, 3) := by decide +kernel
theorem dX1_find_112 : decode cX1_find 112 = .ok (.goto 38, 3) := by decide +kernel
theorem dX1_find_115 : decode cX1_find 115 = .ok (.aload_n 0, 1) := by decide +kernel
theorem dX1_find_116 : decode cX1_find 116 = .ok (.getfield 20, 3) := by decide +kernel
theorem dX1_find_119 : decode cX1_find 119 = .ok (.aload_n 0, 1) := by decide +kernel
theorem dX1_find_120 : decode cX1_find 120 = .ok (.getfield 23, 3) := by decide +kernel
theorem dX1_find_123 : decode cX1_find 123 = .ok (.aload_n 0, 1) := by decide +kernel
theorem dX1_find_124 : decode cX1_find 124 = .ok (.getfield 14, 3) := by decide +kernel
theorem dX1_find_127 : decode cX1_find 127 = .ok (.invokevirtual 52, 3) := by decide +kernel
theorem dX1_find_130 : decode cX1_find 130 = .ok (.aload_n 0, 1) := by decide +kernel
theorem dX1_find_131 : decode cX1_find 131 = .ok (.getfield 20, 3) := by decide +kernel
theorem dX1_find_134 : decode cX1_find 134 = .ok (.astore 6, 2) := by decide +kernel
theorem dX1_find_136 : decode cX1_find 136 = .ok (.aload_n 0, 1) := by decide +kernel
theorem dX1_find_137 : decode cX1_find 137 = .ok (.aload_n 0, 1) := by decide +kernel
theorem dX1_find_138 : decode cX1_find 138 = .ok (.getfield 23, 3) := by decide +kernel
theorem dX1_find_141 : decode cX1_find 141 = .ok (.putfield 20, 3) := by decide +kernel
theorem dX1_find_144 : decode cX1_find 144 = .ok (.aload_n 0, 1) := by decide +kernel
theorem dX1_find_145 : decode cX1_find 145 = .ok (.aload 6, 2) := by decide +kernel
theorem dX1_find_147 : decode cX1_find 147 = .ok (.putfield 23, 3) := by decide +kernel
theorem dX1_find_150 : decode cX1_find 150 = .ok (.iinc 5 1, 3) := by decide +kernel
theorem dX1_find_153 : decode cX1_find 153 = .ok (.goto (-81), 3) := by decide +kernel
theorem dX1_find_156 : decode cX1_find 156 = .ok (.aload_n 0, 1) := by decide +kernel
theorem dX1_find_157 : decode cX1_find 157 = .ok (.getfield 20, 3) := by decide +kernel
theorem dX1_find_160 : decode cX1_find 160 = .ok (.getfield 42, 3) := by decide +kernel
theorem dX1_find_163 : decode cX1_find 163 = .ok (.iconst 2, 1) := by decide +kernel
theorem dX1_find_164 : decode cX1_find 164 = .ok (.if_icmp .le 14, 3) := by decide +kernel
theorem dX1_find_167 : decode cX1_find 167 = .ok (.aload_n 3, 1) := by decide +kernel
theorem dX1_find_168 : decode cX1_find 168 = .ok (.aload_n 0, 1) := by decide +kernel
theorem dX1_find_169 : decode cX1_find 169 = .ok (.getfield 20, 3) := by decide +kernel
theorem dX1_find_172 : decode cX1_find 172 = .ok (.invokevirtual 38, 3) := by decide +kernel
theorem dX1_find_175 : decode cX1_find 175 = .ok (.goto 24, 3) := by decide +kernel
theorem dX1_find_178 : decode cX1_find 178 = .ok (.aload_n 3, 1) := by decide +kernel
theorem dX1_find_179 : decode cX1_find 179 = .ok (.aload_n 0, 1) := by decide +kernel
theorem dX1_find_180 : decode cX1_find 180 = .ok (.getfield 20, 3) := by decide +kernel
theorem dX1_find_183 : decode cX1_find 183 = .ok (.invokevirtual 56, 3) := by decide +kernel
theorem dX1_find_186 : decode cX1_find 186 = .ok (.aload_n 0, 1) := by decide +kernel
theorem dX1_find_187 : decode cX1_find 187 = .ok (.getfield 23, 3) := by decide +kernel
theorem dX1_find_190 : decode cX1_find 190 = .ok (.invokevirtual 56, 3) := by decide +kernel
theorem dX1_find_193 : decode cX1_find 193 = .ok (.invokestatic 60, 3) := by decide +kernel
theorem dX1_find_196 : decode cX1_find 196 = .ok (.invokevirtual 30, 3) := by decide +kernel
theorem dX1_find_199 : decode cX1_find 199 = .ok (.return_, 1) := by decide +kernel
theorem dX1_foresee_0 : decode cX1_foresee 0 = .ok (.aload_n 0, 1) := by decide +kernel
theorem dX1_foresee_1 : decode cX1_foresee 1 = .ok (.getfield 20, 3) := by decide +kernel
theorem dX1_foresee_4 : decode cX1_foresee 4 = .ok (.invokevirtual 64, 3) := by decide +kernel
theorem dX1_foresee_7 : decode cX1_foresee 7 = .ok (.istore_n 1, 1) := by decide +kernel
theorem dX1_foresee_8 : decode cX1_foresee 8 = .ok (.aload_n 0, 1) := by decide +kernel
theorem dX1_foresee_9 : decode cX1_foresee 9 = .ok (.getfield 20, 3) := by decide +kernel
theorem dX1_foresee_12 : decode cX1_foresee 12 = .ok (.aload_n 0, 1) := by decide +kernel
theorem dX1_foresee_13 : decode cX1_foresee 13 = .ok (.getfield 20, 3) := by decide +kernel
theorem dX1_foresee_16 : decode cX1_foresee 16 = .ok (.getfield 42, 3) := by decide +kernel
theorem dX1_foresee_19 : decode cX1_foresee 19 = .ok (.iconst 1, 1) := by decide +kernel
theorem dX1_foresee_20 : decode cX1_foresee 20 = .ok (.isub, 1) := by decide +kernel
theorem dX1_foresee_21 : decode cX1_foresee 21 = .ok (.iload_n 1, 1) := by decide +kernel
theorem dX1_foresee_22 : decode cX1_foresee 22 = .ok (.invokevirtual 68, 3) := by decide +kernel
theorem dX1_foresee_25 : decode cX1_foresee 25 = .ok (.lstore_n 2, 1) := by decide +kernel
theorem dX1_foresee_26 : decode cX1_foresee 26 = .ok (.aload_n 0, 1) := by decide +kernel
theorem dX1_foresee_27 : decode cX1_foresee 27 = .ok (.getfield 23, 3) := by decide +kernel
theorem dX1_foresee_30 : decode cX1_foresee 30 = .ok (.aload_n 0, 1) := by decide +kernel
theorem dX1_foresee_31 : decode cX1_foresee 31 = .ok (.getfield 20, 3) := by decide +kernel
theorem dX1_foresee_34 : decode cX1_foresee 34 = .ok (.getfield 42, 3) := by decide +kernel
theorem dX1_foresee_37 : decode cX1_foresee 37 = .ok (.iconst 1, 1) := by decide +kernel
theorem dX1_foresee_38 : decode cX1_foresee 38 = .ok (.isub, 1) := by decide +kernel
theorem dX1_foresee_39 : decode cX1_foresee 39 = .ok (.iload_n 1, 1) := by decide +kernel
theorem dX1_foresee_40 : decode cX1_foresee 40 = .ok (.invokevirtual 68, 3) := by decide +kernel
theorem dX1_foresee_43 : decode cX1_foresee 43 = .ok (.lstore 4, 2) := by decide +kernel
theorem dX1_foresee_45 : decode cX1_foresee 45 = .ok (.lconst 0, 1) := by decide +kernel
theorem dX1_foresee_46 : decode cX1_foresee 46 = .ok (.lstore 6, 2) := by decide +kernel
theorem dX1_foresee_48 : decode cX1_foresee 48 = .ok (.lconst 0, 1) := by decide +kernel
theorem dX1_foresee_49 : decode cX1_foresee 49 = .ok (.lstore 8, 2) := by decide +kernel
theorem dX1_foresee_51 : decode cX1_foresee 51 = .ok (.lconst 1, 1) := by decide +kernel
theorem dX1_foresee_52 : decode cX1_foresee 52 = .ok (.lstore 10, 2) := by decide +kernel
theorem dX1_foresee_54 : decode cX1_foresee 54 = .ok (.lconst 0, 1) := by decide +kernel
theorem dX1_foresee_55 : decode cX1_foresee 55 = .ok (.lstore 12, 2) := by decide +kernel
theorem dX1_foresee_57 : decode cX1_foresee 57 = .ok (.lconst 0, 1) := by decide +kernel
theorem dX1_foresee_58 : decode cX1_foresee 58 = .ok (.lstore 14, 2) := by decide +kernel
theorem dX1_foresee_60 : decode cX1_foresee 60 = .ok (.lconst 1, 1) := by decide +kernel
theorem dX1_foresee_61 : decode cX1_foresee 61 = .ok (.lstore 16, 2) := by decide +kernel
theorem dX1_foresee_63 : decode cX1_foresee 63 = .ok (.ldc2_w 72, 3) := by decide +kernel
theorem dX1_foresee_66 : decode cX1_foresee 66 = .ok (.lstore 18, 2) := by decide +kernel
theorem dX1_foresee_68 : decode cX1_foresee 68 = .ok (.iconst 0, 1) := by decide +kernel
theorem dX1_foresee_69 : decode cX1_foresee 69 = .ok (.istore 20, 2) := by decide +kernel
theorem dX1_foresee_71 : decode cX1_foresee 71 = .ok (.iload 20, 2) := by decide +kernel
theorem dX1_foresee_73 : decode cX1_foresee 73 = .ok (.sipush 10000, 3) := by decide +kernel
theorem dX1_foresee_76 : decode cX1_foresee 76 = .ok (.if_icmp .ge 105, 3) := by decide +kernel
theorem dX1_foresee_79 : decode cX1_foresee 79 = .ok (.lload 4, 2) := by decide +kernel
theorem dX1_foresee_81 : decode cX1_foresee 81 = .ok (.lconst 0, 1) := by decide +kernel
theorem dX1_foresee_82 : decode cX1_foresee 82 = .ok (.lcmp, 1) := by decide +kernel
theorem dX1_foresee_83 : decode cX1_foresee 83 = .ok (.ifCond .le 98, 3) := by decide +kernel
theorem dX1_foresee_86 : decode cX1_foresee 86 = .ok (.lload 4, 2) := by decide +kernel
theorem dX1_foresee_88 : decode cX1_foresee 88 = .ok (.lload 16, 2) := by decide +kernel
theorem dX1_foresee_90 : decode cX1_foresee 90 = .ok (.lcmp, 1) := by decide +kernel
theorem dX1_foresee_91 : decode cX1_foresee 91 = .ok (.ifCond .lt 90, 3) := by decide +kernel
theorem dX1_foresee_94 : decode cX1_foresee 94 = .ok (.lload_n 2, 1) := by decide +kernel
theorem dX1_foresee_95 : decode cX1_foresee 95 = .ok (.lload 4, 2) := by decide +kernel
theorem dX1_foresee_97 : decode cX1_foresee 97 = .ok (.lsub, 1) := by decide +kernel
theorem dX1_foresee_98 : decode cX1_foresee 98 = .ok (.lload 12, 2) := by decide +kernel
theorem dX1_foresee_100 : decode cX1_foresee 100 = .ok (.lload 16, 2) := by decide +kernel
theorem dX1_foresee_102 : decode cX1_foresee 102 = .ok (.ladd, 1) := by decide +kernel
theorem dX1_foresee_103 : decode cX1_foresee 103 = .ok (.lcmp, 1) := by decide +kernel
theorem dX1_foresee_104 : decode cX1_foresee 104 = .ok (.ifCond .lt 77, 3) := by decide +kernel
theorem dX1_foresee_107 : decode cX1_foresee 107 = .ok (.lload_n 2, 1) := by decide +kernel
theorem dX1_foresee_108 : decode cX1_foresee 108 = .ok (.lload 4, 2) := by decide +kernel
theorem dX1_foresee_110 : decode cX1_foresee 110 = .ok (.ldiv, 1) := by decide +kernel
theorem dX1_foresee_111 : decode cX1_foresee 111 = .ok (.lstore 21, 2) := by decide +kernel
theorem dX1_foresee_113 : decode cX1_foresee 113 = .ok (.lload_n 2, 1) := by decide +kernel
theorem dX1_foresee_114 : decode cX1_foresee 114 = .ok (.lload 4, 2) := by decide +kernel
theorem dX1_foresee_116 : decode cX1_foresee 116 = .ok (.lrem, 1) := by decide +kernel
theorem dX1_foresee_117 : decode cX1_foresee 117 = .ok (.lstore 23, 2) := by decide +kernel
theorem dX1_foresee_119 : decode cX1_foresee 119 = .ok (.lload 4, 2) := by decide +kernel
theorem dX1_foresee_121 : decode cX1_foresee 121 = .ok (.lstore_n 2, 1) := by decide +kernel
theorem dX1_foresee_122 : decode cX1_foresee 122 = .ok (.lload 23, 2) := by decide +kernel
theorem dX1_foresee_124 : decode cX1_foresee 124 = .ok (.lstore 4, 2) := by decide +kernel
theorem dX1_foresee_126 : decode cX1_foresee 126 = .ok (.lload 10, 2) := by decide +kernel
theorem dX1_foresee_128 : decode cX1_foresee 128 = .ok (.lload 21, 2) := by decide +kernel
theorem dX1_foresee_130 : decode cX1_foresee 130 = .ok (.lload 14, 2) := by decide +kernel
theorem dX1_foresee_132 : decode cX1_foresee 132 = .ok (.lmul, 1) := by decide +kernel
theorem dX1_foresee_133 : decode cX1_foresee 133 = .ok (.ladd, 1) := by decide +kernel
theorem dX1_foresee_134 : decode cX1_foresee 134 = .ok (.lstore 25, 2) := by decide +kernel
theorem dX1_foresee_136 : decode cX1_foresee 136 = .ok (.lload 12, 2) := by decide +kernel
theorem dX1_foresee_138 : decode cX1_foresee 138 = .ok (.lload 21, 2) := by decide +kernel
theorem dX1_foresee_140 : decode cX1_foresee 140 = .ok (.lload 16, 2) := by decide +kernel
theorem dX1_foresee_142 : decode cX1_foresee 142 = .ok (.lmul, 1) := by decide +kernel
theorem dX1_foresee_143 : decode cX1_foresee 143 = .ok (.ladd, 1) := by decide +kernel
theorem dX1_foresee_144 : decode cX1_foresee 144 = .ok (.lstore 27, 2) := by decide +kernel
theorem dX1_foresee_146 : decode cX1_foresee 146 = .ok (.lload 10, 2) := by decide +kernel
theorem dX1_foresee_148 : decode cX1_foresee 148 = .ok (.lstore 6, 2) := by decide +kernel
theorem dX1_foresee_150 : decode cX1_foresee 150 = .ok (.lload 12, 2) := by decide +kernel
theorem dX1_foresee_152 : decode cX1_foresee 152 = .ok (.lstore 8, 2) := by decide +kernel
theorem dX1_foresee_154 : decode cX1_foresee 154 = .ok (.lload 14, 2) := by decide +kernel
theorem dX1_foresee_156 : decode cX1_foresee 156 = .ok (.lstore 10, 2) := by decide +kernel
theorem dX1_foresee_158 : decode cX1_foresee 158 = .ok (.lload 16, 2) := by decide +kernel
theorem dX1_foresee_160 : decode cX1_foresee 160 = .ok (.lstore 12, 2) := by decide +kernel
theorem dX1_foresee_162 : decode cX1_foresee 162 = .ok (.lload 25, 2) := by decide +kernel
theorem dX1_foresee_164 : decode cX1_foresee 164 = .ok (.lstore 14, 2) := by decide +kernel
theorem dX1_foresee_166 : decode cX1_foresee 166 = .ok (.lload 27, 2) := by decide +kernel
theorem dX1_foresee_168 : decode cX1_foresee 168 = .ok (.lstore 16, 2) := by decide +kernel
theorem dX1_foresee_170 : decode cX1_foresee 170 = .ok (.lload 18, 2) := by decide +kernel
theorem dX1_foresee_172 : decode cX1_foresee 172 = .ok (.lneg, 1) := by decide +kernel
theorem dX1_foresee_173 : decode cX1_foresee 173 = .ok (.lstore 18, 2) := by decide +kernel
theorem dX1_foresee_175 : decode cX1_foresee 175 = .ok (.iinc 20 1, 3) := by decide +kernel
theorem dX1_foresee_178 : decode cX1_foresee 178 = .ok (.goto (-107), 3) := by decide +kernel
theorem dX1_foresee_181 : decode cX1_foresee 181 = .ok (.aload_n 0, 1) := by decide +kernel
theorem dX1_foresee_182 : decode cX1_foresee 182 = .ok (.lload 18, 2) := by decide +kernel
theorem dX1_foresee_184 : decode cX1_foresee 184 = .ok (.lload 6, 2) := by decide +kernel
theorem dX1_foresee_186 : decode cX1_foresee 186 = .ok (.lmul, 1) := by decide +kernel
theorem dX1_foresee_187 : decode cX1_foresee 187 = .ok (.putfield 74, 3) := by decide +kernel
theorem dX1_foresee_190 : decode cX1_foresee 190 = .ok (.aload_n 0, 1) := by decide +kernel
theorem dX1_foresee_191 : decode cX1_foresee 191 = .ok (.lload 18, 2) := by decide +kernel
theorem dX1_foresee_193 : decode cX1_foresee 193 = .ok (.lneg, 1) := by decide +kernel
theorem dX1_foresee_194 : decode cX1_foresee 194 = .ok (.lload 8, 2) := by decide +kernel
theorem dX1_foresee_196 : decode cX1_foresee 196 = .ok (.lmul, 1) := by decide +kernel
theorem dX1_foresee_197 : decode cX1_foresee 197 = .ok (.putfield 78, 3) := by decide +kernel
theorem dX1_foresee_200 : decode cX1_foresee 200 = .ok (.aload_n 0, 1) := by decide +kernel
theorem dX1_foresee_201 : decode cX1_foresee 201 = .ok (.lload 18, 2) := by decide +kernel
theorem dX1_foresee_203 : decode cX1_foresee 203 = .ok (.lneg, 1) := by decide +kernel
theorem dX1_foresee_204 : decode cX1_foresee 204 = .ok (.lload 10, 2) := by decide +kernel
theorem dX1_foresee_206 : decode cX1_foresee 206 = .ok (.lmul, 1) := by decide +kernel
theorem dX1_foresee_207 : decode cX1_foresee 207 = .ok (.putfield 81, 3) := by decide +kernel
theorem dX1_foresee_210 : decode cX1_foresee 210 = .ok (.aload_n 0, 1) := by decide +kernel
theorem dX1_foresee_211 : decode cX1_foresee 211 = .ok (.lload 18, 2) := by decide +kernel
theorem dX1_foresee_213 : decode cX1_foresee 213 = .ok (.lload 12, 2) := by decide +kernel
theorem dX1_foresee_215 : decode cX1_foresee 215 = .ok (.lmul, 1) := by decide +kernel
theorem dX1_foresee_216 : decode cX1_foresee 216 = .ok (.putfield 84, 3) := by decide +kernel
theorem dX1_foresee_219 : decode cX1_foresee 219 = .ok (.lload 8, 2) := by decide +kernel
theorem dX1_foresee_221 : decode cX1_foresee 221 = .ok (.lconst 0, 1) := by decide +kernel
theorem dX1_foresee_222 : decode cX1_foresee 222 = .ok (.lcmp, 1) := by decide +kernel
theorem dX1_foresee_223 : decode cX1_foresee 223 = .ok (.ifCond .eq 7, 3) := by decide +kernel
theorem dX1_foresee_226 : decode cX1_foresee 226 = .ok (.iconst 1, 1) := by decide +kernel
theorem dX1_foresee_227 : decode cX1_foresee 227 = .ok (.goto 4, 3) := by decide +kernel
theorem dX1_foresee_230 : decode cX1_foresee 230 = .ok (.iconst 0, 1) := by decide +kernel
theorem dX1_foresee_231 : decode cX1_foresee 231 = .ok (.ireturn, 1) := by decide +kernel
theorem dX1_leap_0 : decode cX1_leap 0 = .ok (.aload_n 0, 1) := by decide +kernel
theorem dX1_leap_1 : decode cX1_leap 1 = .ok (.getfield 20, 3) := by decide +kernel
theorem dX1_leap_4 : decode cX1_leap 4 = .ok (.getfield 42, 3) := by decide +kernel
theorem dX1_leap_7 : decode cX1_leap 7 = .ok (.istore_n 1, 1) := by decide +kernel
theorem dX1_leap_8 : decode cX1_leap 8 = .ok (.lconst 0, 1) := by decide +kernel
theorem dX1_leap_9 : decode cX1_leap 9 = .ok (.lstore_n 2, 1) := by decide +kernel
theorem dX1_leap_10 : decode cX1_leap 10 = .ok (.lconst 0, 1) := by decide +kernel
theorem dX1_leap_11 : decode cX1_leap 11 = .ok (.lstore 4, 2) := by decide +kernel
theorem dX1_leap_13 : decode cX1_leap 13 = .ok (.iconst 0, 1) := by decide +kernel
theorem dX1_leap_14 : decode cX1_leap 14 = .ok (.istore 6, 2) := by decide +kernel
theorem dX1_leap_16 : decode cX1_leap 16 = .ok (.iload 6, 2) := by decide +kernel
theorem dX1_leap_18 : decode cX1_leap 18 = .ok (.iload_n 1, 1) := by decide +kernel
theorem dX1_leap_19 : decode cX1_leap 19 = .ok (.if_icmp .ge 112, 3) := by decide +kernel
theorem dX1_leap_22 : decode cX1_leap 22 = .ok (.aload_n 0, 1) := by decide +kernel
theorem dX1_leap_23 : decode cX1_leap 23 = .ok (.getfield 20, 3) := by decide +kernel
theorem dX1_leap_26 : decode cX1_leap 26 = .ok (.iload 6, 2) := by decide +kernel
theorem dX1_leap_28 : decode cX1_leap 28 = .ok (.invokevirtual 87, 3) := by decide +kernel
theorem dX1_leap_31 : decode cX1_leap 31 = .ok (.lstore 7, 2) := by decide +kernel
theorem dX1_leap_33 : decode cX1_leap 33 = .ok (.aload_n 0, 1) := by decide +kernel
theorem dX1_leap_34 : decode cX1_leap 34 = .ok (.getfield 23, 3) := by decide +kernel
theorem dX1_leap_37 : decode cX1_leap 37 = .ok (.iload 6, 2) := by decide +kernel
theorem dX1_leap_39 : decode cX1_leap 39 = .ok (.invokevirtual 87, 3) := by decide +kernel
theorem dX1_leap_42 : decode cX1_leap 42 = .ok (.lstore 9, 2) := by decide +kernel
theorem dX1_leap_44 : decode cX1_leap 44 = .ok (.lload_n 2, 1) := by decide +kernel
theorem dX1_leap_45 : decode cX1_leap 45 = .ok (.aload_n 0, 1) := by decide +kernel
theorem dX1_leap_46 : decode cX1_leap 46 = .ok (.getfield 74, 3) := by decide +kernel
theorem dX1_leap_49 : decode cX1_leap 49 = .ok (.lload 7, 2) := by decide +kernel
theorem dX1_leap_51 : decode cX1_leap 51 = .ok (.lmul, 1) := by decide +kernel
theorem dX1_leap_52 : decode cX1_leap 52 = .ok (.aload_n 0, 1) := by decide +kernel
theorem dX1_leap_53 : decode cX1_leap 53 = .ok (.getfield 78, 3) := by decide +kernel
theorem dX1_leap_56 : decode cX1_leap 56 = .ok (.lload 9, 2) := by decide +kernel
theorem dX1_leap_58 : decode cX1_leap 58 = .ok (.lmul, 1) := by decide +kernel
theorem dX1_leap_59 : decode cX1_leap 59 = .ok (.ladd, 1) := by decide +kernel
theorem dX1_leap_60 : decode cX1_leap 60 = .ok (.ladd, 1) := by decide +kernel
theorem dX1_leap_61 : decode cX1_leap 61 = .ok (.lstore_n 2, 1) := by decide +kernel
theorem dX1_leap_62 : decode cX1_leap 62 = .ok (.lload 4, 2) := by decide +kernel
theorem dX1_leap_64 : decode cX1_leap 64 = .ok (.aload_n 0, 1) := by decide +kernel
theorem dX1_leap_65 : decode cX1_leap 65 = .ok (.getfield 81, 3) := by decide +kernel
theorem dX1_leap_68 : decode cX1_leap 68 = .ok (.lload 7, 2) := by decide +kernel
theorem dX1_leap_70 : decode cX1_leap 70 = .ok (.lmul, 1) := by decide +kernel
theorem dX1_leap_71 : decode cX1_leap 71 = .ok (.aload_n 0, 1) := by decide +kernel
theorem dX1_leap_72 : decode cX1_leap 72 = .ok (.getfield 84, 3) := by decide +kernel
theorem dX1_leap_75 : decode cX1_leap 75 = .ok (.lload 9, 2) := by decide +kernel
theorem dX1_leap_77 : decode cX1_leap 77 = .ok (.lmul, 1) := by decide +kernel
theorem dX1_leap_78 : decode cX1_leap 78 = .ok (.ladd, 1) := by decide +kernel
theorem dX1_leap_79 : decode cX1_leap 79 = .ok (.ladd, 1) := by decide +kernel
theorem dX1_leap_80 : decode cX1_leap 80 = .ok (.lstore 4, 2) := by decide +kernel
theorem dX1_leap_82 : decode cX1_leap 82 = .ok (.aload_n 0, 1) := by decide +kernel
theorem dX1_leap_83 : decode cX1_leap 83 = .ok (.getfield 20, 3) := by decide +kernel
theorem dX1_leap_86 : decode cX1_leap 86 = .ok (.getfield 91, 3) := by decide +kernel
theorem dX1_leap_89 : decode cX1_leap 89 = .ok (.iload 6, 2) := by decide +kernel
theorem dX1_leap_91 : decode cX1_leap 91 = .ok (.lload_n 2, 1) := by decide +kernel
theorem dX1_leap_92 : decode cX1_leap 92 = .ok (.l2i, 1) := by decide +kernel
theorem dX1_leap_93 : decode cX1_leap 93 = .ok (.ldc 95, 2) := by decide +kernel
theorem dX1_leap_95 : decode cX1_leap 95 = .ok (.iand, 1) := by decide +kernel
theorem dX1_leap_96 : decode cX1_leap 96 = .ok (.iastore, 1) := by decide +kernel
theorem dX1_leap_97 : decode cX1_leap 97 = .ok (.aload_n 0, 1) := by decide +kernel
theorem dX1_leap_98 : decode cX1_leap 98 = .ok (.getfield 23, 3) := by decide +kernel
theorem dX1_leap_101 : decode cX1_leap 101 = .ok (.getfield 91, 3) := by decide +kernel
theorem dX1_leap_104 : decode cX1_leap 104 = .ok (.iload 6, 2) := by decide +kernel
theorem dX1_leap_106 : decode cX1_leap 106 = .ok (.lload 4, 2) := by decide +kernel
theorem dX1_leap_108 : decode cX1_leap 108 = .ok (.l2i, 1) := by decide +kernel
theorem dX1_leap_109 : decode cX1_leap 109 = .ok (.ldc 95, 2) := by decide +kernel
theorem dX1_leap_111 : decode cX1_leap 111 = .ok (.iand, 1) := by decide +kernel
theorem dX1_leap_112 : decode cX1_leap 112 = .ok (.iastore, 1) := by decide +kernel
theorem dX1_leap_113 : decode cX1_leap 113 = .ok (.lload_n 2, 1) := by decide +kernel
theorem dX1_leap_114 : decode cX1_leap 114 = .ok (.bipush 31, 2) := by decide +kernel
theorem dX1_leap_116 : decode cX1_leap 116 = .ok (.lshr, 1) := by decide +kernel
theorem dX1_leap_117 : decode cX1_leap 117 = .ok (.lstore_n 2, 1) := by decide +kernel
theorem dX1_leap_118 : decode cX1_leap 118 = .ok (.lload 4, 2) := by decide +kernel
theorem dX1_leap_120 : decode cX1_leap 120 = .ok (.bipush 31, 2) := by decide +kernel
theorem dX1_leap_122 : decode cX1_leap 122 = .ok (.lshr, 1) := by decide +kernel
theorem dX1_leap_123 : decode cX1_leap 123 = .ok (.lstore 4, 2) := by decide +kernel
theorem dX1_leap_125 : decode cX1_leap 125 = .ok (.iinc 6 1, 3) := by decide +kernel
theorem dX1_leap_128 : decode cX1_leap 128 = .ok (.goto (-112), 3) := by decide +kernel
theorem dX1_leap_131 : decode cX1_leap 131 = .ok (.aload_n 0, 1) := by decide +kernel
theorem dX1_leap_132 : decode cX1_leap 132 = .ok (.getfield 20, 3) := by decide +kernel
theorem dX1_leap_135 : decode cX1_leap 135 = .ok (.iload_n 1, 1) := by decide +kernel
theorem dX1_leap_136 : decode cX1_leap 136 = .ok (.putfield 42, 3) := by decide +kernel
theorem dX1_leap_139 : decode cX1_leap 139 = .ok (.aload_n 0, 1) := by decide +kernel
theorem dX1_leap_140 : decode cX1_leap 140 = .ok (.getfield 23, 3) := by decide +kernel
theorem dX1_leap_143 : decode cX1_leap 143 = .ok (.iload_n 1, 1) := by decide +kernel
theorem dX1_leap_144 : decode cX1_leap 144 = .ok (.putfield 42, 3) := by decide +kernel
theorem dX1_leap_147 : decode cX1_leap 147 = .ok (.aload_n 0, 1) := by decide +kernel
theorem dX1_leap_148 : decode cX1_leap 148 = .ok (.getfield 20, 3) := by decide +kernel
theorem dX1_leap_151 : decode cX1_leap 151 = .ok (.invokevirtual 96, 3) := by decide +kernel
theorem dX1_leap_154 : decode cX1_leap 154 = .ok (.aload_n 0, 1) := by decide +kernel
theorem dX1_leap_155 : decode cX1_leap 155 = .ok (.getfield 23, 3) := by decide +kernel
theorem dX1_leap_158 : decode cX1_leap 158 = .ok (.invokevirtual 96, 3) := by decide +kernel
theorem dX1_leap_161 : decode cX1_leap 161 = .ok (.return_, 1) := by decide +kernel
theorem dX1_commonOfLongs_0 : decode cX1_commonOfLongs 0 = .ok (.lload_n 0, 1) := by decide +kernel
theorem dX1_commonOfLongs_1 : decode cX1_commonOfLongs 1 = .ok (.lstore 4, 2) := by decide +kernel
theorem dX1_commonOfLongs_3 : decode cX1_commonOfLongs 3 = .ok (.lload_n 2, 1) := by decide +kernel
theorem dX1_commonOfLongs_4 : decode cX1_commonOfLongs 4 = .ok (.lstore 6, 2) := by decide +kernel
theorem dX1_commonOfLongs_6 : decode cX1_commonOfLongs 6 = .ok (.iconst 0, 1) := by decide +kernel
theorem dX1_commonOfLongs_7 : decode cX1_commonOfLongs 7 = .ok (.istore 8, 2) := by decide +kernel
theorem dX1_commonOfLongs_9 : decode cX1_commonOfLongs 9 = .ok (.iload 8, 2) := by decide +kernel
theorem dX1_commonOfLongs_11 : decode cX1_commonOfLongs 11 = .ok (.sipush 10000, 3) := by decide +kernel
theorem dX1_commonOfLongs_14 : decode cX1_commonOfLongs 14 = .ok (.if_icmp .ge 31, 3) := by decide +kernel
theorem dX1_commonOfLongs_17 : decode cX1_commonOfLongs 17 = .ok (.lload 6, 2) := by decide +kernel
theorem dX1_commonOfLongs_19 : decode cX1_commonOfLongs 19 = .ok (.lconst 0, 1) := by decide +kernel
theorem dX1_commonOfLongs_20 : decode cX1_commonOfLongs 20 = .ok (.lcmp, 1) := by decide +kernel
theorem dX1_commonOfLongs_21 : decode cX1_commonOfLongs 21 = .ok (.ifCond .eq 24, 3) := by decide +kernel
theorem dX1_commonOfLongs_24 : decode cX1_commonOfLongs 24 = .ok (.lload 4, 2) := by decide +kernel
theorem dX1_commonOfLongs_26 : decode cX1_commonOfLongs 26 = .ok (.lload 6, 2) := by decide +kernel
theorem dX1_commonOfLongs_28 : decode cX1_commonOfLongs 28 = .ok (.lrem, 1) := by decide +kernel
theorem dX1_commonOfLongs_29 : decode cX1_commonOfLongs 29 = .ok (.lstore 9, 2) := by decide +kernel
theorem dX1_commonOfLongs_31 : decode cX1_commonOfLongs 31 = .ok (.lload 6, 2) := by decide +kernel
theorem dX1_commonOfLongs_33 : decode cX1_commonOfLongs 33 = .ok (.lstore 4, 2) := by decide +kernel
theorem dX1_commonOfLongs_35 : decode cX1_commonOfLongs 35 = .ok (.lload 9, 2) := by decide +kernel
theorem dX1_commonOfLongs_37 : decode cX1_commonOfLongs 37 = .ok (.lstore 6, 2) := by decide +kernel
theorem dX1_commonOfLongs_39 : decode cX1_commonOfLongs 39 = .ok (.iinc 8 1, 3) := by decide +kernel
theorem dX1_commonOfLongs_42 : decode cX1_commonOfLongs 42 = .ok (.goto (-33), 3) := by decide +kernel
theorem dX1_commonOfLongs_45 : decode cX1_commonOfLongs 45 = .ok (.lload 4, 2) := by decide +kernel
theorem dX1_commonOfLongs_47 : decode cX1_commonOfLongs 47 = .ok (.lreturn, 1) := by decide +kernel
theorem dX2_init_0 : decode cX2_init 0 = .ok (.aload_n 0, 1) := by decide +kernel
theorem dX2_init_1 : decode cX2_init 1 = .ok (.invokespecial 1, 3) := by decide +kernel
theorem dX2_init_4 : decode cX2_init 4 = .ok (.aload_n 0, 1) := by decide +kernel
theorem dX2_init_5 : decode cX2_init 5 = .ok (.iload_n 1, 1) := by decide +kernel
theorem dX2_init_6 : decode cX2_init 6 = .ok (.putfield 7, 3) := by decide +kernel
theorem dX2_init_9 : decode cX2_init 9 = .ok (.aload_n 0, 1) := by decide +kernel
theorem dX2_init_10 : decode cX2_init 10 = .ok (.aload_n 2, 1) := by decide +kernel
theorem dX2_init_11 : decode cX2_init 11 = .ok (.putfield 13, 3) := by decide +kernel
theorem dX2_init_14 : decode cX2_init 14 = .ok (.aload_n 0, 1) := by decide +kernel
theorem dX2_init_15 : decode cX2_init 15 = .ok (.aload_n 3, 1) := by decide +kernel
theorem dX2_init_16 : decode cX2_init 16 = .ok (.putfield 17, 3) := by decide +kernel
theorem dX2_init_19 : decode cX2_init 19 = .ok (.return_, 1) := by decide +kernel
theorem dX2_side_0 : decode cX2_side 0 = .ok (.iload_n 1, 1) := by decide +kernel
theorem dX2_side_1 : decode cX2_side 1 = .ok (.ifCond .ne 10, 3) := by decide +kernel
theorem dX2_side_4 : decode cX2_side 4 = .ok (.aload_n 0, 1) := by decide +kernel
theorem dX2_side_5 : decode cX2_side 5 = .ok (.getfield 13, 3) := by decide +kernel
theorem dX2_side_8 : decode cX2_side 8 = .ok (.goto 7, 3) := by decide +kernel
theorem dX2_side_11 : decode cX2_side 11 = .ok (.aload_n 0, 1) := by decide +kernel
theorem dX2_side_12 : decode cX2_side 12 = .ok (.getfield 17, 3) := by decide +kernel
theorem dX2_side_15 : decode cX2_side 15 = .ok (.areturn, 1) := by decide +kernel
theorem dX2_isSmall_0 : decode cX2_isSmall 0 = .ok (.aload_n 0, 1) := by decide +kernel
theorem dX2_isSmall_1 : decode cX2_isSmall 1 = .ok (.getfield 13, 3) := by decide +kernel
theorem dX2_isSmall_4 : decode cX2_isSmall 4 = .ok (.aload_n 0, 1) := by decide +kernel
theorem dX2_isSmall_5 : decode cX2_isSmall 5 = .ok (.getfield 7, 3) := by decide +kernel
theorem dX2_isSmall_8 : decode cX2_isSmall 8 = .ok (.ifCond .ge 7, 3) := by decide +kernel
theorem dX2_isSmall_11 : decode cX2_isSmall 11 = .ok (.iconst 1, 1) := by decide +kernel
theorem dX2_isSmall_12 : decode cX2_isSmall 12 = .ok (.goto 4, 3) := by decide +kernel
theorem dX2_isSmall_15 : decode cX2_isSmall 15 = .ok (.iconst 0, 1) := by decide +kernel
theorem dX2_isSmall_16 : decode cX2_isSmall 16 = .ok (.invokevirtual 20, 3) := by decide +kernel
theorem dX2_isSmall_19 : decode cX2_isSmall 19 = .ok (.ifCond .eq 18, 3) := by decide +kernel
theorem dX2_isSmall_22 : decode cX2_isSmall 22 = .ok (.aload_n 0, 1) := by decide +kernel
theorem dX2_isSmall_23 : decode cX2_isSmall 23 = .ok (.getfield 17, 3) := by decide +kernel
theorem dX2_isSmall_26 : decode cX2_isSmall 26 = .ok (.iconst 0, 1) := by decide +kernel
theorem dX2_isSmall_27 : decode cX2_isSmall 27 = .ok (.invokevirtual 20, 3) := by decide +kernel
theorem dX2_isSmall_30 : decode cX2_isSmall 30 = .ok (.ifCond .eq 7, 3) := by decide +kernel
theorem dX2_isSmall_33 : decode cX2_isSmall 33 = .ok (.iconst 1, 1) := by decide +kernel
theorem dX2_isSmall_34 : decode cX2_isSmall 34 = .ok (.goto 4, 3) := by decide +kernel
theorem dX2_isSmall_37 : decode cX2_isSmall 37 = .ok (.iconst 0, 1) := by decide +kernel
theorem dX2_isSmall_38 : decode cX2_isSmall 38 = .ok (.ireturn, 1) := by decide +kernel
theorem dX2_greaterLength_0 : decode cX2_greaterLength 0 = .ok (.aload_n 0, 1) := by decide +kernel
theorem dX2_greaterLength_1 : decode cX2_greaterLength 1 = .ok (.getfield 13, 3) := by decide +kernel
theorem dX2_greaterLength_4 : decode cX2_greaterLength 4 = .ok (.invokevirtual 26, 3) := by decide +kernel
theorem dX2_greaterLength_7 : decode cX2_greaterLength 7 = .ok (.aload_n 0, 1) := by decide +kernel
theorem dX2_greaterLength_8 : decode cX2_greaterLength 8 = .ok (.getfield 17, 3) := by decide +kernel
theorem dX2_greaterLength_11 : decode cX2_greaterLength 11 = .ok (.invokevirtual 26, 3) := by decide +kernel
theorem dX2_greaterLength_14 : decode cX2_greaterLength 14 = .ok (.invokestatic 30, 3) := by decide +kernel
theorem dX2_greaterLength_17 : decode cX2_greaterLength 17 = .ok (.ireturn, 1) := by decide +kernel
theorem dX2_isSame_0 : decode cX2_isSame 0 = .ok (.aload_n 0, 1) := by decide +kernel
theorem dX2_isSame_1 : decode cX2_isSame 1 = .ok (.getfield 7, 3) := by decide +kernel
theorem dX2_isSame_4 : decode cX2_isSame 4 = .ok (.aload_n 1, 1) := by decide +kernel
theorem dX2_isSame_5 : decode cX2_isSame 5 = .ok (.getfield 7, 3) := by decide +kernel
theorem dX2_isSame_8 : decode cX2_isSame 8 = .ok (.if_icmp .ne 35, 3) := by decide +kernel
theorem dX2_isSame_11 : decode cX2_isSame 11 = .ok (.aload_n 0, 1) := by decide +kernel
theorem dX2_isSame_12 : decode cX2_isSame 12 = .ok (.getfield 13, 3) := by decide +kernel
theorem dX2_isSame_15 : decode cX2_isSame 15 = .ok (.aload_n 1, 1) := by decide +kernel
theorem dX2_isSame_16 : decode cX2_isSame 16 = .ok (.getfield 13, 3) := by decide +kernel
theorem dX2_isSame_19 : decode cX2_isSame 19 = .ok (.invokevirtual 36, 3) := by decide +kernel
theorem dX2_isSame_22 : decode cX2_isSame 22 = .ok (.ifCond .ne 21, 3) := by decide +kernel
theorem dX2_isSame_25 : decode cX2_isSame 25 = .ok (.aload_n 0, 1) := by decide +kernel
theorem dX2_isSame_26 : decode cX2_isSame 26 = .ok (.getfield 17, 3) := by decide +kernel
theorem dX2_isSame_29 : decode cX2_isSame 29 = .ok (.aload_n 1, 1) := by decide +kernel
theorem dX2_isSame_30 : decode cX2_isSame 30 = .ok (.getfield 17, 3) := by decide +kernel
theorem dX2_isSame_33 : decode cX2_isSame 33 = .ok (.invokevirtual 36, 3) := by decide +kernel
theorem dX2_isSame_36 : decode cX2_isSame 36 = .ok (.ifCond .ne 7, 3) := by decide +kernel
theorem dX2_isSame_39 : decode cX2_isSame 39 = .ok (.iconst 1, 1) := by decide +kernel
theorem dX2_isSame_40 : decode cX2_isSame 40 = .ok (.goto 4, 3) := by decide +kernel
theorem dX2_isSame_43 : decode cX2_isSame 43 = .ok (.iconst 0, 1) := by decide +kernel
theorem dX2_isSame_44 : decode cX2_isSame 44 = .ok (.ireturn, 1) := by decide +kernel
theorem dX3_init_0 : decode cX3_init 0 = .ok (.aload_n 0, 1) := by decide +kernel
theorem dX3_init_1 : decode cX3_init 1 = .ok (.invokespecial 3, 3) := by decide +kernel
theorem dX3_init_4 : decode cX3_init 4 = .ok (.aload_n 0, 1) := by decide +kernel
theorem dX3_init_5 : decode cX3_init 5 = .ok (.new 9, 3) := by decide +kernel
theorem dX3_init_8 : decode cX3_init 8 = .ok (.dup, 1) := by decide +kernel
theorem dX3_init_9 : decode cX3_init 9 = .ok (.invokespecial 11, 3) := by decide +kernel
theorem dX3_init_12 : decode cX3_init 12 = .ok (.putfield 12, 3) := by decide +kernel
theorem dX3_init_15 : decode cX3_init 15 = .ok (.aload_n 0, 1) := by decide +kernel
theorem dX3_init_16 : decode cX3_init 16 = .ok (.new 18, 3) := by decide +kernel
theorem dX3_init_19 : decode cX3_init 19 = .ok (.dup, 1) := by decide +kernel
theorem dX3_init_20 : decode cX3_init 20 = .ok (.bipush 72, 2) := by decide +kernel
theorem dX3_init_22 : decode cX3_init 22 = .ok (.invokespecial 20, 3) := by decide +kernel
theorem dX3_init_25 : decode cX3_init 25 = .ok (.putfield 23, 3) := by decide +kernel
theorem dX3_init_28 : decode cX3_init 28 = .ok (.aload_n 0, 1) := by decide +kernel
theorem dX3_init_29 : decode cX3_init 29 = .ok (.new 18, 3) := by decide +kernel
theorem dX3_init_32 : decode cX3_init 32 = .ok (.dup, 1) := by decide +kernel
theorem dX3_init_33 : decode cX3_init 33 = .ok (.bipush 72, 2) := by decide +kernel
theorem dX3_init_35 : decode cX3_init 35 = .ok (.invokespecial 20, 3) := by decide +kernel
theorem dX3_init_38 : decode cX3_init 38 = .ok (.putfield 27, 3) := by decide +kernel
theorem dX3_init_41 : decode cX3_init 41 = .ok (.aload_n 0, 1) := by decide +kernel
theorem dX3_init_42 : decode cX3_init 42 = .ok (.new 18, 3) := by decide +kernel
theorem dX3_init_45 : decode cX3_init 45 = .ok (.dup, 1) := by decide +kernel
theorem dX3_init_46 : decode cX3_init 46 = .ok (.bipush 72, 2) := by decide +kernel
theorem dX3_init_48 : decode cX3_init 48 = .ok (.invokespecial 20, 3) := by decide +kernel
theorem dX3_init_51 : decode cX3_init 51 = .ok (.putfield 30, 3) := by decide +kernel
theorem dX3_init_54 : decode cX3_init 54 = .ok (.aload_n 0, 1) := by decide +kernel
theorem dX3_init_55 : decode cX3_init 55 = .ok (.new 18, 3) := by decide +kernel
theorem dX3_init_58 : decode cX3_init 58 = .ok (.dup, 1) := by decide +kernel
theorem dX3_init_59 : decode cX3_init 59 = .ok (.bipush 72, 2) := by decide +kernel
theorem dX3_init_61 : decode cX3_init 61 = .ok (.invokespecial 20, 3) := by decide +kernel
theorem dX3_init_64 : decode cX3_init 64 = .ok (.putfield 33, 3) := by decide +kernel
theorem dX3_init_67 : decode cX3_init 67 = .ok (.aload_n 0, 1) := by decide +kernel
theorem dX3_init_68 : decode cX3_init 68 = .ok (.new 18, 3) := by decide +kernel
theorem dX3_init_71 : decode cX3_init 71 = .ok (.dup, 1) := by decide +kernel
theorem dX3_init_72 : decode cX3_init 72 = .ok (.bipush 72, 2) := by decide +kernel
theorem dX3_init_74 : decode cX3_init 74 = .ok (.invokespecial 20, 3) := by decide +kernel
theorem dX3_init_77 : decode cX3_init 77 = .ok (.putfield 36, 3) := by decide +kernel
theorem dX3_init_80 : decode cX3_init 80 = .ok (.aload_n 0, 1) := by decide +kernel
theorem dX3_init_81 : decode cX3_init 81 = .ok (.new 18, 3) := by decide +kernel
theorem dX3_init_84 : decode cX3_init 84 = .ok (.dup, 1) := by decide +kernel
theorem dX3_init_85 : decode cX3_init 85 = .ok (.bipush 72, 2) := by decide +kernel
theorem dX3_init_87 : decode cX3_init 87 = .ok (.invokespecial 20, 3) := by decide +kernel
theorem dX3_init_90 : decode cX3_init 90 = .ok (.putfield 39, 3) := by decide +kernel
theorem dX3_init_93 : decode cX3_init 93 = .ok (.aload_n 0, 1) := by decide +kernel
theorem dX3_init_94 : decode cX3_init 94 = .ok (.new 18, 3) := by decide +kernel
theorem dX3_init_97 : decode cX3_init 97 = .ok (.dup, 1) := by decide +kernel
theorem dX3_init_98 : decode cX3_init 98 = .ok (.bipush 72, 2) := by decide +kernel
theorem dX3_init_100 : decode cX3_init 100 = .ok (.invokespecial 20, 3) := by decide +kernel
theorem dX3_init_103 : decode cX3_init 103 = .ok (.putfield 42, 3) := by decide +kernel
theorem dX3_init_106 : decode cX3_init 106 = .ok (.aload_n 0, 1) := by decide +kernel
theorem dX3_init_107 : decode cX3_init 107 = .ok (.new 18, 3) := by decide +kernel
theorem dX3_init_110 : decode cX3_init 110 = .ok (.dup, 1) := by decide +kernel
theorem dX3_init_111 : decode cX3_init 111 = .ok (.bipush 72, 2) := by decide +kernel
theorem dX3_init_113 : decode cX3_init 113 = .ok (.invokespecial 20, 3) := by decide +kernel
theorem dX3_init_116 : decode cX3_init 116 = .ok (.putfield 45, 3) := by decide +kernel
theorem dX3_init_119 : decode cX3_init 119 = .ok (.aload_n 0, 1) := by decide +kernel
theorem dX3_init_120 : decode cX3_init 120 = .ok (.new 18, 3) := by decide +kernel
theorem dX3_init_123 : decode cX3_init 123 = .ok (.dup, 1) := by decide +kernel
theorem dX3_init_124 : decode cX3_init 124 = .ok (.bipush 72, 2) := by decide +kernel
theorem dX3_init_126 : decode cX3_init 126 = .ok (.invokespecial 20, 3) := by decide +kernel
theorem dX3_init_129 : decode cX3_init 129 = .ok (.putfield 48, 3) := by decide +kernel
theorem dX3_init_132 : decode cX3_init 132 = .ok (.aload_n 0, 1) := by decide +kernel
theorem dX3_init_133 : decode cX3_init 133 = .ok (.new 18, 3) := by decide +kernel
theorem dX3_init_136 : decode cX3_init 136 = .ok (.dup, 1) := by decide +kernel
theorem dX3_init_137 : decode cX3_init 137 = .ok (.iconst 3, 1) := by decide +kernel
theorem dX3_init_138 : decode cX3_init 138 = .ok (.invokespecial 20, 3) := by decide +kernel
theorem dX3_init_141 : decode cX3_init 141 = .ok (.putfield 51, 3) := by decide +kernel
theorem dX3_init_144 : decode cX3_init 144 = .ok (.aload_n 0, 1) := by decide +kernel
theorem dX3_init_145 : decode cX3_init 145 = .ok (.getfield 51, 3) := by decide +kernel
theorem dX3_init_148 : decode cX3_init 148 = .ok (.lconst 1, 1) := by decide +kernel
theorem dX3_init_149 : decode cX3_init 149 = .ok (.invokevirtual 54, 3) := by decide +kernel
theorem dX3_init_152 : decode cX3_init 152 = .ok (.aload_n 0, 1) := by decide +kernel
theorem dX3_init_153 : decode cX3_init 153 = .ok (.new 58, 3) := by decide +kernel
theorem dX3_init_156 : decode cX3_init 156 = .ok (.dup, 1) := by decide +kernel
theorem dX3_init_157 : decode cX3_init 157 = .ok (.iconst 0, 1) := by decide +kernel
theorem dX3_init_158 : decode cX3_init 158 = .ok (.new 18, 3) := by decide +kernel
theorem dX3_init_161 : decode cX3_init 161 = .ok (.dup, 1) := by decide +kernel
theorem dX3_init_162 : decode cX3_init 162 = .ok (.iconst 0, 1) := by decide +kernel
theorem dX3_init_163 : decode cX3_init 163 = .ok (.invokespecial 20, 3) := by decide +kernel
theorem dX3_init_166 : decode cX3_init 166 = .ok (.aload_n 0, 1) := by decide +kernel
theorem dX3_init_167 : decode cX3_init 167 = .ok (.getfield 51, 3) := by decide +kernel
theorem dX3_init_170 : decode cX3_init 170 = .ok (.invokespecial 60, 3) := by decide +kernel
theorem dX3_init_173 : decode cX3_init 173 = .ok (.putfield 63, 3) := by decide +kernel
theorem dX3_init_176 : decode cX3_init 176 = .ok (.return_, 1) := by decide +kernel
theorem dX3_fromLongs_0 : decode cX3_fromLongs 0 = .ok (.lload_n 1, 1) := by decide +kernel
theorem dX3_fromLongs_1 : decode cX3_fromLongs 1 = .ok (.lconst 0, 1) := by decide +kernel
theorem dX3_fromLongs_2 : decode cX3_fromLongs 2 = .ok (.lcmp, 1) := by decide +kernel
theorem dX3_fromLongs_3 : decode cX3_fromLongs 3 = .ok (.ifCond .ne 8, 3) := by decide +kernel
theorem dX3_fromLongs_6 : decode cX3_fromLongs 6 = .ok (.aload_n 0, 1) := by decide +kernel
theorem dX3_fromLongs_7 : decode cX3_fromLongs 7 = .ok (.getfield 63, 3) := by decide +kernel
theorem dX3_fromLongs_10 : decode cX3_fromLongs 10 = .ok (.areturn, 1) := by decide +kernel
theorem dX3_fromLongs_11 : decode cX3_fromLongs 11 = .ok (.aload_n 0, 1) := by decide +kernel
theorem dX3_fromLongs_12 : decode cX3_fromLongs 12 = .ok (.getfield 39, 3) := by decide +kernel
theorem dX3_fromLongs_15 : decode cX3_fromLongs 15 = .ok (.lload_n 1, 1) := by decide +kernel
theorem dX3_fromLongs_16 : decode cX3_fromLongs 16 = .ok (.lconst 0, 1) := by decide +kernel
theorem dX3_fromLongs_17 : decode cX3_fromLongs 17 = .ok (.lcmp, 1) := by decide +kernel
theorem dX3_fromLongs_18 : decode cX3_fromLongs 18 = .ok (.ifCond .ge 8, 3) := by decide +kernel
theorem dX3_fromLongs_21 : decode cX3_fromLongs 21 = .ok (.lload_n 1, 1) := by decide +kernel
theorem dX3_fromLongs_22 : decode cX3_fromLongs 22 = .ok (.lneg, 1) := by decide +kernel
theorem dX3_fromLongs_23 : decode cX3_fromLongs 23 = .ok (.goto 4, 3) := by decide +kernel
theorem dX3_fromLongs_26 : decode cX3_fromLongs 26 = .ok (.lload_n 1, 1) := by decide +kernel
theorem dX3_fromLongs_27 : decode cX3_fromLongs 27 = .ok (.invokevirtual 54, 3) := by decide +kernel
theorem dX3_fromLongs_30 : decode cX3_fromLongs 30 = .ok (.aload_n 0, 1) := by decide +kernel
theorem dX3_fromLongs_31 : decode cX3_fromLongs 31 = .ok (.getfield 42, 3) := by decide +kernel
theorem dX3_fromLongs_34 : decode cX3_fromLongs 34 = .ok (.lload_n 3, 1) := by decide +kernel
theorem dX3_fromLongs_35 : decode cX3_fromLongs 35 = .ok (.lconst 0, 1) := by decide +kernel
theorem dX3_fromLongs_36 : decode cX3_fromLongs 36 = .ok (.lcmp, 1) := by decide +kernel
theorem dX3_fromLongs_37 : decode cX3_fromLongs 37 = .ok (.ifCond .ge 8, 3) := by decide +kernel
theorem dX3_fromLongs_40 : decode cX3_fromLongs 40 = .ok (.lload_n 3, 1) := by decide +kernel
theorem dX3_fromLongs_41 : decode cX3_fromLongs 41 = .ok (.lneg, 1) := by decide +kernel
theorem dX3_fromLongs_42 : decode cX3_fromLongs 42 = .ok (.goto 4, 3) := by decide +kernel
theorem dX3_fromLongs_45 : decode cX3_fromLongs 45 = .ok (.lload_n 3, 1) := by decide +kernel
theorem dX3_fromLongs_46 : decode cX3_fromLongs 46 = .ok (.invokevirtual 54, 3) := by decide +kernel
theorem dX3_fromLongs_49 : decode cX3_fromLongs 49 = .ok (.aload_n 0, 1) := by decide +kernel
theorem dX3_fromLongs_50 : decode cX3_fromLongs 50 = .ok (.getfield 12, 3) := by decide +kernel
theorem dX3_fromLongs_53 : decode cX3_fromLongs 53 = .ok (.aload_n 0, 1) := by decide +kernel
theorem dX3_fromLongs_54 : decode cX3_fromLongs 54 = .ok (.getfield 39, 3) := by decide +kernel
theorem dX3_fromLongs_57 : decode cX3_fromLongs 57 = .ok (.aload_n 0, 1) := by decide +kernel
theorem dX3_fromLongs_58 : decode cX3_fromLongs 58 = .ok (.getfield 42, 3) := by decide +kernel
theorem dX3_fromLongs_61 : decode cX3_fromLongs 61 = .ok (.aload_n 0, 1) := by decide +kernel
theorem dX3_fromLongs_62 : decode cX3_fromLongs 62 = .ok (.getfield 30, 3) := by decide +kernel
theorem dX3_fromLongs_65 : decode cX3_fromLongs 65 = .ok (.invokevirtual 67, 3) := by decide +kernel
theorem dX3_fromLongs_68 : decode cX3_fromLongs 68 = .ok (.aload_n 0, 1) := by decide +kernel
theorem dX3_fromLongs_69 : decode cX3_fromLongs 69 = .ok (.aload_n 0, 1) := by decide +kernel
theorem dX3_fromLongs_70 : decode cX3_fromLongs 70 = .ok (.getfield 39, 3) := by decide +kernel
theorem dX3_fromLongs_73 : decode cX3_fromLongs 73 = .ok (.aload_n 0, 1) := by decide +kernel
theorem dX3_fromLongs_74 : decode cX3_fromLongs 74 = .ok (.getfield 30, 3) := by decide +kernel
theorem dX3_fromLongs_77 : decode cX3_fromLongs 77 = .ok (.aload_n 0, 1) := by decide +kernel
theorem dX3_fromLongs_78 : decode cX3_fromLongs 78 = .ok (.getfield 45, 3) := by decide +kernel
theorem dX3_fromLongs_81 : decode cX3_fromLongs 81 = .ok (.invokevirtual 71, 3) := by decide +kernel
theorem dX3_fromLongs_84 : decode cX3_fromLongs 84 = .ok (.aload_n 0, 1) := by decide +kernel
theorem dX3_fromLongs_85 : decode cX3_fromLongs 85 = .ok (.aload_n 0, 1) := by decide +kernel
theorem dX3_fromLongs_86 : decode cX3_fromLongs 86 = .ok (.getfield 42, 3) := by decide +kernel
theorem dX3_fromLongs_89 : decode cX3_fromLongs 89 = .ok (.aload_n 0, 1) := by decide +kernel
theorem dX3_fromLongs_90 : decode cX3_fromLongs 90 = .ok (.getfield 30, 3) := by decide +kernel
theorem dX3_fromLongs_93 : decode cX3_fromLongs 93 = .ok (.aload_n 0, 1) := by decide +kernel
theorem dX3_fromLongs_94 : decode cX3_fromLongs 94 = .ok (.getfield 48, 3) := by decide +kernel
theorem dX3_fromLongs_97 : decode cX3_fromLongs 97 = .ok (.invokevirtual 71, 3) := by decide +kernel
theorem dX3_fromLongs_100 : decode cX3_fromLongs 100 = .ok (.aload_n 0, 1) := by decide +kernel
theorem dX3_fromLongs_101 : decode cX3_fromLongs 101 = .ok (.lload_n 1, 1) := by decide +kernel
theorem dX3_fromLongs_102 : decode cX3_fromLongs 102 = .ok (.lconst 0, 1) := by decide +kernel
theorem dX3_fromLongs_103 : decode cX3_fromLongs 103 = .ok (.lcmp, 1) := by decide +kernel
theorem dX3_fromLongs_104 : decode cX3_fromLongs 104 = .ok (.ifCond .ge 7, 3) := by decide +kernel
theorem dX3_fromLongs_107 : decode cX3_fromLongs 107 = .ok (.iconst 1, 1) := by decide +kernel
theorem dX3_fromLongs_108 : decode cX3_fromLongs 108 = .ok (.goto 4, 3) := by decide +kernel
theorem dX3_fromLongs_111 : decode cX3_fromLongs 111 = .ok (.iconst 0, 1) := by decide +kernel
theorem dX3_fromLongs_112 : decode cX3_fromLongs 112 = .ok (.lload_n 3, 1) := by decide +kernel
theorem dX3_fromLongs_113 : decode cX3_fromLongs 113 = .ok (.lconst 0, 1) := by decide +kernel
theorem dX3_fromLongs_114 : decode cX3_fromLongs 114 = .ok (.lcmp, 1) := by decide +kernel
theorem dX3_fromLongs_115 : decode cX3_fromLongs 115 = .ok (.ifCond .ge 7, 3) := by decide +kernel
theorem dX3_fromLongs_118 : decode cX3_fromLongs 118 = .ok (.iconst 1, 1) := by decide +kernel
theorem dX3_fromLongs_119 : decode cX3_fromLongs 119 = .ok (.goto 4, 3) := by decide +kernel
theorem dX3_fromLongs_122 : decode cX3_fromLongs 122 = .ok (.iconst 0, 1) := by decide +kernel
theorem dX3_fromLongs_123 : decode cX3_fromLongs 123 = .ok (.if_icmp .ne 7, 3) := by decide +kernel
theorem dX3_fromLongs_126 : decode cX3_fromLongs 126 = .ok (.iconst 1, 1) := by decide +kernel
theorem dX3_fromLongs_127 : decode cX3_fromLongs 127 = .ok (.goto 4, 3) := by decide +kernel
theorem dX3_fromLongs_130 : decode cX3_fromLongs 130 = .ok (.iconst (-1), 1) := by decide +kernel
theorem dX3_fromLongs_131 : decode cX3_fromLongs 131 = .ok (.invokevirtual 74, 3) := by decide +kernel
theorem dX3_fromLongs_134 : decode cX3_fromLongs 134 = .ok (.areturn, 1) := by decide +kernel
theorem dX3_sum_0 : decode cX3_sum 0 = .ok (.iload_n 3, 1) := by decide +kernel
theorem dX3_sum_1 : decode cX3_sum 1 = .ok (.ifCond .ne 5, 3) := by decide +kernel
theorem dX3_sum_4 : decode cX3_sum 4 = .ok (.aload_n 1, 1) := by decide +kernel
theorem dX3_sum_5 : decode cX3_sum 5 = .ok (.areturn, 1) := by decide +kernel
theorem dX3_sum_6 : decode cX3_sum 6 = .ok (.aload_n 1, 1) := by decide +kernel
theorem dX3_sum_7 : decode cX3_sum 7 = .ok (.getfield 78, 3) := by decide +kernel
theorem dX3_sum_10 : decode cX3_sum 10 = .ok (.ifCond .ne 20, 3) := by decide +kernel
theorem dX3_sum_13 : decode cX3_sum 13 = .ok (.new 58, 3) := by decide +kernel
theorem dX3_sum_16 : decode cX3_sum 16 = .ok (.dup, 1) := by decide +kernel
theorem dX3_sum_17 : decode cX3_sum 17 = .ok (.iload_n 3, 1) := by decide +kernel
theorem dX3_sum_18 : decode cX3_sum 18 = .ok (.aload_n 2, 1) := by decide +kernel
theorem dX3_sum_19 : decode cX3_sum 19 = .ok (.getfield 82, 3) := by decide +kernel
theorem dX3_sum_22 : decode cX3_sum 22 = .ok (.aload_n 2, 1) := by decide +kernel
theorem dX3_sum_23 : decode cX3_sum 23 = .ok (.getfield 83, 3) := by decide +kernel
theorem dX3_sum_26 : decode cX3_sum 26 = .ok (.invokespecial 60, 3) := by decide +kernel
theorem dX3_sum_29 : decode cX3_sum 29 = .ok (.areturn, 1) := by decide +kernel
theorem dX3_sum_30 : decode cX3_sum 30 = .ok (.aload_n 0, 1) := by decide +kernel
theorem dX3_sum_31 : decode cX3_sum 31 = .ok (.aload_n 1, 1) := by decide +kernel
theorem dX3_sum_32 : decode cX3_sum 32 = .ok (.aload_n 2, 1) := by decide +kernel
theorem dX3_sum_33 : decode cX3_sum 33 = .ok (.invokevirtual 84, 3) := by decide +kernel
theorem dX3_sum_36 : decode cX3_sum 36 = .ok (.aload_n 1, 1) := by decide +kernel
theorem dX3_sum_37 : decode cX3_sum 37 = .ok (.getfield 78, 3) := by decide +kernel
theorem dX3_sum_40 : decode cX3_sum 40 = .ok (.istore 4, 2) := by decide +kernel
theorem dX3_sum_42 : decode cX3_sum 42 = .ok (.aload_n 1, 1) := by decide +kernel
theorem dX3_sum_43 : decode cX3_sum 43 = .ok (.getfield 78, 3) := by decide +kernel
theorem dX3_sum_46 : decode cX3_sum 46 = .ok (.iload_n 3, 1) := by decide +kernel
theorem dX3_sum_47 : decode cX3_sum 47 = .ok (.if_icmp .ne 21, 3) := by decide +kernel
theorem dX3_sum_50 : decode cX3_sum 50 = .ok (.aload_n 0, 1) := by decide +kernel
theorem dX3_sum_51 : decode cX3_sum 51 = .ok (.getfield 39, 3) := by decide +kernel
theorem dX3_sum_54 : decode cX3_sum 54 = .ok (.aload_n 0, 1) := by decide +kernel
theorem dX3_sum_55 : decode cX3_sum 55 = .ok (.getfield 39, 3) := by decide +kernel
theorem dX3_sum_58 : decode cX3_sum 58 = .ok (.aload_n 0, 1) := by decide +kernel
theorem dX3_sum_59 : decode cX3_sum 59 = .ok (.getfield 42, 3) := by decide +kernel
theorem dX3_sum_62 : decode cX3_sum 62 = .ok (.invokevirtual 88, 3) := by decide +kernel
theorem dX3_sum_65 : decode cX3_sum 65 = .ok (.goto 53, 3) := by decide +kernel
theorem dX3_sum_68 : decode cX3_sum 68 = .ok (.aload_n 0, 1) := by decide +kernel
theorem dX3_sum_69 : decode cX3_sum 69 = .ok (.getfield 39, 3) := by decide +kernel
theorem dX3_sum_72 : decode cX3_sum 72 = .ok (.aload_n 0, 1) := by decide +kernel
theorem dX3_sum_73 : decode cX3_sum 73 = .ok (.getfield 42, 3) := by decide +kernel
theorem dX3_sum_76 : decode cX3_sum 76 = .ok (.invokevirtual 92, 3) := by decide +kernel
theorem dX3_sum_79 : decode cX3_sum 79 = .ok (.ifCond .lt 21, 3) := by decide +kernel
theorem dX3_sum_82 : decode cX3_sum 82 = .ok (.aload_n 0, 1) := by decide +kernel
theorem dX3_sum_83 : decode cX3_sum 83 = .ok (.getfield 39, 3) := by decide +kernel
theorem dX3_sum_86 : decode cX3_sum 86 = .ok (.aload_n 0, 1) := by decide +kernel
theorem dX3_sum_87 : decode cX3_sum 87 = .ok (.getfield 39, 3) := by decide +kernel
theorem dX3_sum_90 : decode cX3_sum 90 = .ok (.aload_n 0, 1) := by decide +kernel
theorem dX3_sum_91 : decode cX3_sum 91 = .ok (.getfield 42, 3) := by decide +kernel
theorem dX3_sum_94 : decode cX3_sum 94 = .ok (.invokevirtual 96, 3) := by decide +kernel
theorem dX3_sum_97 : decode cX3_sum 97 = .ok (.goto 21, 3) := by decide +kernel
theorem dX3_sum_100 : decode cX3_sum 100 = .ok (.aload_n 0, 1) := by decide +kernel
theorem dX3_sum_101 : decode cX3_sum 101 = .ok (.getfield 39, 3) := by decide +kernel
theorem dX3_sum_104 : decode cX3_sum 104 = .ok (.aload_n 0, 1) := by decide +kernel
theorem dX3_sum_105 : decode cX3_sum 105 = .ok (.getfield 42, 3) := by decide +kernel
theorem dX3_sum_108 : decode cX3_sum 108 = .ok (.aload_n 0, 1) := by decide +kernel
theorem dX3_sum_109 : decode cX3_sum 109 = .ok (.getfield 39, 3) := by decide +kernel
theorem dX3_sum_112 : decode cX3_sum 112 = .ok (.invokevirtual 96, 3) := by decide +kernel
theorem dX3_sum_115 : decode cX3_sum 115 = .ok (.iload_n 3, 1) := by decide +kernel
theorem dX3_sum_116 : decode cX3_sum 116 = .ok (.istore 4, 2) := by decide +kernel
theorem dX3_sum_118 : decode cX3_sum 118 = .ok (.aload_n 0, 1) := by decide +kernel
theorem dX3_sum_119 : decode cX3_sum 119 = .ok (.getfield 39, 3) := by decide +kernel
theorem dX3_sum_122 : decode cX3_sum 122 = .ok (.getfield 99, 3) := by decide +kernel
theorem dX3_sum_125 : decode cX3_sum 125 = .ok (.ifCond .ne 10, 3) := by decide +kernel
theorem dX3_sum_128 : decode cX3_sum 128 = .ok (.aload_n 0, 1) := by decide +kernel
theorem dX3_sum_129 : decode cX3_sum 129 = .ok (.getfield 63, 3) := by decide +kernel
theorem dX3_sum_132 : decode cX3_sum 132 = .ok (.goto 21, 3) := by decide +kernel
theorem dX3_sum_135 : decode cX3_sum 135 = .ok (.aload_n 0, 1) := by decide +kernel
theorem dX3_sum_136 : decode cX3_sum 136 = .ok (.iload 4, 2) := by decide +kernel
theorem dX3_sum_138 : decode cX3_sum 138 = .ok (.aload_n 0, 1) := by decide +kernel
theorem dX3_sum_139 : decode cX3_sum 139 = .ok (.getfield 39, 3) := by decide +kernel
theorem dX3_sum_142 : decode cX3_sum 142 = .ok (.aload_n 0, 1) := by decide +kernel
theorem dX3_sum_143 : decode cX3_sum 143 = .ok (.getfield 30, 3) := by decide +kernel
theorem dX3_sum_146 : decode cX3_sum 146 = .ok (.aload_n 2, 1) := by decide +kernel
theorem dX3_sum_147 : decode cX3_sum 147 = .ok (.getfield 83, 3) := by decide +kernel
theorem dX3_sum_150 : decode cX3_sum 150 = .ok (.invokevirtual 102, 3) := by decide +kernel
theorem dX3_sum_153 : decode cX3_sum 153 = .ok (.areturn, 1) := by decide +kernel
theorem dX3_product_0 : decode cX3_product 0 = .ok (.aload_n 0, 1) := by decide +kernel
theorem dX3_product_1 : decode cX3_product 1 = .ok (.aload_n 1, 1) := by decide +kernel
theorem dX3_product_2 : decode cX3_product 2 = .ok (.aload_n 2, 1) := by decide +kernel
theorem dX3_product_3 : decode cX3_product 3 = .ok (.getfield 78, 3) := by decide +kernel
theorem dX3_product_6 : decode cX3_product 6 = .ok (.aload_n 2, 1) := by decide +kernel
theorem dX3_product_7 : decode cX3_product 7 = .ok (.getfield 82, 3) := by decide +kernel
theorem dX3_product_10 : decode cX3_product 10 = .ok (.aload_n 2, 1) := by decide +kernel
theorem dX3_product_11 : decode cX3_product 11 = .ok (.getfield 83, 3) := by decide +kernel
theorem dX3_product_14 : decode cX3_product 14 = .ok (.invokevirtual 106, 3) := by decide +kernel
theorem dX3_product_17 : decode cX3_product 17 = .ok (.areturn, 1) := by decide +kernel
theorem dX3_quotient_0 : decode cX3_quotient 0 = .ok (.aload_n 0, 1) := by decide +kernel
theorem dX3_quotient_1 : decode cX3_quotient 1 = .ok (.aload_n 1, 1) := by decide +kernel
theorem dX3_quotient_2 : decode cX3_quotient 2 = .ok (.aload_n 2, 1) := by decide +kernel
theorem dX3_quotient_3 : decode cX3_quotient 3 = .ok (.getfield 78, 3) := by decide +kernel
theorem dX3_quotient_6 : decode cX3_quotient 6 = .ok (.aload_n 2, 1) := by decide +kernel
theorem dX3_quotient_7 : decode cX3_quotient 7 = .ok (.getfield 83, 3) := by decide +kernel
theorem dX3_quotient_10 : decode cX3_quotient 10 = .ok (.aload_n 2, 1) := by decide +kernel
theorem dX3_quotient_11 : decode cX3_quotient 11 = .ok (.getfield 82, 3) := by decide +kernel
theorem dX3_quotient_14 : decode cX3_quotient 14 = .ok (.invokevirtual 106, 3) := by decide +kernel
theorem dX3_quotient_17 : decode cX3_quotient 17 = .ok (.areturn, 1) := by decide +kernel
theorem dX3_remainder_0 : decode cX3_remainder 0 = .ok (.aload_n 0, 1) := by decide +kernel
theorem dX3_remainder_1 : decode cX3_remainder 1 = .ok (.aload_n 1, 1) := by decide +kernel
theorem dX3_remainder_2 : decode cX3_remainder 2 = .ok (.aload_n 2, 1) := by decide +kernel
theorem dX3_remainder_3 : decode cX3_remainder 3 = .ok (.invokevirtual 84, 3) := by decide +kernel
theorem dX3_remainder_6 : decode cX3_remainder 6 = .ok (.aload_n 0, 1) := by decide +kernel
theorem dX3_remainder_7 : decode cX3_remainder 7 = .ok (.getfield 39, 3) := by decide +kernel
theorem dX3_remainder_10 : decode cX3_remainder 10 = .ok (.aload_n 0, 1) := by decide +kernel
theorem dX3_remainder_11 : decode cX3_remainder 11 = .ok (.getfield 42, 3) := by decide +kernel
theorem dX3_remainder_14 : decode cX3_remainder 14 = .ok (.aload_n 0, 1) := by decide +kernel
theorem dX3_remainder_15 : decode cX3_remainder 15 = .ok (.getfield 27, 3) := by decide +kernel
theorem dX3_remainder_18 : decode cX3_remainder 18 = .ok (.invokevirtual 110, 3) := by decide +kernel
theorem dX3_remainder_21 : decode cX3_remainder 21 = .ok (.aload_n 0, 1) := by decide +kernel
theorem dX3_remainder_22 : decode cX3_remainder 22 = .ok (.getfield 39, 3) := by decide +kernel
theorem dX3_remainder_25 : decode cX3_remainder 25 = .ok (.getfield 99, 3) := by decide +kernel
theorem dX3_remainder_28 : decode cX3_remainder 28 = .ok (.ifCond .ne 8, 3) := by decide +kernel
theorem dX3_remainder_31 : decode cX3_remainder 31 = .ok (.aload_n 0, 1) := by decide +kernel
theorem dX3_remainder_32 : decode cX3_remainder 32 = .ok (.getfield 63, 3) := by decide +kernel
theorem dX3_remainder_35 : decode cX3_remainder 35 = .ok (.areturn, 1) := by decide +kernel
theorem dX3_remainder_36 : decode cX3_remainder 36 = .ok (.aload_n 1, 1) := by decide +kernel
theorem dX3_remainder_37 : decode cX3_remainder 37 = .ok (.getfield 78, 3) := by decide +kernel
theorem dX3_remainder_40 : decode cX3_remainder 40 = .ok (.aload_n 2, 1) := by decide +kernel
theorem dX3_remainder_41 : decode cX3_remainder 41 = .ok (.getfield 78, 3) := by decide +kernel
theorem dX3_remainder_44 : decode cX3_remainder 44 = .ok (.if_icmp .eq 18, 3) := by decide +kernel
theorem dX3_remainder_47 : decode cX3_remainder 47 = .ok (.aload_n 0, 1) := by decide +kernel
theorem dX3_remainder_48 : decode cX3_remainder 48 = .ok (.getfield 39, 3) := by decide +kernel
theorem dX3_remainder_51 : decode cX3_remainder 51 = .ok (.aload_n 0, 1) := by decide +kernel
theorem dX3_remainder_52 : decode cX3_remainder 52 = .ok (.getfield 42, 3) := by decide +kernel
theorem dX3_remainder_55 : decode cX3_remainder 55 = .ok (.aload_n 0, 1) := by decide +kernel
theorem dX3_remainder_56 : decode cX3_remainder 56 = .ok (.getfield 39, 3) := by decide +kernel
theorem dX3_remainder_59 : decode cX3_remainder 59 = .ok (.invokevirtual 96, 3) := by decide +kernel
theorem dX3_remainder_62 : decode cX3_remainder 62 = .ok (.aload_n 0, 1) := by decide +kernel
theorem dX3_remainder_63 : decode cX3_remainder 63 = .ok (.aload_n 2, 1) := by decide +kernel
theorem dX3_remainder_64 : decode cX3_remainder 64 = .ok (.getfield 78, 3) := by decide +kernel
theorem dX3_remainder_67 : decode cX3_remainder 67 = .ok (.aload_n 0, 1) := by decide +kernel
theorem dX3_remainder_68 : decode cX3_remainder 68 = .ok (.getfield 39, 3) := by decide +kernel
theorem dX3_remainder_71 : decode cX3_remainder 71 = .ok (.aload_n 2, 1) := by decide +kernel
theorem dX3_remainder_72 : decode cX3_remainder 72 = .ok (.getfield 83, 3) := by decide +kernel
theorem dX3_remainder_75 : decode cX3_remainder 75 = .ok (.aload_n 2, 1) := by decide +kernel
theorem dX3_remainder_76 : decode cX3_remainder 76 = .ok (.getfield 83, 3) := by decide +kernel
theorem dX3_remainder_79 : decode cX3_remainder 79 = .ok (.invokevirtual 102, 3) := by decide +kernel
theorem dX3_remainder_82 : decode cX3_remainder 82 = .ok (.areturn, 1) := by decide +kernel
theorem dX3_commonMeasure_0 : decode cX3_commonMeasure 0 = .ok (.aload_n 0, 1) := by decide +kernel
theorem dX3_commonMeasure_1 : decode cX3_commonMeasure 1 = .ok (.getfield 12, 3) := by decide +kernel
theorem dX3_commonMeasure_4 : decode cX3_commonMeasure 4 = .ok (.aload_n 1, 1) := by decide +kernel
theorem dX3_commonMeasure_5 : decode cX3_commonMeasure 5 = .ok (.getfield 83, 3) := by decide +kernel
theorem dX3_commonMeasure_8 : decode cX3_commonMeasure 8 = .ok (.aload_n 2, 1) := by decide +kernel
theorem dX3_commonMeasure_9 : decode cX3_commonMeasure 9 = .ok (.getfield 83, 3) := by decide +kernel
theorem dX3_commonMeasure_12 : decode cX3_commonMeasure 12 = .ok (.aload_n 0, 1) := by decide +kernel
theorem dX3_commonMeasure_13 : decode cX3_commonMeasure 13 = .ok (.getfield 30, 3) := by decide +kernel
theorem dX3_commonMeasure_16 : decode cX3_commonMeasure 16 = .ok (.invokevirtual 67, 3) := by decide +kernel
theorem dX3_commonMeasure_19 : decode cX3_commonMeasure 19 = .ok (.aload_n 0, 1) := by decide +kernel
theorem dX3_commonMeasure_20 : decode cX3_commonMeasure 20 = .ok (.aload_n 1, 1) := by decide +kernel
theorem dX3_commonMeasure_21 : decode cX3_commonMeasure 21 = .ok (.getfield 83, 3) := by decide +kernel
theorem dX3_commonMeasure_24 : decode cX3_commonMeasure 24 = .ok (.aload_n 0, 1) := by decide +kernel
theorem dX3_commonMeasure_25 : decode cX3_commonMeasure 25 = .ok (.getfield 30, 3) := by decide +kernel
theorem dX3_commonMeasure_28 : decode cX3_commonMeasure 28 = .ok (.aload_n 0, 1) := by decide +kernel
theorem dX3_commonMeasure_29 : decode cX3_commonMeasure 29 = .ok (.getfield 33, 3) := by decide +kernel
theorem dX3_commonMeasure_32 : decode cX3_commonMeasure 32 = .ok (.invokevirtual 71, 3) := by decide +kernel
theorem dX3_commonMeasure_35 : decode cX3_commonMeasure 35 = .ok (.aload_n 0, 1) := by decide +kernel
theorem dX3_commonMeasure_36 : decode cX3_commonMeasure 36 = .ok (.getfield 48, 3) := by decide +kernel
theorem dX3_commonMeasure_39 : decode cX3_commonMeasure 39 = .ok (.aload_n 0, 1) := by decide +kernel
theorem dX3_commonMeasure_40 : decode cX3_commonMeasure 40 = .ok (.getfield 33, 3) := by decide +kernel
theorem dX3_commonMeasure_43 : decode cX3_commonMeasure 43 = .ok (.aload_n 2, 1) := by decide +kernel
theorem dX3_commonMeasure_44 : decode cX3_commonMeasure 44 = .ok (.getfield 83, 3) := by decide +kernel
theorem dX3_commonMeasure_47 : decode cX3_commonMeasure 47 = .ok (.invokevirtual 113, 3) := by decide +kernel
theorem dX3_commonMeasure_50 : decode cX3_commonMeasure 50 = .ok (.aload_n 0, 1) := by decide +kernel
theorem dX3_commonMeasure_51 : decode cX3_commonMeasure 51 = .ok (.getfield 12, 3) := by decide +kernel
theorem dX3_commonMeasure_54 : decode cX3_commonMeasure 54 = .ok (.aload_n 1, 1) := by decide +kernel
theorem dX3_commonMeasure_55 : decode cX3_commonMeasure 55 = .ok (.getfield 82, 3) := by decide +kernel
theorem dX3_commonMeasure_58 : decode cX3_commonMeasure 58 = .ok (.aload_n 2, 1) := by decide +kernel
theorem dX3_commonMeasure_59 : decode cX3_commonMeasure 59 = .ok (.getfield 82, 3) := by decide +kernel
theorem dX3_commonMeasure_62 : decode cX3_commonMeasure 62 = .ok (.aload_n 0, 1) := by decide +kernel
theorem dX3_commonMeasure_63 : decode cX3_commonMeasure 63 = .ok (.getfield 45, 3) := by decide +kernel
theorem dX3_commonMeasure_66 : decode cX3_commonMeasure 66 = .ok (.invokevirtual 67, 3) := by decide +kernel
theorem dX3_commonMeasure_69 : decode cX3_commonMeasure 69 = .ok (.aload_n 0, 1) := by decide +kernel
theorem dX3_commonMeasure_70 : decode cX3_commonMeasure 70 = .ok (.getfield 45, 3) := by decide +kernel
theorem dX3_commonMeasure_73 : decode cX3_commonMeasure 73 = .ok (.getfield 99, 3) := by decide +kernel
theorem dX3_commonMeasure_76 : decode cX3_commonMeasure 76 = .ok (.ifCond .ne 10, 3) := by decide +kernel
theorem dX3_commonMeasure_79 : decode cX3_commonMeasure 79 = .ok (.aload_n 0, 1) := by decide +kernel
theorem dX3_commonMeasure_80 : decode cX3_commonMeasure 80 = .ok (.getfield 63, 3) := by decide +kernel
theorem dX3_commonMeasure_83 : decode cX3_commonMeasure 83 = .ok (.goto 8, 3) := by decide +kernel
theorem dX3_commonMeasure_86 : decode cX3_commonMeasure 86 = .ok (.aload_n 0, 1) := by decide +kernel
theorem dX3_commonMeasure_87 : decode cX3_commonMeasure 87 = .ok (.iconst 1, 1) := by decide +kernel
theorem dX3_commonMeasure_88 : decode cX3_commonMeasure 88 = .ok (.invokevirtual 74, 3) := by decide +kernel
theorem dX3_commonMeasure_91 : decode cX3_commonMeasure 91 = .ok (.areturn, 1) := by decide +kernel
theorem dX3_rounded_0 : decode cX3_rounded 0 = .ok (.aload_n 0, 1) := by decide +kernel
theorem dX3_rounded_1 : decode cX3_rounded 1 = .ok (.getfield 39, 3) := by decide +kernel
theorem dX3_rounded_4 : decode cX3_rounded 4 = .ok (.aload_n 1, 1) := by decide +kernel
theorem dX3_rounded_5 : decode cX3_rounded 5 = .ok (.getfield 82, 3) := by decide +kernel
theorem dX3_rounded_8 : decode cX3_rounded 8 = .ok (.invokevirtual 116, 3) := by decide +kernel
theorem dX3_rounded_11 : decode cX3_rounded 11 = .ok (.aload_n 0, 1) := by decide +kernel
theorem dX3_rounded_12 : decode cX3_rounded 12 = .ok (.getfield 39, 3) := by decide +kernel
theorem dX3_rounded_15 : decode cX3_rounded 15 = .ok (.aload_n 1, 1) := by decide +kernel
theorem dX3_rounded_16 : decode cX3_rounded 16 = .ok (.getfield 83, 3) := by decide +kernel
theorem dX3_rounded_19 : decode cX3_rounded 19 = .ok (.aload_n 0, 1) := by decide +kernel
theorem dX3_rounded_20 : decode cX3_rounded 20 = .ok (.getfield 45, 3) := by decide +kernel
theorem dX3_rounded_23 : decode cX3_rounded 23 = .ok (.invokevirtual 110, 3) := by decide +kernel
theorem dX3_rounded_26 : decode cX3_rounded 26 = .ok (.aload_n 0, 1) := by decide +kernel
theorem dX3_rounded_27 : decode cX3_rounded 27 = .ok (.getfield 39, 3) := by decide +kernel
theorem dX3_rounded_30 : decode cX3_rounded 30 = .ok (.getfield 99, 3) := by decide +kernel
theorem dX3_rounded_33 : decode cX3_rounded 33 = .ok (.ifCond .ne 5, 3) := by decide +kernel
theorem dX3_rounded_36 : decode cX3_rounded 36 = .ok (.aload_n 1, 1) := by decide +kernel
theorem dX3_rounded_37 : decode cX3_rounded 37 = .ok (.areturn, 1) := by decide +kernel
theorem dX3_rounded_38 : decode cX3_rounded 38 = .ok (.aload_n 0, 1) := by decide +kernel
theorem dX3_rounded_39 : decode cX3_rounded 39 = .ok (.aload_n 1, 1) := by decide +kernel
theorem dX3_rounded_40 : decode cX3_rounded 40 = .ok (.iload_n 2, 1) := by decide +kernel
theorem dX3_rounded_41 : decode cX3_rounded 41 = .ok (.invokevirtual 120, 3) := by decide +kernel
theorem dX3_rounded_44 : decode cX3_rounded 44 = .ok (.ifCond .eq 10, 3) := by decide +kernel
theorem dX3_rounded_47 : decode cX3_rounded 47 = .ok (.aload_n 0, 1) := by decide +kernel
theorem dX3_rounded_48 : decode cX3_rounded 48 = .ok (.getfield 45, 3) := by decide +kernel
theorem dX3_rounded_51 : decode cX3_rounded 51 = .ok (.invokevirtual 124, 3) := by decide +kernel
theorem dX3_rounded_54 : decode cX3_rounded 54 = .ok (.aload_n 0, 1) := by decide +kernel
theorem dX3_rounded_55 : decode cX3_rounded 55 = .ok (.getfield 48, 3) := by decide +kernel
theorem dX3_rounded_58 : decode cX3_rounded 58 = .ok (.aload_n 0, 1) := by decide +kernel
theorem dX3_rounded_59 : decode cX3_rounded 59 = .ok (.getfield 51, 3) := by decide +kernel
theorem dX3_rounded_62 : decode cX3_rounded 62 = .ok (.invokevirtual 116, 3) := by decide +kernel
theorem dX3_rounded_65 : decode cX3_rounded 65 = .ok (.aload_n 0, 1) := by decide +kernel
theorem dX3_rounded_66 : decode cX3_rounded 66 = .ok (.getfield 45, 3) := by decide +kernel
theorem dX3_rounded_69 : decode cX3_rounded 69 = .ok (.getfield 99, 3) := by decide +kernel
theorem dX3_rounded_72 : decode cX3_rounded 72 = .ok (.ifCond .ne 10, 3) := by decide +kernel
theorem dX3_rounded_75 : decode cX3_rounded 75 = .ok (.aload_n 0, 1) := by decide +kernel
theorem dX3_rounded_76 : decode cX3_rounded 76 = .ok (.getfield 63, 3) := by decide +kernel
theorem dX3_rounded_79 : decode cX3_rounded 79 = .ok (.goto 11, 3) := by decide +kernel
theorem dX3_rounded_82 : decode cX3_rounded 82 = .ok (.aload_n 0, 1) := by decide +kernel
theorem dX3_rounded_83 : decode cX3_rounded 83 = .ok (.aload_n 1, 1) := by decide +kernel
theorem dX3_rounded_84 : decode cX3_rounded 84 = .ok (.getfield 78, 3) := by decide +kernel
theorem dX3_rounded_87 : decode cX3_rounded 87 = .ok (.invokevirtual 74, 3) := by decide +kernel
theorem dX3_rounded_90 : decode cX3_rounded 90 = .ok (.areturn, 1) := by decide +kernel
theorem dX3_isAwayFromZero_0 : decode cX3_isAwayFromZero 0 = .ok (.iload_n 2, 1) := by decide +kernel
theorem dX3_isAwayFromZero_1 : decode cX3_isAwayFromZero 1 = .ok (.iconst 2, 1) := by decide +kernel
theorem dX3_isAwayFromZero_2 : decode cX3_isAwayFromZero 2 = .ok (.if_icmp .ne 54, 3) := by decide +kernel
theorem dX3_isAwayFromZero_5 : decode cX3_isAwayFromZero 5 = .ok (.aload_n 0, 1) := by decide +kernel
theorem dX3_isAwayFromZero_6 : decode cX3_isAwayFromZero 6 = .ok (.getfield 42, 3) := by decide +kernel
theorem dX3_isAwayFromZero_9 : decode cX3_isAwayFromZero 9 = .ok (.aload_n 1, 1) := by decide +kernel
theorem dX3_isAwayFromZero_10 : decode cX3_isAwayFromZero 10 = .ok (.getfield 83, 3) := by decide +kernel
theorem dX3_isAwayFromZero_13 : decode cX3_isAwayFromZero 13 = .ok (.aload_n 0, 1) := by decide +kernel
theorem dX3_isAwayFromZero_14 : decode cX3_isAwayFromZero 14 = .ok (.getfield 39, 3) := by decide +kernel
theorem dX3_isAwayFromZero_17 : decode cX3_isAwayFromZero 17 = .ok (.invokevirtual 96, 3) := by decide +kernel
theorem dX3_isAwayFromZero_20 : decode cX3_isAwayFromZero 20 = .ok (.aload_n 0, 1) := by decide +kernel
theorem dX3_isAwayFromZero_21 : decode cX3_isAwayFromZero 21 = .ok (.getfield 39, 3) := by decide +kernel
theorem dX3_isAwayFromZero_24 : decode cX3_isAwayFromZero 24 = .ok (.aload_n 0, 1) := by decide +kernel
theorem dX3_isAwayFromZero_25 : decode cX3_isAwayFromZero 25 = .ok (.getfield 42, 3) := by decide +kernel
theorem dX3_isAwayFromZero_28 : decode cX3_isAwayFromZero 28 = .ok (.invokevirtual 92, 3) := by decide +kernel
theorem dX3_isAwayFromZero_31 : decode cX3_isAwayFromZero 31 = .ok (.istore_n 3, 1) := by decide +kernel
theorem dX3_isAwayFromZero_32 : decode cX3_isAwayFromZero 32 = .ok (.iload_n 3, 1) := by decide +kernel
theorem dX3_isAwayFromZero_33 : decode cX3_isAwayFromZero 33 = .ok (.ifCond .gt 17, 3) := by decide +kernel
theorem dX3_isAwayFromZero_36 : decode cX3_isAwayFromZero 36 = .ok (.iload_n 3, 1) := by decide +kernel
theorem dX3_isAwayFromZero_37 : decode cX3_isAwayFromZero 37 = .ok (.ifCond .ne 17, 3) := by decide +kernel
theorem dX3_isAwayFromZero_40 : decode cX3_isAwayFromZero 40 = .ok (.aload_n 0, 1) := by decide +kernel
theorem dX3_isAwayFromZero_41 : decode cX3_isAwayFromZero 41 = .ok (.getfield 45, 3) := by decide +kernel
theorem dX3_isAwayFromZero_44 : decode cX3_isAwayFromZero 44 = .ok (.invokevirtual 127, 3) := by decide +kernel
theorem dX3_isAwayFromZero_47 : decode cX3_isAwayFromZero 47 = .ok (.ifCond .eq 7, 3) := by decide +kernel
theorem dX3_isAwayFromZero_50 : decode cX3_isAwayFromZero 50 = .ok (.iconst 1, 1) := by decide +kernel
theorem dX3_isAwayFromZero_51 : decode cX3_isAwayFromZero 51 = .ok (.goto 4, 3) := by decide +kernel
theorem dX3_isAwayFromZero_54 : decode cX3_isAwayFromZero 54 = .ok (.iconst 0, 1) := by decide +kernel
theorem dX3_isAwayFromZero_55 : decode cX3_isAwayFromZero 55 = .ok (.ireturn, 1) := by decide +kernel
theorem dX3_isAwayFromZero_56 : decode cX3_isAwayFromZero 56 = .ok (.iload_n 2, 1) := by decide +kernel
theorem dX3_isAwayFromZero_57 : decode cX3_isAwayFromZero 57 = .ok (.ifCond .ne 10, 3) := by decide +kernel
theorem dX3_isAwayFromZero_60 : decode cX3_isAwayFromZero 60 = .ok (.aload_n 1, 1) := by decide +kernel
theorem dX3_isAwayFromZero_61 : decode cX3_isAwayFromZero 61 = .ok (.getfield 78, 3) := by decide +kernel
theorem dX3_isAwayFromZero_64 : decode cX3_isAwayFromZero 64 = .ok (.ifCond .lt 15, 3) := by decide +kernel
theorem dX3_isAwayFromZero_67 : decode cX3_isAwayFromZero 67 = .ok (.iload_n 2, 1) := by decide +kernel
theorem dX3_isAwayFromZero_68 : decode cX3_isAwayFromZero 68 = .ok (.iconst 1, 1) := by decide +kernel
theorem dX3_isAwayFromZero_69 : decode cX3_isAwayFromZero 69 = .ok (.if_icmp .ne 14, 3) := by decide +kernel
theorem dX3_isAwayFromZero_72 : decode cX3_isAwayFromZero 72 = .ok (.aload_n 1, 1) := by decide +kernel
theorem dX3_isAwayFromZero_73 : decode cX3_isAwayFromZero 73 = .ok (.getfield 78, 3) := by decide +kernel
theorem dX3_isAwayFromZero_76 : decode cX3_isAwayFromZero 76 = .ok (.ifCond .le 7, 3) := by decide +kernel
theorem dX3_isAwayFromZero_79 : decode cX3_isAwayFromZero 79 = .ok (.iconst 1, 1) := by decide +kernel
theorem dX3_isAwayFromZero_80 : decode cX3_isAwayFromZero 80 = .ok (.goto 4, 3) := by decide +kernel
theorem dX3_isAwayFromZero_83 : decode cX3_isAwayFromZero 83 = .ok (.iconst 0, 1) := by decide +kernel
theorem dX3_isAwayFromZero_84 : decode cX3_isAwayFromZero 84 = .ok (.ireturn, 1) := by decide +kernel
theorem dX3_multipleBeside_0 : decode cX3_multipleBeside 0 = .ok (.aload_n 0, 1) := by decide +kernel
theorem dX3_multipleBeside_1 : decode cX3_multipleBeside 1 = .ok (.getfield 39, 3) := by decide +kernel
theorem dX3_multipleBeside_4 : decode cX3_multipleBeside 4 = .ok (.aload_n 1, 1) := by decide +kernel
theorem dX3_multipleBeside_5 : decode cX3_multipleBeside 5 = .ok (.getfield 82, 3) := by decide +kernel
theorem dX3_multipleBeside_8 : decode cX3_multipleBeside 8 = .ok (.invokevirtual 116, 3) := by decide +kernel
theorem dX3_multipleBeside_11 : decode cX3_multipleBeside 11 = .ok (.iconst 0, 1) := by decide +kernel
theorem dX3_multipleBeside_12 : decode cX3_multipleBeside 12 = .ok (.istore 4, 2) := by decide +kernel
theorem dX3_multipleBeside_14 : decode cX3_multipleBeside 14 = .ok (.iload 4, 2) := by decide +kernel
theorem dX3_multipleBeside_16 : decode cX3_multipleBeside 16 = .ok (.iload_n 2, 1) := by decide +kernel
theorem dX3_multipleBeside_17 : decode cX3_multipleBeside 17 = .ok (.if_icmp .ge 18, 3) := by decide +kernel
theorem dX3_multipleBeside_20 : decode cX3_multipleBeside 20 = .ok (.aload_n 0, 1) := by decide +kernel
theorem dX3_multipleBeside_21 : decode cX3_multipleBeside 21 = .ok (.getfield 39, 3) := by decide +kernel
theorem dX3_multipleBeside_24 : decode cX3_multipleBeside 24 = .ok (.bipush 10, 2) := by decide +kernel
theorem dX3_multipleBeside_26 : decode cX3_multipleBeside 26 = .ok (.invokevirtual 131, 3) := by decide +kernel
theorem dX3_multipleBeside_29 : decode cX3_multipleBeside 29 = .ok (.iinc 4 1, 3) := by decide +kernel
theorem dX3_multipleBeside_32 : decode cX3_multipleBeside 32 = .ok (.goto (-18), 3) := by decide +kernel
theorem dX3_multipleBeside_35 : decode cX3_multipleBeside 35 = .ok (.aload_n 0, 1) := by decide +kernel
theorem dX3_multipleBeside_36 : decode cX3_multipleBeside 36 = .ok (.getfield 39, 3) := by decide +kernel
theorem dX3_multipleBeside_39 : decode cX3_multipleBeside 39 = .ok (.aload_n 1, 1) := by decide +kernel
theorem dX3_multipleBeside_40 : decode cX3_multipleBeside 40 = .ok (.getfield 83, 3) := by decide +kernel
theorem dX3_multipleBeside_43 : decode cX3_multipleBeside 43 = .ok (.aload_n 0, 1) := by decide +kernel
theorem dX3_multipleBeside_44 : decode cX3_multipleBeside 44 = .ok (.getfield 45, 3) := by decide +kernel
theorem dX3_multipleBeside_47 : decode cX3_multipleBeside 47 = .ok (.invokevirtual 110, 3) := by decide +kernel
theorem dX3_multipleBeside_50 : decode cX3_multipleBeside 50 = .ok (.aload_n 0, 1) := by decide +kernel
theorem dX3_multipleBeside_51 : decode cX3_multipleBeside 51 = .ok (.getfield 39, 3) := by decide +kernel
theorem dX3_multipleBeside_54 : decode cX3_multipleBeside 54 = .ok (.getfield 99, 3) := by decide +kernel
theorem dX3_multipleBeside_57 : decode cX3_multipleBeside 57 = .ok (.ifCond .le 35, 3) := by decide +kernel
theorem dX3_multipleBeside_60 : decode cX3_multipleBeside 60 = .ok (.iload_n 3, 1) := by decide +kernel
theorem dX3_multipleBeside_61 : decode cX3_multipleBeside 61 = .ok (.iconst 1, 1) := by decide +kernel
theorem dX3_multipleBeside_62 : decode cX3_multipleBeside 62 = .ok (.if_icmp .ne 7, 3) := by decide +kernel
theorem dX3_multipleBeside_65 : decode cX3_multipleBeside 65 = .ok (.iconst 1, 1) := by decide +kernel
theorem dX3_multipleBeside_66 : decode cX3_multipleBeside 66 = .ok (.goto 4, 3) := by decide +kernel
theorem dX3_multipleBeside_69 : decode cX3_multipleBeside 69 = .ok (.iconst 0, 1) := by decide +kernel
theorem dX3_multipleBeside_70 : decode cX3_multipleBeside 70 = .ok (.aload_n 1, 1) := by decide +kernel
theorem dX3_multipleBeside_71 : decode cX3_multipleBeside 71 = .ok (.getfield 78, 3) := by decide +kernel
theorem dX3_multipleBeside_74 : decode cX3_multipleBeside 74 = .ok (.ifCond .le 7, 3) := by decide +kernel
theorem dX3_multipleBeside_77 : decode cX3_multipleBeside 77 = .ok (.iconst 1, 1) := by decide +kernel
theorem dX3_multipleBeside_78 : decode cX3_multipleBeside 78 = .ok (.goto 4, 3) := by decide +kernel
theorem dX3_multipleBeside_81 : decode cX3_multipleBeside 81 = .ok (.iconst 0, 1) := by decide +kernel
theorem dX3_multipleBeside_82 : decode cX3_multipleBeside 82 = .ok (.if_icmp .ne 10, 3) := by decide +kernel
theorem dX3_multipleBeside_85 : decode cX3_multipleBeside 85 = .ok (.aload_n 0, 1) := by decide +kernel
theorem dX3_multipleBeside_86 : decode cX3_multipleBeside 86 = .ok (.getfield 45, 3) := by decide +kernel
theorem dX3_multipleBeside_89 : decode cX3_multipleBeside 89 = .ok (.invokevirtual 124, 3) := by decide +kernel
theorem dX3_multipleBeside_92 : decode cX3_multipleBeside 92 = .ok (.aload_n 0, 1) := by decide +kernel
theorem dX3_multipleBeside_93 : decode cX3_multipleBeside 93 = .ok (.getfield 45, 3) := by decide +kernel
theorem dX3_multipleBeside_96 : decode cX3_multipleBeside 96 = .ok (.areturn, 1) := by decide +kernel
theorem dX3_compare_0 : decode cX3_compare 0 = .ok (.aload_n 1, 1) := by decide +kernel
theorem dX3_compare_1 : decode cX3_compare 1 = .ok (.getfield 78, 3) := by decide +kernel
theorem dX3_compare_4 : decode cX3_compare 4 = .ok (.aload_n 2, 1) := by decide +kernel
theorem dX3_compare_5 : decode cX3_compare 5 = .ok (.getfield 78, 3) := by decide +kernel
theorem dX3_compare_8 : decode cX3_compare 8 = .ok (.if_icmp .eq 20, 3) := by decide +kernel
theorem dX3_compare_11 : decode cX3_compare 11 = .ok (.aload_n 1, 1) := by decide +kernel
theorem dX3_compare_12 : decode cX3_compare 12 = .ok (.getfield 78, 3) := by decide +kernel
theorem dX3_compare_15 : decode cX3_compare 15 = .ok (.aload_n 2, 1) := by decide +kernel
theorem dX3_compare_16 : decode cX3_compare 16 = .ok (.getfield 78, 3) := by decide +kernel
theorem dX3_compare_19 : decode cX3_compare 19 = .ok (.if_icmp .ge 7, 3) := by decide +kernel
theorem dX3_compare_22 : decode cX3_compare 22 = .ok (.iconst (-1), 1) := by decide +kernel
theorem dX3_compare_23 : decode cX3_compare 23 = .ok (.goto 4, 3) := by decide +kernel
theorem dX3_compare_26 : decode cX3_compare 26 = .ok (.iconst 1, 1) := by decide +kernel
theorem dX3_compare_27 : decode cX3_compare 27 = .ok (.ireturn, 1) := by decide +kernel
theorem dX3_compare_28 : decode cX3_compare 28 = .ok (.aload_n 0, 1) := by decide +kernel
theorem dX3_compare_29 : decode cX3_compare 29 = .ok (.getfield 39, 3) := by decide +kernel
theorem dX3_compare_32 : decode cX3_compare 32 = .ok (.aload_n 1, 1) := by decide +kernel
theorem dX3_compare_33 : decode cX3_compare 33 = .ok (.getfield 82, 3) := by decide +kernel
theorem dX3_compare_36 : decode cX3_compare 36 = .ok (.aload_n 2, 1) := by decide +kernel
theorem dX3_compare_37 : decode cX3_compare 37 = .ok (.getfield 83, 3) := by decide +kernel
theorem dX3_compare_40 : decode cX3_compare 40 = .ok (.invokevirtual 113, 3) := by decide +kernel
theorem dX3_compare_43 : decode cX3_compare 43 = .ok (.aload_n 0, 1) := by decide +kernel
theorem dX3_compare_44 : decode cX3_compare 44 = .ok (.getfield 42, 3) := by decide +kernel
theorem dX3_compare_47 : decode cX3_compare 47 = .ok (.aload_n 2, 1) := by decide +kernel
theorem dX3_compare_48 : decode cX3_compare 48 = .ok (.getfield 82, 3) := by decide +kernel
theorem dX3_compare_51 : decode cX3_compare 51 = .ok (.aload_n 1, 1) := by decide +kernel
theorem dX3_compare_52 : decode cX3_compare 52 = .ok (.getfield 83, 3) := by decide +kernel
theorem dX3_compare_55 : decode cX3_compare 55 = .ok (.invokevirtual 113, 3) := by decide +kernel
theorem dX3_compare_58 : decode cX3_compare 58 = .ok (.aload_n 1, 1) := by decide +kernel
theorem dX3_compare_59 : decode cX3_compare 59 = .ok (.getfield 78, 3) := by decide +kernel
theorem dX3_compare_62 : decode cX3_compare 62 = .ok (.aload_n 0, 1) := by decide +kernel
theorem dX3_compare_63 : decode cX3_compare 63 = .ok (.getfield 39, 3) := by decide +kernel
theorem dX3_compare_66 : decode cX3_compare 66 = .ok (.aload_n 0, 1) := by decide +kernel
theorem dX3_compare_67 : decode cX3_compare 67 = .ok (.getfield 42, 3) := by decide +kernel
theorem dX3_compare_70 : decode cX3_compare 70 = .ok (.invokevirtual 92, 3) := by decide +kernel
theorem dX3_compare_73 : decode cX3_compare 73 = .ok (.imul, 1) := by decide +kernel
theorem dX3_compare_74 : decode cX3_compare 74 = .ok (.ireturn, 1) := by decide +kernel
theorem dX3_isSameRatio_0 : decode cX3_isSameRatio 0 = .ok (.aload_n 1, 1) := by decide +kernel
theorem dX3_isSameRatio_1 : decode cX3_isSameRatio 1 = .ok (.getfield 78, 3) := by decide +kernel
theorem dX3_isSameRatio_4 : decode cX3_isSameRatio 4 = .ok (.aload 4, 2) := by decide +kernel
theorem dX3_isSameRatio_6 : decode cX3_isSameRatio 6 = .ok (.getfield 78, 3) := by decide +kernel
theorem dX3_isSameRatio_9 : decode cX3_isSameRatio 9 = .ok (.imul, 1) := by decide +kernel
theorem dX3_isSameRatio_10 : decode cX3_isSameRatio 10 = .ok (.aload_n 3, 1) := by decide +kernel
theorem dX3_isSameRatio_11 : decode cX3_isSameRatio 11 = .ok (.getfield 78, 3) := by decide +kernel
theorem dX3_isSameRatio_14 : decode cX3_isSameRatio 14 = .ok (.aload_n 2, 1) := by decide +kernel
theorem dX3_isSameRatio_15 : decode cX3_isSameRatio 15 = .ok (.getfield 78, 3) := by decide +kernel
theorem dX3_isSameRatio_18 : decode cX3_isSameRatio 18 = .ok (.imul, 1) := by decide +kernel
theorem dX3_isSameRatio_19 : decode cX3_isSameRatio 19 = .ok (.if_icmp .eq 5, 3) := by decide +kernel
theorem dX3_isSameRatio_22 : decode cX3_isSameRatio 22 = .ok (.iconst 0, 1) := by decide +kernel
theorem dX3_isSameRatio_23 : decode cX3_isSameRatio 23 = .ok (.ireturn, 1) := by decide +kernel
theorem dX3_isSameRatio_24 : decode cX3_isSameRatio 24 = .ok (.aload_n 0, 1) := by decide +kernel
theorem dX3_isSameRatio_25 : decode cX3_isSameRatio 25 = .ok (.getfield 39, 3) := by decide +kernel
theorem dX3_isSameRatio_28 : decode cX3_isSameRatio 28 = .ok (.aload_n 1, 1) := by decide +kernel
theorem dX3_isSameRatio_29 : decode cX3_isSameRatio 29 = .ok (.getfield 82, 3) := by decide +kernel
theorem dX3_isSameRatio_32 : decode cX3_isSameRatio 32 = .ok (.aload 4, 2) := by decide +kernel
theorem dX3_isSameRatio_34 : decode cX3_isSameRatio 34 = .ok (.getfield 82, 3) := by decide +kernel
theorem dX3_isSameRatio_37 : decode cX3_isSameRatio 37 = .ok (.invokevirtual 113, 3) := by decide +kernel
theorem dX3_isSameRatio_40 : decode cX3_isSameRatio 40 = .ok (.aload_n 0, 1) := by decide +kernel
theorem dX3_isSameRatio_41 : decode cX3_isSameRatio 41 = .ok (.getfield 42, 3) := by decide +kernel
theorem dX3_isSameRatio_44 : decode cX3_isSameRatio 44 = .ok (.aload_n 3, 1) := by decide +kernel
theorem dX3_isSameRatio_45 : decode cX3_isSameRatio 45 = .ok (.getfield 83, 3) := by decide +kernel
theorem dX3_isSameRatio_48 : decode cX3_isSameRatio 48 = .ok (.aload_n 2, 1) := by decide +kernel
theorem dX3_isSameRatio_49 : decode cX3_isSameRatio 49 = .ok (.getfield 83, 3) := by decide +kernel
theorem dX3_isSameRatio_52 : decode cX3_isSameRatio 52 = .ok (.invokevirtual 113, 3) := by decide +kernel
theorem dX3_isSameRatio_55 : decode cX3_isSameRatio 55 = .ok (.aload_n 0, 1) := by decide +kernel
theorem dX3_isSameRatio_56 : decode cX3_isSameRatio 56 = .ok (.getfield 45, 3) := by decide +kernel
theorem dX3_isSameRatio_59 : decode cX3_isSameRatio 59 = .ok (.aload_n 0, 1) := by decide +kernel
theorem dX3_isSameRatio_60 : decode cX3_isSameRatio 60 = .ok (.getfield 39, 3) := by decide +kernel
theorem dX3_isSameRatio_63 : decode cX3_isSameRatio 63 = .ok (.aload_n 0, 1) := by decide +kernel
theorem dX3_isSameRatio_64 : decode cX3_isSameRatio 64 = .ok (.getfield 42, 3) := by decide +kernel
theorem dX3_isSameRatio_67 : decode cX3_isSameRatio 67 = .ok (.invokevirtual 113, 3) := by decide +kernel
theorem dX3_isSameRatio_70 : decode cX3_isSameRatio 70 = .ok (.aload_n 0, 1) := by decide +kernel
theorem dX3_isSameRatio_71 : decode cX3_isSameRatio 71 = .ok (.getfield 39, 3) := by decide +kernel
theorem dX3_isSameRatio_74 : decode cX3_isSameRatio 74 = .ok (.aload_n 3, 1) := by decide +kernel
theorem dX3_isSameRatio_75 : decode cX3_isSameRatio 75 = .ok (.getfield 82, 3) := by decide +kernel
theorem dX3_isSameRatio_78 : decode cX3_isSameRatio 78 = .ok (.aload_n 2, 1) := by decide +kernel
theorem dX3_isSameRatio_79 : decode cX3_isSameRatio 79 = .ok (.getfield 82, 3) := by decide +kernel
theorem dX3_isSameRatio_82 : decode cX3_isSameRatio 82 = .ok (.invokevirtual 113, 3) := by decide +kernel
theorem dX3_isSameRatio_85 : decode cX3_isSameRatio 85 = .ok (.aload_n 0, 1) := by decide +kernel
theorem dX3_isSameRatio_86 : decode cX3_isSameRatio 86 = .ok (.getfield 42, 3) := by decide +kernel
theorem dX3_isSameRatio_89 : decode cX3_isSameRatio 89 = .ok (.aload_n 1, 1) := by decide +kernel
theorem dX3_isSameRatio_90 : decode cX3_isSameRatio 90 = .ok (.getfield 83, 3) := by decide +kernel
theorem dX3_isSameRatio_93 : decode cX3_isSameRatio 93 = .ok (.aload 4, 2) := by decide +kernel
theorem dX3_isSameRatio_95 : decode cX3_isSameRatio 95 = .ok (.getfield 83, 3) := by decide +kernel
theorem dX3_isSameRatio_98 : decode cX3_isSameRatio 98 = .ok (.invokevirtual 113, 3) := by decide +kernel
theorem dX3_isSameRatio_101 : decode cX3_isSameRatio 101 = .ok (.aload_n 0, 1) := by decide +kernel
theorem dX3_isSameRatio_102 : decode cX3_isSameRatio 102 = .ok (.getfield 48, 3) := by decide +kernel
theorem dX3_isSameRatio_105 : decode cX3_isSameRatio 105 = .ok (.aload_n 0, 1) := by decide +kernel
theorem dX3_isSameRatio_106 : decode cX3_isSameRatio 106 = .ok (.getfield 39, 3) := by decide +kernel
theorem dX3_isSameRatio_109 : decode cX3_isSameRatio 109 = .ok (.aload_n 0, 1) := by decide +kernel
theorem dX3_isSameRatio_110 : decode cX3_isSameRatio 110 = .ok (.getfield 42, 3) := by decide +kernel
theorem dX3_isSameRatio_113 : decode cX3_isSameRatio 113 = .ok (.invokevirtual 113, 3) := by decide +kernel
theorem dX3_isSameRatio_116 : decode cX3_isSameRatio 116 = .ok (.aload_n 0, 1) := by decide +kernel
theorem dX3_isSameRatio_117 : decode cX3_isSameRatio 117 = .ok (.getfield 45, 3) := by decide +kernel
theorem dX3_isSameRatio_120 : decode cX3_isSameRatio 120 = .ok (.aload_n 0, 1) := by decide +kernel
theorem dX3_isSameRatio_121 : decode cX3_isSameRatio 121 = .ok (.getfield 48, 3) := by decide +kernel
theorem dX3_isSameRatio_124 : decode cX3_isSameRatio 124 = .ok (.invokevirtual 92, 3) := by decide +kernel
theorem dX3_isSameRatio_127 : decode cX3_isSameRatio 127 = .ok (.ifCond .ne 7, 3) := by decide +kernel
theorem dX3_isSameRatio_130 : decode cX3_isSameRatio 130 = .ok (.iconst 1, 1) := by decide +kernel
theorem dX3_isSameRatio_131 : decode cX3_isSameRatio 131 = .ok (.goto 4, 3) := by decide +kernel
theorem dX3_isSameRatio_134 : decode cX3_isSameRatio 134 = .ok (.iconst 0, 1) := by decide +kernel
theorem dX3_isSameRatio_135 : decode cX3_isSameRatio 135 = .ok (.ireturn, 1) := by decide +kernel
theorem dX3_bringTogether_0 : decode cX3_bringTogether 0 = .ok (.aload_n 0, 1) := by decide +kernel
theorem dX3_bringTogether_1 : decode cX3_bringTogether 1 = .ok (.getfield 12, 3) := by decide +kernel
theorem dX3_bringTogether_4 : decode cX3_bringTogether 4 = .ok (.aload_n 1, 1) := by decide +kernel
theorem dX3_bringTogether_5 : decode cX3_bringTogether 5 = .ok (.getfield 83, 3) := by decide +kernel
theorem dX3_bringTogether_8 : decode cX3_bringTogether 8 = .ok (.aload_n 2, 1) := by decide +kernel
theorem dX3_bringTogether_9 : decode cX3_bringTogether 9 = .ok (.getfield 83, 3) := by decide +kernel
theorem dX3_bringTogether_12 : decode cX3_bringTogether 12 = .ok (.aload_n 0, 1) := by decide +kernel
theorem dX3_bringTogether_13 : decode cX3_bringTogether 13 = .ok (.getfield 30, 3) := by decide +kernel
theorem dX3_bringTogether_16 : decode cX3_bringTogether 16 = .ok (.invokevirtual 67, 3) := by decide +kernel
theorem dX3_bringTogether_19 : decode cX3_bringTogether 19 = .ok (.aload_n 0, 1) := by decide +kernel
theorem dX3_bringTogether_20 : decode cX3_bringTogether 20 = .ok (.aload_n 1, 1) := by decide +kernel
theorem dX3_bringTogether_21 : decode cX3_bringTogether 21 = .ok (.getfield 83, 3) := by decide +kernel
theorem dX3_bringTogether_24 : decode cX3_bringTogether 24 = .ok (.aload_n 0, 1) := by decide +kernel
theorem dX3_bringTogether_25 : decode cX3_bringTogether 25 = .ok (.getfield 30, 3) := by decide +kernel
theorem dX3_bringTogether_28 : decode cX3_bringTogether 28 = .ok (.aload_n 0, 1) := by decide +kernel
theorem dX3_bringTogether_29 : decode cX3_bringTogether 29 = .ok (.getfield 33, 3) := by decide +kernel
theorem dX3_bringTogether_32 : decode cX3_bringTogether 32 = .ok (.invokevirtual 71, 3) := by decide +kernel
theorem dX3_bringTogether_35 : decode cX3_bringTogether 35 = .ok (.aload_n 0, 1) := by decide +kernel
theorem dX3_bringTogether_36 : decode cX3_bringTogether 36 = .ok (.aload_n 2, 1) := by decide +kernel
theorem dX3_bringTogether_37 : decode cX3_bringTogether 37 = .ok (.getfield 83, 3) := by decide +kernel
theorem dX3_bringTogether_40 : decode cX3_bringTogether 40 = .ok (.aload_n 0, 1) := by decide +kernel
theorem dX3_bringTogether_41 : decode cX3_bringTogether 41 = .ok (.getfield 30, 3) := by decide +kernel
theorem dX3_bringTogether_44 : decode cX3_bringTogether 44 = .ok (.aload_n 0, 1) := by decide +kernel
theorem dX3_bringTogether_45 : decode cX3_bringTogether 45 = .ok (.getfield 36, 3) := by decide +kernel
theorem dX3_bringTogether_48 : decode cX3_bringTogether 48 = .ok (.invokevirtual 71, 3) := by decide +kernel
theorem dX3_bringTogether_51 : decode cX3_bringTogether 51 = .ok (.aload_n 0, 1) := by decide +kernel
theorem dX3_bringTogether_52 : decode cX3_bringTogether 52 = .ok (.getfield 39, 3) := by decide +kernel
theorem dX3_bringTogether_55 : decode cX3_bringTogether 55 = .ok (.aload_n 1, 1) := by decide +kernel
theorem dX3_bringTogether_56 : decode cX3_bringTogether 56 = .ok (.getfield 82, 3) := by decide +kernel
theorem dX3_bringTogether_59 : decode cX3_bringTogether 59 = .ok (.aload_n 0, 1) := by decide +kernel
theorem dX3_bringTogether_60 : decode cX3_bringTogether 60 = .ok (.getfield 36, 3) := by decide +kernel
theorem dX3_bringTogether_63 : decode cX3_bringTogether 63 = .ok (.invokevirtual 113, 3) := by decide +kernel
theorem dX3_bringTogether_66 : decode cX3_bringTogether 66 = .ok (.aload_n 0, 1) := by decide +kernel
theorem dX3_bringTogether_67 : decode cX3_bringTogether 67 = .ok (.getfield 42, 3) := by decide +kernel
theorem dX3_bringTogether_70 : decode cX3_bringTogether 70 = .ok (.aload_n 2, 1) := by decide +kernel
theorem dX3_bringTogether_71 : decode cX3_bringTogether 71 = .ok (.getfield 82, 3) := by decide +kernel
theorem dX3_bringTogether_74 : decode cX3_bringTogether 74 = .ok (.aload_n 0, 1) := by decide +kernel
theorem dX3_bringTogether_75 : decode cX3_bringTogether 75 = .ok (.getfield 33, 3) := by decide +kernel
theorem dX3_bringTogether_78 : decode cX3_bringTogether 78 = .ok (.invokevirtual 113, 3) := by decide +kernel
theorem dX3_bringTogether_81 : decode cX3_bringTogether 81 = .ok (.return_, 1) := by decide +kernel
theorem dX3_overBoth_0 : decode cX3_overBoth 0 = .ok (.aload_n 0, 1) := by decide +kernel
theorem dX3_overBoth_1 : decode cX3_overBoth 1 = .ok (.getfield 12, 3) := by decide +kernel
theorem dX3_overBoth_4 : decode cX3_overBoth 4 = .ok (.aload_n 2, 1) := by decide +kernel
theorem dX3_overBoth_5 : decode cX3_overBoth 5 = .ok (.aload_n 3, 1) := by decide +kernel
theorem dX3_overBoth_6 : decode cX3_overBoth 6 = .ok (.aload_n 0, 1) := by decide +kernel
theorem dX3_overBoth_7 : decode cX3_overBoth 7 = .ok (.getfield 36, 3) := by decide +kernel
theorem dX3_overBoth_10 : decode cX3_overBoth 10 = .ok (.invokevirtual 67, 3) := by decide +kernel
theorem dX3_overBoth_13 : decode cX3_overBoth 13 = .ok (.aload_n 0, 1) := by decide +kernel
theorem dX3_overBoth_14 : decode cX3_overBoth 14 = .ok (.aload_n 2, 1) := by decide +kernel
theorem dX3_overBoth_15 : decode cX3_overBoth 15 = .ok (.aload_n 0, 1) := by decide +kernel
theorem dX3_overBoth_16 : decode cX3_overBoth 16 = .ok (.getfield 36, 3) := by decide +kernel
theorem dX3_overBoth_19 : decode cX3_overBoth 19 = .ok (.aload_n 0, 1) := by decide +kernel
theorem dX3_overBoth_20 : decode cX3_overBoth 20 = .ok (.getfield 45, 3) := by decide +kernel
theorem dX3_overBoth_23 : decode cX3_overBoth 23 = .ok (.invokevirtual 71, 3) := by decide +kernel
theorem dX3_overBoth_26 : decode cX3_overBoth 26 = .ok (.aload_n 0, 1) := by decide +kernel
theorem dX3_overBoth_27 : decode cX3_overBoth 27 = .ok (.aload 4, 2) := by decide +kernel
theorem dX3_overBoth_29 : decode cX3_overBoth 29 = .ok (.aload_n 0, 1) := by decide +kernel
theorem dX3_overBoth_30 : decode cX3_overBoth 30 = .ok (.getfield 36, 3) := by decide +kernel
theorem dX3_overBoth_33 : decode cX3_overBoth 33 = .ok (.aload_n 0, 1) := by decide +kernel
theorem dX3_overBoth_34 : decode cX3_overBoth 34 = .ok (.getfield 42, 3) := by decide +kernel
theorem dX3_overBoth_37 : decode cX3_overBoth 37 = .ok (.invokevirtual 71, 3) := by decide +kernel
theorem dX3_overBoth_40 : decode cX3_overBoth 40 = .ok (.aload_n 0, 1) := by decide +kernel
theorem dX3_overBoth_41 : decode cX3_overBoth 41 = .ok (.getfield 48, 3) := by decide +kernel
theorem dX3_overBoth_44 : decode cX3_overBoth 44 = .ok (.aload_n 0, 1) := by decide +kernel
theorem dX3_overBoth_45 : decode cX3_overBoth 45 = .ok (.getfield 33, 3) := by decide +kernel
theorem dX3_overBoth_48 : decode cX3_overBoth 48 = .ok (.aload_n 0, 1) := by decide +kernel
theorem dX3_overBoth_49 : decode cX3_overBoth 49 = .ok (.getfield 42, 3) := by decide +kernel
theorem dX3_overBoth_52 : decode cX3_overBoth 52 = .ok (.invokevirtual 113, 3) := by decide +kernel
theorem dX3_overBoth_55 : decode cX3_overBoth 55 = .ok (.aload_n 0, 1) := by decide +kernel
theorem dX3_overBoth_56 : decode cX3_overBoth 56 = .ok (.iload_n 1, 1) := by decide +kernel
theorem dX3_overBoth_57 : decode cX3_overBoth 57 = .ok (.invokevirtual 74, 3) := by decide +kernel
theorem dX3_overBoth_60 : decode cX3_overBoth 60 = .ok (.areturn, 1) := by decide +kernel
theorem dX3_productBy_0 : decode cX3_productBy 0 = .ok (.aload_n 1, 1) := by decide +kernel
theorem dX3_productBy_1 : decode cX3_productBy 1 = .ok (.getfield 78, 3) := by decide +kernel
theorem dX3_productBy_4 : decode cX3_productBy 4 = .ok (.ifCond .eq 7, 3) := by decide +kernel
theorem dX3_productBy_7 : decode cX3_productBy 7 = .ok (.iload_n 2, 1) := by decide +kernel
theorem dX3_productBy_8 : decode cX3_productBy 8 = .ok (.ifCond .ne 8, 3) := by decide +kernel
theorem dX3_productBy_11 : decode cX3_productBy 11 = .ok (.aload_n 0, 1) := by decide +kernel
theorem dX3_productBy_12 : decode cX3_productBy 12 = .ok (.getfield 63, 3) := by decide +kernel
theorem dX3_productBy_15 : decode cX3_productBy 15 = .ok (.areturn, 1) := by decide +kernel
theorem dX3_productBy_16 : decode cX3_productBy 16 = .ok (.aload_n 0, 1) := by decide +kernel
theorem dX3_productBy_17 : decode cX3_productBy 17 = .ok (.getfield 12, 3) := by decide +kernel
theorem dX3_productBy_20 : decode cX3_productBy 20 = .ok (.aload_n 1, 1) := by decide +kernel
theorem dX3_productBy_21 : decode cX3_productBy 21 = .ok (.getfield 82, 3) := by decide +kernel
theorem dX3_productBy_24 : decode cX3_productBy 24 = .ok (.aload 4, 2) := by decide +kernel
theorem dX3_productBy_26 : decode cX3_productBy 26 = .ok (.aload_n 0, 1) := by decide +kernel
theorem dX3_productBy_27 : decode cX3_productBy 27 = .ok (.getfield 30, 3) := by decide +kernel
theorem dX3_productBy_30 : decode cX3_productBy 30 = .ok (.invokevirtual 67, 3) := by decide +kernel
theorem dX3_productBy_33 : decode cX3_productBy 33 = .ok (.aload_n 0, 1) := by decide +kernel
theorem dX3_productBy_34 : decode cX3_productBy 34 = .ok (.aload_n 1, 1) := by decide +kernel
theorem dX3_productBy_35 : decode cX3_productBy 35 = .ok (.getfield 82, 3) := by decide +kernel
theorem dX3_productBy_38 : decode cX3_productBy 38 = .ok (.aload_n 0, 1) := by decide +kernel
theorem dX3_productBy_39 : decode cX3_productBy 39 = .ok (.getfield 30, 3) := by decide +kernel
theorem dX3_productBy_42 : decode cX3_productBy 42 = .ok (.aload_n 0, 1) := by decide +kernel
theorem dX3_productBy_43 : decode cX3_productBy 43 = .ok (.getfield 33, 3) := by decide +kernel
theorem dX3_productBy_46 : decode cX3_productBy 46 = .ok (.invokevirtual 71, 3) := by decide +kernel
theorem dX3_productBy_49 : decode cX3_productBy 49 = .ok (.aload_n 0, 1) := by decide +kernel
theorem dX3_productBy_50 : decode cX3_productBy 50 = .ok (.aload 4, 2) := by decide +kernel
theorem dX3_productBy_52 : decode cX3_productBy 52 = .ok (.aload_n 0, 1) := by decide +kernel
theorem dX3_productBy_53 : decode cX3_productBy 53 = .ok (.getfield 30, 3) := by decide +kernel
theorem dX3_productBy_56 : decode cX3_productBy 56 = .ok (.aload_n 0, 1) := by decide +kernel
theorem dX3_productBy_57 : decode cX3_productBy 57 = .ok (.getfield 39, 3) := by decide +kernel
theorem dX3_productBy_60 : decode cX3_productBy 60 = .ok (.invokevirtual 71, 3) := by decide +kernel
theorem dX3_productBy_63 : decode cX3_productBy 63 = .ok (.aload_n 0, 1) := by decide +kernel
theorem dX3_productBy_64 : decode cX3_productBy 64 = .ok (.getfield 12, 3) := by decide +kernel
theorem dX3_productBy_67 : decode cX3_productBy 67 = .ok (.aload_n 3, 1) := by decide +kernel
theorem dX3_productBy_68 : decode cX3_productBy 68 = .ok (.aload_n 1, 1) := by decide +kernel
theorem dX3_productBy_69 : decode cX3_productBy 69 = .ok (.getfield 83, 3) := by decide +kernel
theorem dX3_productBy_72 : decode cX3_productBy 72 = .ok (.aload_n 0, 1) := by decide +kernel
theorem dX3_productBy_73 : decode cX3_productBy 73 = .ok (.getfield 30, 3) := by decide +kernel
theorem dX3_productBy_76 : decode cX3_productBy 76 = .ok (.invokevirtual 67, 3) := by decide +kernel
theorem dX3_productBy_79 : decode cX3_productBy 79 = .ok (.aload_n 0, 1) := by decide +kernel
theorem dX3_productBy_80 : decode cX3_productBy 80 = .ok (.aload_n 3, 1) := by decide +kernel
theorem dX3_productBy_81 : decode cX3_productBy 81 = .ok (.aload_n 0, 1) := by decide +kernel
theorem dX3_productBy_82 : decode cX3_productBy 82 = .ok (.getfield 30, 3) := by decide +kernel
theorem dX3_productBy_85 : decode cX3_productBy 85 = .ok (.aload_n 0, 1) := by decide +kernel
theorem dX3_productBy_86 : decode cX3_productBy 86 = .ok (.getfield 36, 3) := by decide +kernel
theorem dX3_productBy_89 : decode cX3_productBy 89 = .ok (.invokevirtual 71, 3) := by decide +kernel
theorem dX3_productBy_92 : decode cX3_productBy 92 = .ok (.aload_n 0, 1) := by decide +kernel
theorem dX3_productBy_93 : decode cX3_productBy 93 = .ok (.aload_n 1, 1) := by decide +kernel
theorem dX3_productBy_94 : decode cX3_productBy 94 = .ok (.getfield 83, 3) := by decide +kernel
theorem dX3_productBy_97 : decode cX3_productBy 97 = .ok (.aload_n 0, 1) := by decide +kernel
theorem dX3_productBy_98 : decode cX3_productBy 98 = .ok (.getfield 30, 3) := by decide +kernel
theorem dX3_productBy_101 : decode cX3_productBy 101 = .ok (.aload_n 0, 1) := by decide +kernel
theorem dX3_productBy_102 : decode cX3_productBy 102 = .ok (.getfield 42, 3) := by decide +kernel
theorem dX3_productBy_105 : decode cX3_productBy 105 = .ok (.invokevirtual 71, 3) := by decide +kernel
theorem dX3_productBy_108 : decode cX3_productBy 108 = .ok (.aload_n 0, 1) := by decide +kernel
theorem dX3_productBy_109 : decode cX3_productBy 109 = .ok (.getfield 45, 3) := by decide +kernel
theorem dX3_productBy_112 : decode cX3_productBy 112 = .ok (.aload_n 0, 1) := by decide +kernel
theorem dX3_productBy_113 : decode cX3_productBy 113 = .ok (.getfield 33, 3) := by decide +kernel
theorem dX3_productBy_116 : decode cX3_productBy 116 = .ok (.aload_n 0, 1) := by decide +kernel
theorem dX3_productBy_117 : decode cX3_productBy 117 = .ok (.getfield 36, 3) := by decide +kernel
theorem dX3_productBy_120 : decode cX3_productBy 120 = .ok (.invokevirtual 113, 3) := by decide +kernel
theorem dX3_productBy_123 : decode cX3_productBy 123 = .ok (.aload_n 0, 1) := by decide +kernel
theorem dX3_productBy_124 : decode cX3_productBy 124 = .ok (.getfield 48, 3) := by decide +kernel
theorem dX3_productBy_127 : decode cX3_productBy 127 = .ok (.aload_n 0, 1) := by decide +kernel
theorem dX3_productBy_128 : decode cX3_productBy 128 = .ok (.getfield 39, 3) := by decide +kernel
theorem dX3_productBy_131 : decode cX3_productBy 131 = .ok (.aload_n 0, 1) := by decide +kernel
theorem dX3_productBy_132 : decode cX3_productBy 132 = .ok (.getfield 42, 3) := by decide +kernel
theorem dX3_productBy_135 : decode cX3_productBy 135 = .ok (.invokevirtual 113, 3) := by decide +kernel
theorem dX3_productBy_138 : decode cX3_productBy 138 = .ok (.aload_n 0, 1) := by decide +kernel
theorem dX3_productBy_139 : decode cX3_productBy 139 = .ok (.aload_n 1, 1) := by decide +kernel
theorem dX3_productBy_140 : decode cX3_productBy 140 = .ok (.getfield 78, 3) := by decide +kernel
theorem dX3_productBy_143 : decode cX3_productBy 143 = .ok (.iload_n 2, 1) := by decide +kernel
theorem dX3_productBy_144 : decode cX3_productBy 144 = .ok (.imul, 1) := by decide +kernel
theorem dX3_productBy_145 : decode cX3_productBy 145 = .ok (.invokevirtual 74, 3) := by decide +kernel
theorem dX3_productBy_148 : decode cX3_productBy 148 = .ok (.areturn, 1) := by decide +kernel
theorem dX3_made_0 : decode cX3_made 0 = .ok (.aload_n 0, 1) := by decide +kernel
theorem dX3_made_1 : decode cX3_made 1 = .ok (.getfield 45, 3) := by decide +kernel
theorem dX3_made_4 : decode cX3_made 4 = .ok (.invokevirtual 134, 3) := by decide +kernel
theorem dX3_made_7 : decode cX3_made 7 = .ok (.sipush 512, 3) := by decide +kernel
theorem dX3_made_10 : decode cX3_made 10 = .ok (.if_icmp .gt 16, 3) := by decide +kernel
theorem dX3_made_13 : decode cX3_made 13 = .ok (.aload_n 0, 1) := by decide +kernel
theorem dX3_made_14 : decode cX3_made 14 = .ok (.getfield 48, 3) := by decide +kernel
theorem dX3_made_17 : decode cX3_made 17 = .ok (.invokevirtual 134, 3) := by decide +kernel
theorem dX3_made_20 : decode cX3_made 20 = .ok (.sipush 512, 3) := by decide +kernel
theorem dX3_made_23 : decode cX3_made 23 = .ok (.if_icmp .le 5, 3) := by decide +kernel
theorem dX3_made_26 : decode cX3_made 26 = .ok (.aconst_null, 1) := by decide +kernel
theorem dX3_made_27 : decode cX3_made 27 = .ok (.areturn, 1) := by decide +kernel
theorem dX3_made_28 : decode cX3_made 28 = .ok (.new 58, 3) := by decide +kernel
theorem dX3_made_31 : decode cX3_made 31 = .ok (.dup, 1) := by decide +kernel
theorem dX3_made_32 : decode cX3_made 32 = .ok (.iload_n 1, 1) := by decide +kernel
theorem dX3_made_33 : decode cX3_made 33 = .ok (.aload_n 0, 1) := by decide +kernel
theorem dX3_made_34 : decode cX3_made 34 = .ok (.getfield 45, 3) := by decide +kernel
theorem dX3_made_37 : decode cX3_made 37 = .ok (.invokevirtual 138, 3) := by decide +kernel
theorem dX3_made_40 : decode cX3_made 40 = .ok (.aload_n 0, 1) := by decide +kernel
theorem dX3_made_41 : decode cX3_made 41 = .ok (.getfield 48, 3) := by decide +kernel
theorem dX3_made_44 : decode cX3_made 44 = .ok (.invokevirtual 138, 3) := by decide +kernel
theorem dX3_made_47 : decode cX3_made 47 = .ok (.invokespecial 60, 3) := by decide +kernel
theorem dX3_made_50 : decode cX3_made 50 = .ok (.areturn, 1) := by decide +kernel
theorem dX3_divideOut_0 : decode cX3_divideOut 0 = .ok (.aload_n 2, 1) := by decide +kernel
theorem dX3_divideOut_1 : decode cX3_divideOut 1 = .ok (.invokevirtual 142, 3) := by decide +kernel
theorem dX3_divideOut_4 : decode cX3_divideOut 4 = .ok (.ifCond .eq 9, 3) := by decide +kernel
theorem dX3_divideOut_7 : decode cX3_divideOut 7 = .ok (.aload_n 3, 1) := by decide +kernel
theorem dX3_divideOut_8 : decode cX3_divideOut 8 = .ok (.aload_n 1, 1) := by decide +kernel
theorem dX3_divideOut_9 : decode cX3_divideOut 9 = .ok (.invokevirtual 116, 3) := by decide +kernel
theorem dX3_divideOut_12 : decode cX3_divideOut 12 = .ok (.return_, 1) := by decide +kernel
theorem dX3_divideOut_13 : decode cX3_divideOut 13 = .ok (.aload_n 0, 1) := by decide +kernel
theorem dX3_divideOut_14 : decode cX3_divideOut 14 = .ok (.getfield 23, 3) := by decide +kernel
theorem dX3_divideOut_17 : decode cX3_divideOut 17 = .ok (.aload_n 1, 1) := by decide +kernel
theorem dX3_divideOut_18 : decode cX3_divideOut 18 = .ok (.invokevirtual 116, 3) := by decide +kernel
theorem dX3_divideOut_21 : decode cX3_divideOut 21 = .ok (.aload_n 0, 1) := by decide +kernel
theorem dX3_divideOut_22 : decode cX3_divideOut 22 = .ok (.getfield 23, 3) := by decide +kernel
theorem dX3_divideOut_25 : decode cX3_divideOut 25 = .ok (.aload_n 2, 1) := by decide +kernel
theorem dX3_divideOut_26 : decode cX3_divideOut 26 = .ok (.aload_n 3, 1) := by decide +kernel
theorem dX3_divideOut_27 : decode cX3_divideOut 27 = .ok (.invokevirtual 110, 3) := by decide +kernel
theorem dX3_divideOut_30 : decode cX3_divideOut 30 = .ok (.return_, 1) := by decide +kernel
theorem dX4_init_0 : decode cX4_init 0 = .ok (.aload_n 0, 1) := by decide +kernel
theorem dX4_init_1 : decode cX4_init 1 = .ok (.invokespecial 3, 3) := by decide +kernel
theorem dX4_init_4 : decode cX4_init 4 = .ok (.aload_n 0, 1) := by decide +kernel
theorem dX4_init_5 : decode cX4_init 5 = .ok (.iload_n 1, 1) := by decide +kernel
theorem dX4_init_6 : decode cX4_init 6 = .ok (.iconst 0, 1) := by decide +kernel
theorem dX4_init_7 : decode cX4_init 7 = .ok (.invokestatic 9, 3) := by decide +kernel
theorem dX4_init_10 : decode cX4_init 10 = .ok (.anewarray 15, 3) := by decide +kernel
theorem dX4_init_13 : decode cX4_init 13 = .ok (.putfield 17, 3) := by decide +kernel
theorem dX4_init_16 : decode cX4_init 16 = .ok (.iconst 0, 1) := by decide +kernel
theorem dX4_init_17 : decode cX4_init 17 = .ok (.istore_n 3, 1) := by decide +kernel
theorem dX4_init_18 : decode cX4_init 18 = .ok (.iload_n 3, 1) := by decide +kernel
theorem dX4_init_19 : decode cX4_init 19 = .ok (.aload_n 0, 1) := by decide +kernel
theorem dX4_init_20 : decode cX4_init 20 = .ok (.getfield 17, 3) := by decide +kernel
theorem dX4_init_23 : decode cX4_init 23 = .ok (.arraylength, 1) := by decide +kernel
theorem dX4_init_24 : decode cX4_init 24 = .ok (.if_icmp .ge 16, 3) := by decide +kernel
theorem dX4_init_27 : decode cX4_init 27 = .ok (.aload_n 0, 1) := by decide +kernel
theorem dX4_init_28 : decode cX4_init 28 = .ok (.getfield 17, 3) := by decide +kernel
theorem dX4_init_31 : decode cX4_init 31 = .ok (.iload_n 3, 1) := by decide +kernel
theorem dX4_init_32 : decode cX4_init 32 = .ok (.aload_n 2, 1) := by decide +kernel
theorem dX4_init_33 : decode cX4_init 33 = .ok (.aastore, 1) := by decide +kernel
theorem dX4_init_34 : decode cX4_init 34 = .ok (.iinc 3 1, 3) := by decide +kernel
theorem dX4_init_37 : decode cX4_init 37 = .ok (.goto (-19), 3) := by decide +kernel
theorem dX4_init_40 : decode cX4_init 40 = .ok (.return_, 1) := by decide +kernel
theorem dX4_firstNotZero_0 : decode cX4_firstNotZero 0 = .ok (.iconst 0, 1) := by decide +kernel
theorem dX4_firstNotZero_1 : decode cX4_firstNotZero 1 = .ok (.istore_n 1, 1) := by decide +kernel
theorem dX4_firstNotZero_2 : decode cX4_firstNotZero 2 = .ok (.iload_n 1, 1) := by decide +kernel
theorem dX4_firstNotZero_3 : decode cX4_firstNotZero 3 = .ok (.aload_n 0, 1) := by decide +kernel
theorem dX4_firstNotZero_4 : decode cX4_firstNotZero 4 = .ok (.getfield 17, 3) := by decide +kernel
theorem dX4_firstNotZero_7 : decode cX4_firstNotZero 7 = .ok (.arraylength, 1) := by decide +kernel
theorem dX4_firstNotZero_8 : decode cX4_firstNotZero 8 = .ok (.if_icmp .ge 23, 3) := by decide +kernel
theorem dX4_firstNotZero_11 : decode cX4_firstNotZero 11 = .ok (.aload_n 0, 1) := by decide +kernel
theorem dX4_firstNotZero_12 : decode cX4_firstNotZero 12 = .ok (.getfield 17, 3) := by decide +kernel
theorem dX4_firstNotZero_15 : decode cX4_firstNotZero 15 = .ok (.iload_n 1, 1) := by decide +kernel
theorem dX4_firstNotZero_16 : decode cX4_firstNotZero 16 = .ok (.aaload, 1) := by decide +kernel
theorem dX4_firstNotZero_17 : decode cX4_firstNotZero 17 = .ok (.getfield 23, 3) := by decide +kernel
theorem dX4_firstNotZero_20 : decode cX4_firstNotZero 20 = .ok (.ifCond .eq 5, 3) := by decide +kernel
theorem dX4_firstNotZero_23 : decode cX4_firstNotZero 23 = .ok (.iload_n 1, 1) := by decide +kernel
theorem dX4_firstNotZero_24 : decode cX4_firstNotZero 24 = .ok (.ireturn, 1) := by decide +kernel
theorem dX4_firstNotZero_25 : decode cX4_firstNotZero 25 = .ok (.iinc 1 1, 3) := by decide +kernel
theorem dX4_firstNotZero_28 : decode cX4_firstNotZero 28 = .ok (.goto (-26), 3) := by decide +kernel
theorem dX4_firstNotZero_31 : decode cX4_firstNotZero 31 = .ok (.iconst (-1), 1) := by decide +kernel
theorem dX4_firstNotZero_32 : decode cX4_firstNotZero 32 = .ok (.ireturn, 1) := by decide +kernel
theorem dX5_init_0 : decode cX5_init 0 = .ok (.aload_n 0, 1) := by decide +kernel
theorem dX5_init_1 : decode cX5_init 1 = .ok (.invokespecial 3, 3) := by decide +kernel
theorem dX5_init_4 : decode cX5_init 4 = .ok (.aload_n 0, 1) := by decide +kernel
theorem dX5_init_5 : decode cX5_init 5 = .ok (.iload_n 1, 1) := by decide +kernel
theorem dX5_init_6 : decode cX5_init 6 = .ok (.iconst 0, 1) := by decide +kernel
theorem dX5_init_7 : decode cX5_init 7 = .ok (.invokestatic 9, 3) := by decide +kernel
theorem dX5_init_10 : decode cX5_init 10 = .ok (.newarray .int, 2) := by decide +kernel
theorem dX5_init_12 : decode cX5_init 12 = .ok (.putfield 15, 3) := by decide +kernel
theorem dX5_init_15 : decode cX5_init 15 = .ok (.return_, 1) := by decide +kernel
theorem dX5_setLong_0 : decode cX5_setLong 0 = .ok (.aload_n 0, 1) := by decide +kernel
theorem dX5_setLong_1 : decode cX5_setLong 1 = .ok (.getfield 15, 3) := by decide +kernel
theorem dX5_setLong_4 : decode cX5_setLong 4 = .ok (.iconst 0, 1) := by decide +kernel
theorem dX5_setLong_5 : decode cX5_setLong 5 = .ok (.lload_n 1, 1) := by decide +kernel
theorem dX5_setLong_6 : decode cX5_setLong 6 = .ok (.l2i, 1) := by decide +kernel
theorem dX5_setLong_7 : decode cX5_setLong 7 = .ok (.ldc 21, 2) := by decide +kernel
theorem dX5_setLong_9 : decode cX5_setLong 9 = .ok (.iand, 1) := by decide +kernel
theorem dX5_setLong_10 : decode cX5_setLong 10 = .ok (.iastore, 1) := by decide +kernel
theorem dX5_setLong_11 : decode cX5_setLong 11 = .ok (.aload_n 0, 1) := by decide +kernel
theorem dX5_setLong_12 : decode cX5_setLong 12 = .ok (.getfield 15, 3) := by decide +kernel
theorem dX5_setLong_15 : decode cX5_setLong 15 = .ok (.iconst 1, 1) := by decide +kernel
theorem dX5_setLong_16 : decode cX5_setLong 16 = .ok (.lload_n 1, 1) := by decide +kernel
theorem dX5_setLong_17 : decode cX5_setLong 17 = .ok (.bipush 31, 2) := by decide +kernel
theorem dX5_setLong_19 : decode cX5_setLong 19 = .ok (.lushr, 1) := by decide +kernel
theorem dX5_setLong_20 : decode cX5_setLong 20 = .ok (.l2i, 1) := by decide +kernel
theorem dX5_setLong_21 : decode cX5_setLong 21 = .ok (.ldc 21, 2) := by decide +kernel
theorem dX5_setLong_23 : decode cX5_setLong 23 = .ok (.iand, 1) := by decide +kernel
theorem dX5_setLong_24 : decode cX5_setLong 24 = .ok (.iastore, 1) := by decide +kernel
theorem dX5_setLong_25 : decode cX5_setLong 25 = .ok (.aload_n 0, 1) := by decide +kernel
theorem dX5_setLong_26 : decode cX5_setLong 26 = .ok (.getfield 15, 3) := by decide +kernel
theorem dX5_setLong_29 : decode cX5_setLong 29 = .ok (.iconst 2, 1) := by decide +kernel
theorem dX5_setLong_30 : decode cX5_setLong 30 = .ok (.lload_n 1, 1) := by decide +kernel
theorem dX5_setLong_31 : decode cX5_setLong 31 = .ok (.bipush 62, 2) := by decide +kernel
theorem dX5_setLong_33 : decode cX5_setLong 33 = .ok (.lushr, 1) := by decide +kernel
theorem dX5_setLong_34 : decode cX5_setLong 34 = .ok (.l2i, 1) := by decide +kernel
theorem dX5_setLong_35 : decode cX5_setLong 35 = .ok (.iastore, 1) := by decide +kernel
theorem dX5_setLong_36 : decode cX5_setLong 36 = .ok (.aload_n 0, 1) := by decide +kernel
theorem dX5_setLong_37 : decode cX5_setLong 37 = .ok (.iconst 3, 1) := by decide +kernel
theorem dX5_setLong_38 : decode cX5_setLong 38 = .ok (.putfield 22, 3) := by decide +kernel
theorem dX5_setLong_41 : decode cX5_setLong 41 = .ok (.aload_n 0, 1) := by decide +kernel
theorem dX5_setLong_42 : decode cX5_setLong 42 = .ok (.invokevirtual 26, 3) := by decide +kernel
theorem dX5_setLong_45 : decode cX5_setLong 45 = .ok (.return_, 1) := by decide +kernel
theorem dX5_copy_0 : decode cX5_copy 0 = .ok (.aload_n 1, 1) := by decide +kernel
theorem dX5_copy_1 : decode cX5_copy 1 = .ok (.getfield 15, 3) := by decide +kernel
theorem dX5_copy_4 : decode cX5_copy 4 = .ok (.iconst 0, 1) := by decide +kernel
theorem dX5_copy_5 : decode cX5_copy 5 = .ok (.aload_n 0, 1) := by decide +kernel
theorem dX5_copy_6 : decode cX5_copy 6 = .ok (.getfield 15, 3) := by decide +kernel
theorem dX5_copy_9 : decode cX5_copy 9 = .ok (.iconst 0, 1) := by decide +kernel
theorem dX5_copy_10 : decode cX5_copy 10 = .ok (.aload_n 1, 1) := by decide +kernel
theorem dX5_copy_11 : decode cX5_copy 11 = .ok (.getfield 22, 3) := by decide +kernel
theorem dX5_copy_14 : decode cX5_copy 14 = .ok (.invokestatic 29, 3) := by decide +kernel
theorem dX5_copy_17 : decode cX5_copy 17 = .ok (.aload_n 0, 1) := by decide +kernel
theorem dX5_copy_18 : decode cX5_copy 18 = .ok (.aload_n 1, 1) := by decide +kernel
theorem dX5_copy_19 : decode cX5_copy 19 = .ok (.getfield 22, 3) := by decide +kernel
theorem dX5_copy_22 : decode cX5_copy 22 = .ok (.putfield 22, 3) := by decide +kernel
theorem dX5_copy_25 : decode cX5_copy 25 = .ok (.return_, 1) := by decide +kernel
theorem dX5_kept_0 : decode cX5_kept 0 = .ok (.new 16, 3) := by decide +kernel
theorem dX5_kept_3 : decode cX5_kept 3 = .ok (.dup, 1) := by decide +kernel
theorem dX5_kept_4 : decode cX5_kept 4 = .ok (.aload_n 0, 1) := by decide +kernel
theorem dX5_kept_5 : decode cX5_kept 5 = .ok (.getfield 22, 3) := by decide +kernel
theorem dX5_kept_8 : decode cX5_kept 8 = .ok (.invokespecial 35, 3) := by decide +kernel
theorem dX5_kept_11 : decode cX5_kept 11 = .ok (.astore_n 1, 1) := by decide +kernel
theorem dX5_kept_12 : decode cX5_kept 12 = .ok (.aload_n 1, 1) := by decide +kernel
theorem dX5_kept_13 : decode cX5_kept 13 = .ok (.aload_n 0, 1) := by decide +kernel
theorem dX5_kept_14 : decode cX5_kept 14 = .ok (.invokevirtual 38, 3) := by decide +kernel
theorem dX5_kept_17 : decode cX5_kept 17 = .ok (.aload_n 1, 1) := by decide +kernel
theorem dX5_kept_18 : decode cX5_kept 18 = .ok (.areturn, 1) := by decide +kernel
theorem dX5_trim_0 : decode cX5_trim 0 = .ok (.aload_n 0, 1) := by decide +kernel
theorem dX5_trim_1 : decode cX5_trim 1 = .ok (.getfield 22, 3) := by decide +kernel
theorem dX5_trim_4 : decode cX5_trim 4 = .ok (.ifCond .le 30, 3) := by decide +kernel
theorem dX5_trim_7 : decode cX5_trim 7 = .ok (.aload_n 0, 1) := by decide +kernel
theorem dX5_trim_8 : decode cX5_trim 8 = .ok (.getfield 15, 3) := by decide +kernel
theorem dX5_trim_11 : decode cX5_trim 11 = .ok (.aload_n 0, 1) := by decide +kernel
theorem dX5_trim_12 : decode cX5_trim 12 = .ok (.getfield 22, 3) := by decide +kernel
theorem dX5_trim_15 : decode cX5_trim 15 = .ok (.iconst 1, 1) := by decide +kernel
theorem dX5_trim_16 : decode cX5_trim 16 = .ok (.isub, 1) := by decide +kernel
theorem dX5_trim_17 : decode cX5_trim 17 = .ok (.iaload, 1) := by decide +kernel
theorem dX5_trim_18 : decode cX5_trim 18 = .ok (.ifCond .ne 16, 3) := by decide +kernel
theorem dX5_trim_21 : decode cX5_trim 21 = .ok (.aload_n 0, 1) := by decide +kernel
theorem dX5_trim_22 : decode cX5_trim 22 = .ok (.dup, 1) := by decide +kernel
theorem dX5_trim_23 : decode cX5_trim 23 = .ok (.getfield 22, 3) := by decide +kernel
theorem dX5_trim_26 : decode cX5_trim 26 = .ok (.iconst 1, 1) := by decide +kernel
theorem dX5_trim_27 : decode cX5_trim 27 = .ok (.isub, 1) := by decide +kernel
theorem dX5_trim_28 : decode cX5_trim 28 = .ok (.putfield 22, 3) := by decide +kernel
theorem dX5_trim_31 : decode cX5_trim 31 = .ok (.goto (-31), 3) := by decide +kernel
theorem dX5_trim_34 : decode cX5_trim 34 = .ok (.return_, 1) := by decide +kernel
theorem dX5_limbOrZero_0 : decode cX5_limbOrZero 0 = .ok (.iload_n 1, 1) := by decide +kernel
theorem dX5_limbOrZero_1 : decode cX5_limbOrZero 1 = .ok (.ifCond .lt 21, 3) := by decide +kernel
theorem dX5_limbOrZero_4 : decode cX5_limbOrZero 4 = .ok (.iload_n 1, 1) := by decide +kernel
theorem dX5_limbOrZero_5 : decode cX5_limbOrZero 5 = .ok (.aload_n 0, 1) := by decide +kernel
theorem dX5_limbOrZero_6 : decode cX5_limbOrZero 6 = .ok (.getfield 22, 3) := by decide +kernel
theorem dX5_limbOrZero_9 : decode cX5_limbOrZero 9 = .ok (.if_icmp .ge 13, 3) := by decide +kernel
theorem dX5_limbOrZero_12 : decode cX5_limbOrZero 12 = .ok (.aload_n 0, 1) := by decide +kernel
theorem dX5_limbOrZero_13 : decode cX5_limbOrZero 13 = .ok (.getfield 15, 3) := by decide +kernel
theorem dX5_limbOrZero_16 : decode cX5_limbOrZero 16 = .ok (.iload_n 1, 1) := by decide +kernel
theorem dX5_limbOrZero_17 : decode cX5_limbOrZero 17 = .ok (.iaload, 1) := by decide +kernel
theorem dX5_limbOrZero_18 : decode cX5_limbOrZero 18 = .ok (.i2l, 1) := by decide +kernel
theorem dX5_limbOrZero_19 : decode cX5_limbOrZero 19 = .ok (.goto 4, 3) := by decide +kernel
theorem dX5_limbOrZero_22 : decode cX5_limbOrZero 22 = .ok (.lconst 0, 1) := by decide +kernel
theorem dX5_limbOrZero_23 : decode cX5_limbOrZero 23 = .ok (.lreturn, 1) := by decide +kernel
theorem dX5_isOne_0 : decode cX5_isOne 0 = .ok (.aload_n 0, 1) := by decide +kernel
theorem dX5_isOne_1 : decode cX5_isOne 1 = .ok (.getfield 22, 3) := by decide +kernel
theorem dX5_isOne_4 : decode cX5_isOne 4 = .ok (.iconst 1, 1) := by decide +kernel
theorem dX5_isOne_5 : decode cX5_isOne 5 = .ok (.if_icmp .ne 17, 3) := by decide +kernel
theorem dX5_isOne_8 : decode cX5_isOne 8 = .ok (.aload_n 0, 1) := by decide +kernel
theorem dX5_isOne_9 : decode cX5_isOne 9 = .ok (.getfield 15, 3) := by decide +kernel
theorem dX5_isOne_12 : decode cX5_isOne 12 = .ok (.iconst 0, 1) := by decide +kernel
theorem dX5_isOne_13 : decode cX5_isOne 13 = .ok (.iaload, 1) := by decide +kernel
theorem dX5_isOne_14 : decode cX5_isOne 14 = .ok (.iconst 1, 1) := by decide +kernel
theorem dX5_isOne_15 : decode cX5_isOne 15 = .ok (.if_icmp .ne 7, 3) := by decide +kernel
theorem dX5_isOne_18 : decode cX5_isOne 18 = .ok (.iconst 1, 1) := by decide +kernel
theorem dX5_isOne_19 : decode cX5_isOne 19 = .ok (.goto 4, 3) := by decide +kernel
theorem dX5_isOne_22 : decode cX5_isOne 22 = .ok (.iconst 0, 1) := by decide +kernel
theorem dX5_isOne_23 : decode cX5_isOne 23 = .ok (.ireturn, 1) := by decide +kernel
theorem dX5_isOdd_0 : decode cX5_isOdd 0 = .ok (.aload_n 0, 1) := by decide +kernel
theorem dX5_isOdd_1 : decode cX5_isOdd 1 = .ok (.iconst 0, 1) := by decide +kernel
theorem dX5_isOdd_2 : decode cX5_isOdd 2 = .ok (.invokevirtual 42, 3) := by decide +kernel
theorem dX5_isOdd_5 : decode cX5_isOdd 5 = .ok (.lconst 1, 1) := by decide +kernel
theorem dX5_isOdd_6 : decode cX5_isOdd 6 = .ok (.land, 1) := by decide +kernel
theorem dX5_isOdd_7 : decode cX5_isOdd 7 = .ok (.lconst 1, 1) := by decide +kernel
theorem dX5_isOdd_8 : decode cX5_isOdd 8 = .ok (.lcmp, 1) := by decide +kernel
theorem dX5_isOdd_9 : decode cX5_isOdd 9 = .ok (.ifCond .ne 7, 3) := by decide +kernel
theorem dX5_isOdd_12 : decode cX5_isOdd 12 = .ok (.iconst 1, 1) := by decide +kernel
theorem dX5_isOdd_13 : decode cX5_isOdd 13 = .ok (.goto 4, 3) := by decide +kernel
theorem dX5_isOdd_16 : decode cX5_isOdd 16 = .ok (.iconst 0, 1) := by decide +kernel
theorem dX5_isOdd_17 : decode cX5_isOdd 17 = .ok (.ireturn, 1) := by decide +kernel
theorem dX5_length_0 : decode cX5_length 0 = .ok (.aload_n 0, 1) := by decide +kernel
theorem dX5_length_1 : decode cX5_length 1 = .ok (.getfield 22, 3) := by decide +kernel
theorem dX5_length_4 : decode cX5_length 4 = .ok (.ifCond .ne 7, 3) := by decide +kernel
theorem dX5_length_7 : decode cX5_length 7 = .ok (.iconst 0, 1) := by decide +kernel
theorem dX5_length_8 : decode cX5_length 8 = .ok (.goto 27, 3) := by decide +kernel
theorem dX5_length_11 : decode cX5_length 11 = .ok (.bipush 31, 2) := by decide +kernel
theorem dX5_length_13 : decode cX5_length 13 = .ok (.aload_n 0, 1) := by decide +kernel
theorem dX5_length_14 : decode cX5_length 14 = .ok (.getfield 22, 3) := by decide +kernel
theorem dX5_length_17 : decode cX5_length 17 = .ok (.imul, 1) := by decide +kernel
theorem dX5_length_18 : decode cX5_length 18 = .ok (.iconst 1, 1) := by decide +kernel
theorem dX5_length_19 : decode cX5_length 19 = .ok (.iadd, 1) := by decide +kernel
theorem dX5_length_20 : decode cX5_length 20 = .ok (.aload_n 0, 1) := by decide +kernel
theorem dX5_length_21 : decode cX5_length 21 = .ok (.getfield 15, 3) := by decide +kernel
theorem dX5_length_24 : decode cX5_length 24 = .ok (.aload_n 0, 1) := by decide +kernel
theorem dX5_length_25 : decode cX5_length 25 = .ok (.getfield 22, 3) := by decide +kernel
theorem dX5_length_28 : decode cX5_length 28 = .ok (.iconst 1, 1) := by decide +kernel
theorem dX5_length_29 : decode cX5_length 29 = .ok (.isub, 1) := by decide +kernel
theorem dX5_length_30 : decode cX5_length 30 = .ok (.iaload, 1) := by decide +kernel
theorem dX5_length_31 : decode cX5_length 31 = .ok (.invokestatic 46, 3) := by decide +kernel
theorem dX5_length_34 : decode cX5_length 34 = .ok (.isub, 1) := by decide +kernel
theorem dX5_length_35 : decode cX5_length 35 = .ok (.ireturn, 1) := by decide +kernel
theorem dX5_lowLong_0 : decode cX5_lowLong 0 = .ok (.aload_n 0, 1) := by decide +kernel
theorem dX5_lowLong_1 : decode cX5_lowLong 1 = .ok (.iconst 0, 1) := by decide +kernel
theorem dX5_lowLong_2 : decode cX5_lowLong 2 = .ok (.invokevirtual 42, 3) := by decide +kernel
theorem dX5_lowLong_5 : decode cX5_lowLong 5 = .ok (.aload_n 0, 1) := by decide +kernel
theorem dX5_lowLong_6 : decode cX5_lowLong 6 = .ok (.iconst 1, 1) := by decide +kernel
theorem dX5_lowLong_7 : decode cX5_lowLong 7 = .ok (.invokevirtual 42, 3) := by decide +kernel
theorem dX5_lowLong_10 : decode cX5_lowLong 10 = .ok (.bipush 31, 2) := by decide +kernel
theorem dX5_lowLong_12 : decode cX5_lowLong 12 = .ok (.lshl, 1) := by decide +kernel
theorem dX5_lowLong_13 : decode cX5_lowLong 13 = .ok (.lor, 1) := by decide +kernel
theorem dX5_lowLong_14 : decode cX5_lowLong 14 = .ok (.aload_n 0, 1) := by decide +kernel
theorem dX5_lowLong_15 : decode cX5_lowLong 15 = .ok (.iconst 2, 1) := by decide +kernel
theorem dX5_lowLong_16 : decode cX5_lowLong 16 = .ok (.invokevirtual 42, 3) := by decide +kernel
theorem dX5_lowLong_19 : decode cX5_lowLong 19 = .ok (.bipush 62, 2) := by decide +kernel
theorem dX5_lowLong_21 : decode cX5_lowLong 21 = .ok (.lshl, 1) := by decide +kernel
theorem dX5_lowLong_22 : decode cX5_lowLong 22 = .ok (.lor, 1) := by decide +kernel
theorem dX5_lowLong_23 : decode cX5_lowLong 23 = .ok (.lreturn, 1) := by decide +kernel
theorem dX5_fitsLong_0 : decode cX5_fitsLong 0 = .ok (.aload_n 0, 1) := by decide +kernel
theorem dX5_fitsLong_1 : decode cX5_fitsLong 1 = .ok (.invokevirtual 52, 3) := by decide +kernel
theorem dX5_fitsLong_4 : decode cX5_fitsLong 4 = .ok (.istore_n 2, 1) := by decide +kernel
theorem dX5_fitsLong_5 : decode cX5_fitsLong 5 = .ok (.iload_n 2, 1) := by decide +kernel
theorem dX5_fitsLong_6 : decode cX5_fitsLong 6 = .ok (.bipush 64, 2) := by decide +kernel
theorem dX5_fitsLong_8 : decode cX5_fitsLong 8 = .ok (.if_icmp .lt 24, 3) := by decide +kernel
theorem dX5_fitsLong_11 : decode cX5_fitsLong 11 = .ok (.iload_n 1, 1) := by decide +kernel
theorem dX5_fitsLong_12 : decode cX5_fitsLong 12 = .ok (.ifCond .eq 24, 3) := by decide +kernel
theorem dX5_fitsLong_15 : decode cX5_fitsLong 15 = .ok (.iload_n 2, 1) := by decide +kernel
theorem dX5_fitsLong_16 : decode cX5_fitsLong 16 = .ok (.bipush 64, 2) := by decide +kernel
theorem dX5_fitsLong_18 : decode cX5_fitsLong 18 = .ok (.if_icmp .ne 18, 3) := by decide +kernel
theorem dX5_fitsLong_21 : decode cX5_fitsLong 21 = .ok (.aload_n 0, 1) := by decide +kernel
theorem dX5_fitsLong_22 : decode cX5_fitsLong 22 = .ok (.invokevirtual 56, 3) := by decide +kernel
theorem dX5_fitsLong_25 : decode cX5_fitsLong 25 = .ok (.ldc2_w 62, 3) := by decide +kernel
theorem dX5_fitsLong_28 : decode cX5_fitsLong 28 = .ok (.lcmp, 1) := by decide +kernel
theorem dX5_fitsLong_29 : decode cX5_fitsLong 29 = .ok (.ifCond .ne 7, 3) := by decide +kernel
theorem dX5_fitsLong_32 : decode cX5_fitsLong 32 = .ok (.iconst 1, 1) := by decide +kernel
theorem dX5_fitsLong_33 : decode cX5_fitsLong 33 = .ok (.goto 4, 3) := by decide +kernel
theorem dX5_fitsLong_36 : decode cX5_fitsLong 36 = .ok (.iconst 0, 1) := by decide +kernel
theorem dX5_fitsLong_37 : decode cX5_fitsLong 37 = .ok (.ireturn, 1) := by decide +kernel
theorem dX5_word_0 : decode cX5_word 0 = .ok (.bipush 32, 2) := by decide +kernel
theorem dX5_word_2 : decode cX5_word 2 = .ok (.iload_n 1, 1) := by decide +kernel
theorem dX5_word_3 : decode cX5_word 3 = .ok (.imul, 1) := by decide +kernel
theorem dX5_word_4 : decode cX5_word 4 = .ok (.bipush 31, 2) := by decide +kernel
theorem dX5_word_6 : decode cX5_word 6 = .ok (.idiv, 1) := by decide +kernel
theorem dX5_word_7 : decode cX5_word 7 = .ok (.istore_n 2, 1) := by decide +kernel
theorem dX5_word_8 : decode cX5_word 8 = .ok (.bipush 32, 2) := by decide +kernel
theorem dX5_word_10 : decode cX5_word 10 = .ok (.iload_n 1, 1) := by decide +kernel
theorem dX5_word_11 : decode cX5_word 11 = .ok (.imul, 1) := by decide +kernel
theorem dX5_word_12 : decode cX5_word 12 = .ok (.bipush 31, 2) := by decide +kernel
theorem dX5_word_14 : decode cX5_word 14 = .ok (.irem, 1) := by decide +kernel
theorem dX5_word_15 : decode cX5_word 15 = .ok (.istore_n 3, 1) := by decide +kernel
theorem dX5_word_16 : decode cX5_word 16 = .ok (.aload_n 0, 1) := by decide +kernel
theorem dX5_word_17 : decode cX5_word 17 = .ok (.iload_n 2, 1) := by decide +kernel
theorem dX5_word_18 : decode cX5_word 18 = .ok (.invokevirtual 42, 3) := by decide +kernel
theorem dX5_word_21 : decode cX5_word 21 = .ok (.iload_n 3, 1) := by decide +kernel
theorem dX5_word_22 : decode cX5_word 22 = .ok (.lushr, 1) := by decide +kernel
theorem dX5_word_23 : decode cX5_word 23 = .ok (.aload_n 0, 1) := by decide +kernel
theorem dX5_word_24 : decode cX5_word 24 = .ok (.iload_n 2, 1) := by decide +kernel
theorem dX5_word_25 : decode cX5_word 25 = .ok (.iconst 1, 1) := by decide +kernel
theorem dX5_word_26 : decode cX5_word 26 = .ok (.iadd, 1) := by decide +kernel
theorem dX5_word_27 : decode cX5_word 27 = .ok (.invokevirtual 42, 3) := by decide +kernel
theorem dX5_word_30 : decode cX5_word 30 = .ok (.bipush 31, 2) := by decide +kernel
theorem dX5_word_32 : decode cX5_word 32 = .ok (.iload_n 3, 1) := by decide +kernel
theorem dX5_word_33 : decode cX5_word 33 = .ok (.isub, 1) := by decide +kernel
theorem dX5_word_34 : decode cX5_word 34 = .ok (.lshl, 1) := by decide +kernel
theorem dX5_word_35 : decode cX5_word 35 = .ok (.lor, 1) := by decide +kernel
theorem dX5_word_36 : decode cX5_word 36 = .ok (.l2i, 1) := by decide +kernel
theorem dX5_word_37 : decode cX5_word 37 = .ok (.ireturn, 1) := by decide +kernel
theorem dX5_compareWith_0 : decode cX5_compareWith 0 = .ok (.aload_n 0, 1) := by decide +kernel
theorem dX5_compareWith_1 : decode cX5_compareWith 1 = .ok (.getfield 22, 3) := by decide +kernel
theorem dX5_compareWith_4 : decode cX5_compareWith 4 = .ok (.aload_n 1, 1) := by decide +kernel
theorem dX5_compareWith_5 : decode cX5_compareWith 5 = .ok (.getfield 22, 3) := by decide +kernel
theorem dX5_compareWith_8 : decode cX5_compareWith 8 = .ok (.if_icmp .eq 20, 3) := by decide +kernel
theorem dX5_compareWith_11 : decode cX5_compareWith 11 = .ok (.aload_n 0, 1) := by decide +kernel
theorem dX5_compareWith_12 : decode cX5_compareWith 12 = .ok (.getfield 22, 3) := by decide +kernel
theorem dX5_compareWith_15 : decode cX5_compareWith 15 = .ok (.aload_n 1, 1) := by decide +kernel
theorem dX5_compareWith_16 : decode cX5_compareWith 16 = .ok (.getfield 22, 3) := by decide +kernel
theorem dX5_compareWith_19 : decode cX5_compareWith 19 = .ok (.if_icmp .ge 7, 3) := by decide +kernel
theorem dX5_compareWith_22 : decode cX5_compareWith 22 = .ok (.iconst (-1), 1) := by decide +kernel
theorem dX5_compareWith_23 : decode cX5_compareWith 23 = .ok (.goto 4, 3) := by decide +kernel
theorem dX5_compareWith_26 : decode cX5_compareWith 26 = .ok (.iconst 1, 1) := by decide +kernel
theorem dX5_compareWith_27 : decode cX5_compareWith 27 = .ok (.ireturn, 1) := by decide +kernel
theorem dX5_compareWith_28 : decode cX5_compareWith 28 = .ok (.aload_n 0, 1) := by decide +kernel
theorem dX5_compareWith_29 : decode cX5_compareWith 29 = .ok (.getfield 22, 3) := by decide +kernel
theorem dX5_compareWith_32 : decode cX5_compareWith 32 = .ok (.iconst 1, 1) := by decide +kernel
theorem dX5_compareWith_33 : decode cX5_compareWith 33 = .ok (.isub, 1) := by decide +kernel
theorem dX5_compareWith_34 : decode cX5_compareWith 34 = .ok (.istore_n 2, 1) := by decide +kernel
theorem dX5_compareWith_35 : decode cX5_compareWith 35 = .ok (.iload_n 2, 1) := by decide +kernel
theorem dX5_compareWith_36 : decode cX5_compareWith 36 = .ok (.ifCond .lt 45, 3) := by decide +kernel
theorem dX5_compareWith_39 : decode cX5_compareWith 39 = .ok (.aload_n 0, 1) := by decide +kernel
theorem dX5_compareWith_40 : decode cX5_compareWith 40 = .ok (.getfield 15, 3) := by decide +kernel
theorem dX5_compareWith_43 : decode cX5_compareWith 43 = .ok (.iload_n 2, 1) := by decide +kernel
theorem dX5_compareWith_44 : decode cX5_compareWith 44 = .ok (.iaload, 1) := by decide +kernel
theorem dX5_compareWith_45 : decode cX5_compareWith 45 = .ok (.aload_n 1, 1) := by decide +kernel
theorem dX5_compareWith_46 : decode cX5_compareWith 46 = .ok (.getfield 15, 3) := by decide +kernel
theorem dX5_compareWith_49 : decode cX5_compareWith 49 = .ok (.iload_n 2, 1) := by decide +kernel
theorem dX5_compareWith_50 : decode cX5_compareWith 50 = .ok (.iaload, 1) := by decide +kernel
theorem dX5_compareWith_51 : decode cX5_compareWith 51 = .ok (.if_icmp .eq 24, 3) := by decide +kernel
theorem dX5_compareWith_54 : decode cX5_compareWith 54 = .ok (.aload_n 0, 1) := by decide +kernel
theorem dX5_compareWith_55 : decode cX5_compareWith 55 = .ok (.getfield 15, 3) := by decide +kernel
theorem dX5_compareWith_58 : decode cX5_compareWith 58 = .ok (.iload_n 2, 1) := by decide +kernel
theorem dX5_compareWith_59 : decode cX5_compareWith 59 = .ok (.iaload, 1) := by decide +kernel
theorem dX5_compareWith_60 : decode cX5_compareWith 60 = .ok (.aload_n 1, 1) := by decide +kernel
theorem dX5_compareWith_61 : decode cX5_compareWith 61 = .ok (.getfield 15, 3) := by decide +kernel
theorem dX5_compareWith_64 : decode cX5_compareWith 64 = .ok (.iload_n 2, 1) := by decide +kernel
theorem dX5_compareWith_65 : decode cX5_compareWith 65 = .ok (.iaload, 1) := by decide +kernel
theorem dX5_compareWith_66 : decode cX5_compareWith 66 = .ok (.if_icmp .ge 7, 3) := by decide +kernel
theorem dX5_compareWith_69 : decode cX5_compareWith 69 = .ok (.iconst (-1), 1) := by decide +kernel
theorem dX5_compareWith_70 : decode cX5_compareWith 70 = .ok (.goto 4, 3) := by decide +kernel
theorem dX5_compareWith_73 : decode cX5_compareWith 73 = .ok (.iconst 1, 1) := by decide +kernel
theorem dX5_compareWith_74 : decode cX5_compareWith 74 = .ok (.ireturn, 1) := by decide +kernel
theorem dX5_compareWith_75 : decode cX5_compareWith 75 = .ok (.iinc 2 (-1), 3) := by decide +kernel
theorem dX5_compareWith_78 : decode cX5_compareWith 78 = .ok (.goto (-43), 3) := by decide +kernel
theorem dX5_compareWith_81 : decode cX5_compareWith 81 = .ok (.iconst 0, 1) := by decide +kernel
theorem dX5_compareWith_82 : decode cX5_compareWith 82 = .ok (.ireturn, 1) := by decide +kernel
theorem dX5_setSum_0 : decode cX5_setSum 0 = .ok (.aload_n 1, 1) := by decide +kernel
theorem dX5_setSum_1 : decode cX5_setSum 1 = .ok (.getfield 22, 3) := by decide +kernel
theorem dX5_setSum_4 : decode cX5_setSum 4 = .ok (.aload_n 2, 1) := by decide +kernel
theorem dX5_setSum_5 : decode cX5_setSum 5 = .ok (.getfield 22, 3) := by decide +kernel
theorem dX5_setSum_8 : decode cX5_setSum 8 = .ok (.invokestatic 9, 3) := by decide +kernel
theorem dX5_setSum_11 : decode cX5_setSum 11 = .ok (.istore_n 3, 1) := by decide +kernel
theorem dX5_setSum_12 : decode cX5_setSum 12 = .ok (.lconst 0, 1) := by decide +kernel
theorem dX5_setSum_13 : decode cX5_setSum 13 = .ok (.lstore 4, 2) := by decide +kernel
theorem dX5_setSum_15 : decode cX5_setSum 15 = .ok (.iconst 0, 1) := by decide +kernel
theorem dX5_setSum_16 : decode cX5_setSum 16 = .ok (.istore 6, 2) := by decide +kernel
theorem dX5_setSum_18 : decode cX5_setSum 18 = .ok (.iload 6, 2) := by decide +kernel
theorem dX5_setSum_20 : decode cX5_setSum 20 = .ok (.iload_n 3, 1) := by decide +kernel
theorem dX5_setSum_21 : decode cX5_setSum 21 = .ok (.if_icmp .ge 47, 3) := by decide +kernel
theorem dX5_setSum_24 : decode cX5_setSum 24 = .ok (.lload 4, 2) := by decide +kernel
theorem dX5_setSum_26 : decode cX5_setSum 26 = .ok (.aload_n 1, 1) := by decide +kernel
theorem dX5_setSum_27 : decode cX5_setSum 27 = .ok (.iload 6, 2) := by decide +kernel
theorem dX5_setSum_29 : decode cX5_setSum 29 = .ok (.invokevirtual 42, 3) := by decide +kernel
theorem dX5_setSum_32 : decode cX5_setSum 32 = .ok (.aload_n 2, 1) := by decide +kernel
theorem dX5_setSum_33 : decode cX5_setSum 33 = .ok (.iload 6, 2) := by decide +kernel
theorem dX5_setSum_35 : decode cX5_setSum 35 = .ok (.invokevirtual 42, 3) := by decide +kernel
theorem dX5_setSum_38 : decode cX5_setSum 38 = .ok (.ladd, 1) := by decide +kernel
theorem dX5_setSum_39 : decode cX5_setSum 39 = .ok (.ladd, 1) := by decide +kernel
theorem dX5_setSum_40 : decode cX5_setSum 40 = .ok (.lstore 4, 2) := by decide +kernel
theorem dX5_setSum_42 : decode cX5_setSum 42 = .ok (.aload_n 0, 1) := by decide +kernel
theorem dX5_setSum_43 : decode cX5_setSum 43 = .ok (.getfield 15, 3) := by decide +kernel
theorem dX5_setSum_46 : decode cX5_setSum 46 = .ok (.iload 6, 2) := by decide +kernel
theorem dX5_setSum_48 : decode cX5_setSum 48 = .ok (.lload 4, 2) := by decide +kernel
theorem dX5_setSum_50 : decode cX5_setSum 50 = .ok (.l2i, 1) := by decide +kernel
theorem dX5_setSum_51 : decode cX5_setSum 51 = .ok (.ldc 21, 2) := by decide +kernel
theorem dX5_setSum_53 : decode cX5_setSum 53 = .ok (.iand, 1) := by decide +kernel
theorem dX5_setSum_54 : decode cX5_setSum 54 = .ok (.iastore, 1) := by decide +kernel
theorem dX5_setSum_55 : decode cX5_setSum 55 = .ok (.lload 4, 2) := by decide +kernel
theorem dX5_setSum_57 : decode cX5_setSum 57 = .ok (.bipush 31, 2) := by decide +kernel
theorem dX5_setSum_59 : decode cX5_setSum 59 = .ok (.lushr, 1) := by decide +kernel
theorem dX5_setSum_60 : decode cX5_setSum 60 = .ok (.lstore 4, 2) := by decide +kernel
theorem dX5_setSum_62 : decode cX5_setSum 62 = .ok (.iinc 6 1, 3) := by decide +kernel
theorem dX5_setSum_65 : decode cX5_setSum 65 = .ok (.goto (-47), 3) := by decide +kernel
theorem dX5_setSum_68 : decode cX5_setSum 68 = .ok (.aload_n 0, 1) := by decide +kernel
theorem dX5_setSum_69 : decode cX5_setSum 69 = .ok (.getfield 15, 3) := by decide +kernel
theorem dX5_setSum_72 : decode cX5_setSum 72 = .ok (.iload_n 3, 1) := by decide +kernel
theorem dX5_setSum_73 : decode cX5_setSum 73 = .ok (.lload 4, 2) := by decide +kernel
theorem dX5_setSum_75 : decode cX5_setSum 75 = .ok (.l2i, 1) := by decide +kernel
theorem dX5_setSum_76 : decode cX5_setSum 76 = .ok (.iastore, 1) := by decide +kernel
theorem dX5_setSum_77 : decode cX5_setSum 77 = .ok (.aload_n 0, 1) := by decide +kernel
theorem dX5_setSum_78 : decode cX5_setSum 78 = .ok (.iload_n 3, 1) := by decide +kernel
theorem dX5_setSum_79 : decode cX5_setSum 79 = .ok (.iconst 1, 1) := by decide +kernel
theorem dX5_setSum_80 : decode cX5_setSum 80 = .ok (.iadd, 1) := by decide +kernel
theorem dX5_setSum_81 : decode cX5_setSum 81 = .ok (.putfield 22, 3) := by decide +kernel
theorem dX5_setSum_84 : decode cX5_setSum 84 = .ok (.aload_n 0, 1) := by decide +kernel
theorem dX5_setSum_85 : decode cX5_setSum 85 = .ok (.invokevirtual 26, 3) := by decide +kernel
theorem dX5_setSum_88 : decode cX5_setSum 88 = .ok (.return_, 1) := by decide +kernel
theorem dX5_setDifference_0 : decode cX5_setDifference 0 = .ok (.aload_n 1, 1) := by decide +kernel
theorem dX5_setDifference_1 : decode cX5_setDifference 1 = .ok (.getfield 22, 3) := by decide +kernel
theorem dX5_setDifference_4 : decode cX5_setDifference 4 = .ok (.istore_n 3, 1) := by decide +kernel
theorem dX5_setDifference_5 : decode cX5_setDifference 5 = .ok (.lconst 0, 1) := by decide +kernel
theorem dX5_setDifference_6 : decode cX5_setDifference 6 = .ok (.lstore 4, 2) := by decide +kernel
theorem dX5_setDifference_8 : decode cX5_setDifference 8 = .ok (.iconst 0, 1) := by decide +kernel
theorem dX5_setDifference_9 : decode cX5_setDifference 9 = .ok (.istore 6, 2) := by decide +kernel
theorem dX5_setDifference_11 : decode cX5_setDifference 11 = .ok (.iload 6, 2) := by decide +kernel
theorem dX5_setDifference_13 : decode cX5_setDifference 13 = .ok (.iload_n 3, 1) := by decide +kernel
theorem dX5_setDifference_14 : decode cX5_setDifference 14 = .ok (.if_icmp .ge 47, 3) := by decide +kernel
theorem dX5_setDifference_17 : decode cX5_setDifference 17 = .ok (.lload 4, 2) := by decide +kernel
theorem dX5_setDifference_19 : decode cX5_setDifference 19 = .ok (.aload_n 1, 1) := by decide +kernel
theorem dX5_setDifference_20 : decode cX5_setDifference 20 = .ok (.iload 6, 2) := by decide +kernel
theorem dX5_setDifference_22 : decode cX5_setDifference 22 = .ok (.invokevirtual 42, 3) := by decide +kernel
theorem dX5_setDifference_25 : decode cX5_setDifference 25 = .ok (.aload_n 2, 1) := by decide +kernel
theorem dX5_setDifference_26 : decode cX5_setDifference 26 = .ok (.iload 6, 2) := by decide +kernel
theorem dX5_setDifference_28 : decode cX5_setDifference 28 = .ok (.invokevirtual 42, 3) := by decide +kernel
theorem dX5_setDifference_31 : decode cX5_setDifference 31 = .ok (.lsub, 1) := by decide +kernel
theorem dX5_setDifference_32 : decode cX5_setDifference 32 = .ok (.ladd, 1) := by decide +kernel
theorem dX5_setDifference_33 : decode cX5_setDifference 33 = .ok (.lstore 4, 2) := by decide +kernel
theorem dX5_setDifference_35 : decode cX5_setDifference 35 = .ok (.aload_n 0, 1) := by decide +kernel
theorem dX5_setDifference_36 : decode cX5_setDifference 36 = .ok (.getfield 15, 3) := by decide +kernel
theorem dX5_setDifference_39 : decode cX5_setDifference 39 = .ok (.iload 6, 2) := by decide +kernel
theorem dX5_setDifference_41 : decode cX5_setDifference 41 = .ok (.lload 4, 2) := by decide +kernel
theorem dX5_setDifference_43 : decode cX5_setDifference 43 = .ok (.l2i, 1) := by decide +kernel
theorem dX5_setDifference_44 : decode cX5_setDifference 44 = .ok (.ldc 21, 2) := by decide +kernel
theorem dX5_setDifference_46 : decode cX5_setDifference 46 = .ok (.iand, 1) := by decide +kernel
theorem dX5_setDifference_47 : decode cX5_setDifference 47 = .ok (.iastore, 1) := by decide +kernel
theorem dX5_setDifference_48 : decode cX5_setDifference 48 = .ok (.lload 4, 2) := by decide +kernel
theorem dX5_setDifference_50 : decode cX5_setDifference 50 = .ok (.bipush 31, 2) := by decide +kernel
theorem dX5_setDifference_52 : decode cX5_setDifference 52 = .ok (.lshr, 1) := by decide +kernel
theorem dX5_setDifference_53 : decode cX5_setDifference 53 = .ok (.lstore 4, 2) := by decide +kernel
theorem dX5_setDifference_55 : decode cX5_setDifference 55 = .ok (.iinc 6 1, 3) := by decide +kernel
theorem dX5_setDifference_58 : decode cX5_setDifference 58 = .ok (.goto (-47), 3) := by decide +kernel
theorem dX5_setDifference_61 : decode cX5_setDifference 61 = .ok (.aload_n 0, 1) := by decide +kernel
theorem dX5_setDifference_62 : decode cX5_setDifference 62 = .ok (.iload_n 3, 1) := by decide +kernel
theorem dX5_setDifference_63 : decode cX5_setDifference 63 = .ok (.putfield 22, 3) := by decide +kernel
theorem dX5_setDifference_66 : decode cX5_setDifference 66 = .ok (.aload_n 0, 1) := by decide +kernel
theorem dX5_setDifference_67 : decode cX5_setDifference 67 = .ok (.invokevirtual 26, 3) := by decide +kernel
theorem dX5_setDifference_70 : decode cX5_setDifference 70 = .ok (.return_, 1) := by decide +kernel
theorem dX5_setProduct_0 : decode cX5_setProduct 0 = .ok (.aload_n 0, 1) := by decide +kernel
theorem dX5_setProduct_1 : decode cX5_setProduct 1 = .ok (.aload_n 1, 1) := by decide +kernel
theorem dX5_setProduct_2 : decode cX5_setProduct 2 = .ok (.getfield 22, 3) := by decide +kernel
theorem dX5_setProduct_5 : decode cX5_setProduct 5 = .ok (.aload_n 2, 1) := by decide +kernel
theorem dX5_setProduct_6 : decode cX5_setProduct 6 = .ok (.getfield 22, 3) := by decide +kernel
theorem dX5_setProduct_9 : decode cX5_setProduct 9 = .ok (.iadd, 1) := by decide +kernel
theorem dX5_setProduct_10 : decode cX5_setProduct 10 = .ok (.putfield 22, 3) := by decide +kernel
theorem dX5_setProduct_13 : decode cX5_setProduct 13 = .ok (.iconst 0, 1) := by decide +kernel
theorem dX5_setProduct_14 : decode cX5_setProduct 14 = .ok (.istore_n 3, 1) := by decide +kernel
theorem dX5_setProduct_15 : decode cX5_setProduct 15 = .ok (.iload_n 3, 1) := by decide +kernel
theorem dX5_setProduct_16 : decode cX5_setProduct 16 = .ok (.aload_n 0, 1) := by decide +kernel
theorem dX5_setProduct_17 : decode cX5_setProduct 17 = .ok (.getfield 22, 3) := by decide +kernel
theorem dX5_setProduct_20 : decode cX5_setProduct 20 = .ok (.if_icmp .ge 16, 3) := by decide +kernel
theorem dX5_setProduct_23 : decode cX5_setProduct 23 = .ok (.aload_n 0, 1) := by decide +kernel
theorem dX5_setProduct_24 : decode cX5_setProduct 24 = .ok (.getfield 15, 3) := by decide +kernel
theorem dX5_setProduct_27 : decode cX5_setProduct 27 = .ok (.iload_n 3, 1) := by decide +kernel
theorem dX5_setProduct_28 : decode cX5_setProduct 28 = .ok (.iconst 0, 1) := by decide +kernel
theorem dX5_setProduct_29 : decode cX5_setProduct 29 = .ok (.iastore, 1) := by decide +kernel
theorem dX5_setProduct_30 : decode cX5_setProduct 30 = .ok (.iinc 3 1, 3) := by decide +kernel
theorem dX5_setProduct_33 : decode cX5_setProduct 33 = .ok (.goto (-18), 3) := by decide +kernel
theorem dX5_setProduct_36 : decode cX5_setProduct 36 = .ok (.iconst 0, 1) := by decide +kernel
theorem dX5_setProduct_37 : decode cX5_setProduct 37 = .ok (.istore_n 3, 1) := by decide +kernel
theorem dX5_setProduct_38 : decode cX5_setProduct 38 = .ok (.iload_n 3, 1) := by decide +kernel
theorem dX5_setProduct_39 : decode cX5_setProduct 39 = .ok (.aload_n 1, 1) := by decide +kernel
theorem dX5_setProduct_40 : decode cX5_setProduct 40 = .ok (.getfield 22, 3) := by decide +kernel
theorem dX5_setProduct_43 : decode cX5_setProduct 43 = .ok (.if_icmp .ge 102, 3) := by decide +kernel
theorem dX5_setProduct_46 : decode cX5_setProduct 46 = .ok (.aload_n 1, 1) := by decide +kernel
theorem dX5_setProduct_47 : decode cX5_setProduct 47 = .ok (.getfield 15, 3) := by decide +kernel
theorem dX5_setProduct_50 : decode cX5_setProduct 50 = .ok (.iload_n 3, 1) := by decide +kernel
theorem dX5_setProduct_51 : decode cX5_setProduct 51 = .ok (.iaload, 1) := by decide +kernel
theorem dX5_setProduct_52 : decode cX5_setProduct 52 = .ok (.i2l, 1) := by decide +kernel
theorem dX5_setProduct_53 : decode cX5_setProduct 53 = .ok (.lstore 4, 2) := by decide +kernel
theorem dX5_setProduct_55 : decode cX5_setProduct 55 = .ok (.lconst 0, 1) := by decide +kernel
theorem dX5_setProduct_56 : decode cX5_setProduct 56 = .ok (.lstore 6, 2) := by decide +kernel
theorem dX5_setProduct_58 : decode cX5_setProduct 58 = .ok (.iconst 0, 1) := by decide +kernel
theorem dX5_setProduct_59 : decode cX5_setProduct 59 = .ok (.istore 8, 2) := by decide +kernel
theorem dX5_setProduct_61 : decode cX5_setProduct 61 = .ok (.iload 8, 2) := by decide +kernel
theorem dX5_setProduct_63 : decode cX5_setProduct 63 = .ok (.aload_n 2, 1) := by decide +kernel
theorem dX5_setProduct_64 : decode cX5_setProduct 64 = .ok (.getfield 22, 3) := by decide +kernel
theorem dX5_setProduct_67 : decode cX5_setProduct 67 = .ok (.if_icmp .ge 58, 3) := by decide +kernel
theorem dX5_setProduct_70 : decode cX5_setProduct 70 = .ok (.lload 6, 2) := by decide +kernel
theorem dX5_setProduct_72 : decode cX5_setProduct 72 = .ok (.lload 4, 2) := by decide +kernel
theorem dX5_setProduct_74 : decode cX5_setProduct 74 = .ok (.aload_n 2, 1) := by decide +kernel
theorem dX5_setProduct_75 : decode cX5_setProduct 75 = .ok (.getfield 15, 3) := by decide +kernel
theorem dX5_setProduct_78 : decode cX5_setProduct 78 = .ok (.iload 8, 2) := by decide +kernel
theorem dX5_setProduct_80 : decode cX5_setProduct 80 = .ok (.iaload, 1) := by decide +kernel
theorem dX5_setProduct_81 : decode cX5_setProduct 81 = .ok (.i2l, 1) := by decide +kernel
theorem dX5_setProduct_82 : decode cX5_setProduct 82 = .ok (.lmul, 1) := by decide +kernel
theorem dX5_setProduct_83 : decode cX5_setProduct 83 = .ok (.aload_n 0, 1) := by decide +kernel
theorem dX5_setProduct_84 : decode cX5_setProduct 84 = .ok (.getfield 15, 3) := by decide +kernel
theorem dX5_setProduct_87 : decode cX5_setProduct 87 = .ok (.iload_n 3, 1) := by decide +kernel
theorem dX5_setProduct_88 : decode cX5_setProduct 88 = .ok (.iload 8, 2) := by decide +kernel
theorem dX5_setProduct_90 : decode cX5_setProduct 90 = .ok (.iadd, 1) := by decide +kernel
theorem dX5_setProduct_91 : decode cX5_setProduct 91 = .ok (.iaload, 1) := by decide +kernel
theorem dX5_setProduct_92 : decode cX5_setProduct 92 = .ok (.i2l, 1) := by decide +kernel
theorem dX5_setProduct_93 : decode cX5_setProduct 93 = .ok (.ladd, 1) := by decide +kernel
theorem dX5_setProduct_94 : decode cX5_setProduct 94 = .ok (.ladd, 1) := by decide +kernel
theorem dX5_setProduct_95 : decode cX5_setProduct 95 = .ok (.lstore 6, 2) := by decide +kernel
theorem dX5_setProduct_97 : decode cX5_setProduct 97 = .ok (.aload_n 0, 1) := by decide +kernel
theorem dX5_setProduct_98 : decode cX5_setProduct 98 = .ok (.getfield 15, 3) := by decide +kernel
theorem dX5_setProduct_101 : decode cX5_setProduct 101 = .ok (.iload_n 3, 1) := by decide +kernel
theorem dX5_setProduct_102 : decode cX5_setProduct 102 = .ok (.iload 8, 2) := by decide +kernel
theorem dX5_setProduct_104 : decode cX5_setProduct 104 = .ok (.iadd, 1) := by decide +kernel
theorem dX5_setProduct_105 : decode cX5_setProduct 105 = .ok (.lload 6, 2) := by decide +kernel
theorem dX5_setProduct_107 : decode cX5_setProduct 107 = .ok (.l2i, 1) := by decide +kernel
theorem dX5_setProduct_108 : decode cX5_setProduct 108 = .ok (.ldc 21, 2) := by decide +kernel
theorem dX5_setProduct_110 : decode cX5_setProduct 110 = .ok (.iand, 1) := by decide +kernel
theorem dX5_setProduct_111 : decode cX5_setProduct 111 = .ok (.iastore, 1) := by decide +kernel
theorem dX5_setProduct_112 : decode cX5_setProduct 112 = .ok (.lload 6, 2) := by decide +kernel
theorem dX5_setProduct_114 : decode cX5_setProduct 114 = .ok (.bipush 31, 2) := by decide +kernel
theorem dX5_setProduct_116 : decode cX5_setProduct 116 = .ok (.lushr, 1) := by decide +kernel
theorem dX5_setProduct_117 : decode cX5_setProduct 117 = .ok (.lstore 6, 2) := by decide +kernel
theorem dX5_setProduct_119 : decode cX5_setProduct 119 = .ok (.iinc 8 1, 3) := by decide +kernel
theorem dX5_setProduct_122 : decode cX5_setProduct 122 = .ok (.goto (-61), 3) := by decide +kernel
theorem dX5_setProduct_125 : decode cX5_setProduct 125 = .ok (.aload_n 0, 1) := by decide +kernel
theorem dX5_setProduct_126 : decode cX5_setProduct 126 = .ok (.getfield 15, 3) := by decide +kernel
theorem dX5_setProduct_129 : decode cX5_setProduct 129 = .ok (.iload_n 3, 1) := by decide +kernel
theorem dX5_setProduct_130 : decode cX5_setProduct 130 = .ok (.aload_n 2, 1) := by decide +kernel
theorem dX5_setProduct_131 : decode cX5_setProduct 131 = .ok (.getfield 22, 3) := by decide +kernel
theorem dX5_setProduct_134 : decode cX5_setProduct 134 = .ok (.iadd, 1) := by decide +kernel
theorem dX5_setProduct_135 : decode cX5_setProduct 135 = .ok (.lload 6, 2) := by decide +kernel
theorem dX5_setProduct_137 : decode cX5_setProduct 137 = .ok (.l2i, 1) := by decide +kernel
theorem dX5_setProduct_138 : decode cX5_setProduct 138 = .ok (.iastore, 1) := by decide +kernel
theorem dX5_setProduct_139 : decode cX5_setProduct 139 = .ok (.iinc 3 1, 3) := by decide +kernel
theorem dX5_setProduct_142 : decode cX5_setProduct 142 = .ok (.goto (-104), 3) := by decide +kernel
theorem dX5_setProduct_145 : decode cX5_setProduct 145 = .ok (.aload_n 0, 1) := by decide +kernel
theorem dX5_setProduct_146 : decode cX5_setProduct 146 = .ok (.invokevirtual 26, 3) := by decide +kernel
theorem dX5_setProduct_149 : decode cX5_setProduct 149 = .ok (.return_, 1) := by decide +kernel
theorem dX5_grow_0 : decode cX5_grow 0 = .ok (.lconst 0, 1) := by decide +kernel
theorem dX5_grow_1 : decode cX5_grow 1 = .ok (.lstore_n 2, 1) := by decide +kernel
theorem dX5_grow_2 : decode cX5_grow 2 = .ok (.iconst 0, 1) := by decide +kernel
theorem dX5_grow_3 : decode cX5_grow 3 = .ok (.istore 4, 2) := by decide +kernel
theorem dX5_grow_5 : decode cX5_grow 5 = .ok (.iload 4, 2) := by decide +kernel
theorem dX5_grow_7 : decode cX5_grow 7 = .ok (.aload_n 0, 1) := by decide +kernel
theorem dX5_grow_8 : decode cX5_grow 8 = .ok (.getfield 22, 3) := by decide +kernel
theorem dX5_grow_11 : decode cX5_grow 11 = .ok (.if_icmp .ge 40, 3) := by decide +kernel
theorem dX5_grow_14 : decode cX5_grow 14 = .ok (.lload_n 2, 1) := by decide +kernel
theorem dX5_grow_15 : decode cX5_grow 15 = .ok (.iload_n 1, 1) := by decide +kernel
theorem dX5_grow_16 : decode cX5_grow 16 = .ok (.i2l, 1) := by decide +kernel
theorem dX5_grow_17 : decode cX5_grow 17 = .ok (.aload_n 0, 1) := by decide +kernel
theorem dX5_grow_18 : decode cX5_grow 18 = .ok (.getfield 15, 3) := by decide +kernel
theorem dX5_grow_21 : decode cX5_grow 21 = .ok (.iload 4, 2) := by decide +kernel
theorem dX5_grow_23 : decode cX5_grow 23 = .ok (.iaload, 1) := by decide +kernel
theorem dX5_grow_24 : decode cX5_grow 24 = .ok (.i2l, 1) := by decide +kernel
theorem dX5_grow_25 : decode cX5_grow 25 = .ok (.lmul, 1) := by decide +kernel
theorem dX5_grow_26 : decode cX5_grow 26 = .ok (.ladd, 1) := by decide +kernel
theorem dX5_grow_27 : decode cX5_grow 27 = .ok (.lstore_n 2, 1) := by decide +kernel
theorem dX5_grow_28 : decode cX5_grow 28 = .ok (.aload_n 0, 1) := by decide +kernel
theorem dX5_grow_29 : decode cX5_grow 29 = .ok (.getfield 15, 3) := by decide +kernel
theorem dX5_grow_32 : decode cX5_grow 32 = .ok (.iload 4, 2) := by decide +kernel
theorem dX5_grow_34 : decode cX5_grow 34 = .ok (.lload_n 2, 1) := by decide +kernel
theorem dX5_grow_35 : decode cX5_grow 35 = .ok (.l2i, 1) := by decide +kernel
theorem dX5_grow_36 : decode cX5_grow 36 = .ok (.ldc 21, 2) := by decide +kernel
theorem dX5_grow_38 : decode cX5_grow 38 = .ok (.iand, 1) := by decide +kernel
theorem dX5_grow_39 : decode cX5_grow 39 = .ok (.iastore, 1) := by decide +kernel
theorem dX5_grow_40 : decode cX5_grow 40 = .ok (.lload_n 2, 1) := by decide +kernel
theorem dX5_grow_41 : decode cX5_grow 41 = .ok (.bipush 31, 2) := by decide +kernel
theorem dX5_grow_43 : decode cX5_grow 43 = .ok (.lushr, 1) := by decide +kernel
theorem dX5_grow_44 : decode cX5_grow 44 = .ok (.lstore_n 2, 1) := by decide +kernel
theorem dX5_grow_45 : decode cX5_grow 45 = .ok (.iinc 4 1, 3) := by decide +kernel
theorem dX5_grow_48 : decode cX5_grow 48 = .ok (.goto (-43), 3) := by decide +kernel
theorem dX5_grow_51 : decode cX5_grow 51 = .ok (.aload_n 0, 1) := by decide +kernel
theorem dX5_grow_52 : decode cX5_grow 52 = .ok (.getfield 15, 3) := by decide +kernel
theorem dX5_grow_55 : decode cX5_grow 55 = .ok (.aload_n 0, 1) := by decide +kernel
theorem dX5_grow_56 : decode cX5_grow 56 = .ok (.getfield 22, 3) := by decide +kernel
theorem dX5_grow_59 : decode cX5_grow 59 = .ok (.lload_n 2, 1) := by decide +kernel
theorem dX5_grow_60 : decode cX5_grow 60 = .ok (.l2i, 1) := by decide +kernel
theorem dX5_grow_61 : decode cX5_grow 61 = .ok (.iastore, 1) := by decide +kernel
theorem dX5_grow_62 : decode cX5_grow 62 = .ok (.aload_n 0, 1) := by decide +kernel
theorem dX5_grow_63 : decode cX5_grow 63 = .ok (.dup, 1) := by decide +kernel
theorem dX5_grow_64 : decode cX5_grow 64 = .ok (.getfield 22, 3) := by decide +kernel
theorem dX5_grow_67 : decode cX5_grow 67 = .ok (.iconst 1, 1) := by decide +kernel
theorem dX5_grow_68 : decode cX5_grow 68 = .ok (.iadd, 1) := by decide +kernel
theorem dX5_grow_69 : decode cX5_grow 69 = .ok (.putfield 22, 3) := by decide +kernel
theorem dX5_grow_72 : decode cX5_grow 72 = .ok (.aload_n 0, 1) := by decide +kernel
theorem dX5_grow_73 : decode cX5_grow 73 = .ok (.invokevirtual 26, 3) := by decide +kernel
theorem dX5_grow_76 : decode cX5_grow 76 = .ok (.return_, 1) := by decide +kernel
theorem dX5_addOne_0 : decode cX5_addOne 0 = .ok (.iconst 0, 1) := by decide +kernel
theorem dX5_addOne_1 : decode cX5_addOne 1 = .ok (.istore_n 1, 1) := by decide +kernel
theorem dX5_addOne_2 : decode cX5_addOne 2 = .ok (.iload_n 1, 1) := by decide +kernel
theorem dX5_addOne_3 : decode cX5_addOne 3 = .ok (.aload_n 0, 1) := by decide +kernel
theorem dX5_addOne_4 : decode cX5_addOne 4 = .ok (.getfield 22, 3) := by decide +kernel
theorem dX5_addOne_7 : decode cX5_addOne 7 = .ok (.if_icmp .ge 27, 3) := by decide +kernel
theorem dX5_addOne_10 : decode cX5_addOne 10 = .ok (.aload_n 0, 1) := by decide +kernel
theorem dX5_addOne_11 : decode cX5_addOne 11 = .ok (.getfield 15, 3) := by decide +kernel
theorem dX5_addOne_14 : decode cX5_addOne 14 = .ok (.iload_n 1, 1) := by decide +kernel
theorem dX5_addOne_15 : decode cX5_addOne 15 = .ok (.iaload, 1) := by decide +kernel
theorem dX5_addOne_16 : decode cX5_addOne 16 = .ok (.ldc 21, 2) := by decide +kernel
theorem dX5_addOne_18 : decode cX5_addOne 18 = .ok (.if_icmp .ne 16, 3) := by decide +kernel
theorem dX5_addOne_21 : decode cX5_addOne 21 = .ok (.aload_n 0, 1) := by decide +kernel
theorem dX5_addOne_22 : decode cX5_addOne 22 = .ok (.getfield 15, 3) := by decide +kernel
theorem dX5_addOne_25 : decode cX5_addOne 25 = .ok (.iload_n 1, 1) := by decide +kernel
theorem dX5_addOne_26 : decode cX5_addOne 26 = .ok (.iconst 0, 1) := by decide +kernel
theorem dX5_addOne_27 : decode cX5_addOne 27 = .ok (.iastore, 1) := by decide +kernel
theorem dX5_addOne_28 : decode cX5_addOne 28 = .ok (.iinc 1 1, 3) := by decide +kernel
theorem dX5_addOne_31 : decode cX5_addOne 31 = .ok (.goto (-29), 3) := by decide +kernel
theorem dX5_addOne_34 : decode cX5_addOne 34 = .ok (.iload_n 1, 1) := by decide +kernel
theorem dX5_addOne_35 : decode cX5_addOne 35 = .ok (.aload_n 0, 1) := by decide +kernel
theorem dX5_addOne_36 : decode cX5_addOne 36 = .ok (.getfield 22, 3) := by decide +kernel
theorem dX5_addOne_39 : decode cX5_addOne 39 = .ok (.if_icmp .ne 20, 3) := by decide +kernel
theorem dX5_addOne_42 : decode cX5_addOne 42 = .ok (.aload_n 0, 1) := by decide +kernel
theorem dX5_addOne_43 : decode cX5_addOne 43 = .ok (.getfield 15, 3) := by decide +kernel
theorem dX5_addOne_46 : decode cX5_addOne 46 = .ok (.iload_n 1, 1) := by decide +kernel
theorem dX5_addOne_47 : decode cX5_addOne 47 = .ok (.iconst 0, 1) := by decide +kernel
theorem dX5_addOne_48 : decode cX5_addOne 48 = .ok (.iastore, 1) := by decide +kernel
theorem dX5_addOne_49 : decode cX5_addOne 49 = .ok (.aload_n 0, 1) := by decide +kernel
theorem dX5_addOne_50 : decode cX5_addOne 50 = .ok (.dup, 1) := by decide +kernel
theorem dX5_addOne_51 : decode cX5_addOne 51 = .ok (.getfield 22, 3) := by decide +kernel
theorem dX5_addOne_54 : decode cX5_addOne 54 = .ok (.iconst 1, 1) := by decide +kernel
theorem dX5_addOne_55 : decode cX5_addOne 55 = .ok (.iadd, 1) := by decide +kernel
theorem dX5_addOne_56 : decode cX5_addOne 56 = .ok (.putfield 22, 3) := by decide +kernel
theorem dX5_addOne_59 : decode cX5_addOne 59 = .ok (.aload_n 0, 1) := by decide +kernel
theorem dX5_addOne_60 : decode cX5_addOne 60 = .ok (.getfield 15, 3) := by decide +kernel
theorem dX5_addOne_63 : decode cX5_addOne 63 = .ok (.iload_n 1, 1) := by decide +kernel
theorem dX5_addOne_64 : decode cX5_addOne 64 = .ok (.dup2, 1) := by decide +kernel
theorem dX5_addOne_65 : decode cX5_addOne 65 = .ok (.iaload, 1) := by decide +kernel
theorem dX5_addOne_66 : decode cX5_addOne 66 = .ok (.iconst 1, 1) := by decide +kernel
theorem dX5_addOne_67 : decode cX5_addOne 67 = .ok (.iadd, 1) := by decide +kernel
theorem dX5_addOne_68 : decode cX5_addOne 68 = .ok (.iastore, 1) := by decide +kernel
theorem dX5_addOne_69 : decode cX5_addOne 69 = .ok (.return_, 1) := by decide +kernel
theorem dX5_shrink_0 : decode cX5_shrink 0 = .ok (.iload_n 1, 1) := by decide +kernel
theorem dX5_shrink_1 : decode cX5_shrink 1 = .ok (.ifCond .gt 5, 3) := by decide +kernel
theorem dX5_shrink_4 : decode cX5_shrink 4 = .ok (.iconst 0, 1) := by decide +kernel
theorem dX5_shrink_5 : decode cX5_shrink 5 = .ok (.ireturn, 1) := by decide +kernel
theorem dX5_shrink_6 : decode cX5_shrink 6 = .ok (.lconst 0, 1) := by decide +kernel
theorem dX5_shrink_7 : decode cX5_shrink 7 = .ok (.lstore_n 2, 1) := by decide +kernel
theorem dX5_shrink_8 : decode cX5_shrink 8 = .ok (.aload_n 0, 1) := by decide +kernel
theorem dX5_shrink_9 : decode cX5_shrink 9 = .ok (.getfield 22, 3) := by decide +kernel
theorem dX5_shrink_12 : decode cX5_shrink 12 = .ok (.iconst 1, 1) := by decide +kernel
theorem dX5_shrink_13 : decode cX5_shrink 13 = .ok (.isub, 1) := by decide +kernel
theorem dX5_shrink_14 : decode cX5_shrink 14 = .ok (.istore 4, 2) := by decide +kernel
theorem dX5_shrink_16 : decode cX5_shrink 16 = .ok (.iload 4, 2) := by decide +kernel
theorem dX5_shrink_18 : decode cX5_shrink 18 = .ok (.ifCond .lt 40, 3) := by decide +kernel
theorem dX5_shrink_21 : decode cX5_shrink 21 = .ok (.lload_n 2, 1) := by decide +kernel
theorem dX5_shrink_22 : decode cX5_shrink 22 = .ok (.bipush 31, 2) := by decide +kernel
theorem dX5_shrink_24 : decode cX5_shrink 24 = .ok (.lshl, 1) := by decide +kernel
theorem dX5_shrink_25 : decode cX5_shrink 25 = .ok (.aload_n 0, 1) := by decide +kernel
theorem dX5_shrink_26 : decode cX5_shrink 26 = .ok (.getfield 15, 3) := by decide +kernel
theorem dX5_shrink_29 : decode cX5_shrink 29 = .ok (.iload 4, 2) := by decide +kernel
theorem dX5_shrink_31 : decode cX5_shrink 31 = .ok (.iaload, 1) := by decide +kernel
theorem dX5_shrink_32 : decode cX5_shrink 32 = .ok (.i2l, 1) := by decide +kernel
theorem dX5_shrink_33 : decode cX5_shrink 33 = .ok (.lor, 1) := by decide +kernel
theorem dX5_shrink_34 : decode cX5_shrink 34 = .ok (.lstore_n 2, 1) := by decide +kernel
theorem dX5_shrink_35 : decode cX5_shrink 35 = .ok (.aload_n 0, 1) := by decide +kernel
theorem dX5_shrink_36 : decode cX5_shrink 36 = .ok (.getfield 15, 3) := by decide +kernel
theorem dX5_shrink_39 : decode cX5_shrink 39 = .ok (.iload 4, 2) := by decide +kernel
theorem dX5_shrink_41 : decode cX5_shrink 41 = .ok (.lload_n 2, 1) := by decide +kernel
theorem dX5_shrink_42 : decode cX5_shrink 42 = .ok (.iload_n 1, 1) := by decide +kernel
theorem dX5_shrink_43 : decode cX5_shrink 43 = .ok (.i2l, 1) := by decide +kernel
theorem dX5_shrink_44 : decode cX5_shrink 44 = .ok (.ldiv, 1) := by decide +kernel
theorem dX5_shrink_45 : decode cX5_shrink 45 = .ok (.l2i, 1) := by decide +kernel
theorem dX5_shrink_46 : decode cX5_shrink 46 = .ok (.iastore, 1) := by decide +kernel
theorem dX5_shrink_47 : decode cX5_shrink 47 = .ok (.lload_n 2, 1) := by decide +kernel
theorem dX5_shrink_48 : decode cX5_shrink 48 = .ok (.iload_n 1, 1) := by decide +kernel
theorem dX5_shrink_49 : decode cX5_shrink 49 = .ok (.i2l, 1) := by decide +kernel
theorem dX5_shrink_50 : decode cX5_shrink 50 = .ok (.lrem, 1) := by decide +kernel
theorem dX5_shrink_51 : decode cX5_shrink 51 = .ok (.lstore_n 2, 1) := by decide +kernel
theorem dX5_shrink_52 : decode cX5_shrink 52 = .ok (.iinc 4 (-1), 3) := by decide +kernel
theorem dX5_shrink_55 : decode cX5_shrink 55 = .ok (.goto (-39), 3) := by decide +kernel
theorem dX5_shrink_58 : decode cX5_shrink 58 = .ok (.aload_n 0, 1) := by decide +kernel
theorem dX5_shrink_59 : decode cX5_shrink 59 = .ok (.invokevirtual 26, 3) := by decide +kernel
theorem dX5_shrink_62 : decode cX5_shrink 62 = .ok (.lload_n 2, 1) := by decide +kernel
theorem dX5_shrink_63 : decode cX5_shrink 63 = .ok (.l2i, 1) := by decide +kernel
theorem dX5_shrink_64 : decode cX5_shrink 64 = .ok (.ireturn, 1) := by decide +kernel
theorem dX5_divide_0 : decode cX5_divide 0 = .ok (.aload_n 2, 1) := by decide +kernel
theorem dX5_divide_1 : decode cX5_divide 1 = .ok (.iconst 0, 1) := by decide +kernel
theorem dX5_divide_2 : decode cX5_divide 2 = .ok (.putfield 22, 3) := by decide +kernel
theorem dX5_divide_5 : decode cX5_divide 5 = .ok (.aload_n 1, 1) := by decide +kernel
theorem dX5_divide_6 : decode cX5_divide 6 = .ok (.getfield 22, 3) := by decide +kernel
theorem dX5_divide_9 : decode cX5_divide 9 = .ok (.ifCond .eq 14, 3) := by decide +kernel
theorem dX5_divide_12 : decode cX5_divide 12 = .ok (.aload_n 0, 1) := by decide +kernel
theorem dX5_divide_13 : decode cX5_divide 13 = .ok (.getfield 22, 3) := by decide +kernel
theorem dX5_divide_16 : decode cX5_divide 16 = .ok (.aload_n 1, 1) := by decide +kernel
theorem dX5_divide_17 : decode cX5_divide 17 = .ok (.getfield 22, 3) := by decide +kernel
theorem dX5_divide_20 : decode cX5_divide 20 = .ok (.if_icmp .ge 4, 3) := by decide +kernel
theorem dX5_divide_23 : decode cX5_divide 23 = .ok (.return_, 1) := by decide +kernel
theorem dX5_divide_24 : decode cX5_divide 24 = .ok (.aload_n 1, 1) := by decide +kernel
theorem dX5_divide_25 : decode cX5_divide 25 = .ok (.getfield 22, 3) := by decide +kernel
theorem dX5_divide_28 : decode cX5_divide 28 = .ok (.iconst 1, 1) := by decide +kernel
theorem dX5_divide_29 : decode cX5_divide 29 = .ok (.if_icmp .ne 34, 3) := by decide +kernel
theorem dX5_divide_32 : decode cX5_divide 32 = .ok (.aload_n 2, 1) := by decide +kernel
theorem dX5_divide_33 : decode cX5_divide 33 = .ok (.aload_n 0, 1) := by decide +kernel
theorem dX5_divide_34 : decode cX5_divide 34 = .ok (.invokevirtual 38, 3) := by decide +kernel
theorem dX5_divide_37 : decode cX5_divide 37 = .ok (.aload_n 0, 1) := by decide +kernel
theorem dX5_divide_38 : decode cX5_divide 38 = .ok (.getfield 15, 3) := by decide +kernel
theorem dX5_divide_41 : decode cX5_divide 41 = .ok (.iconst 0, 1) := by decide +kernel
theorem dX5_divide_42 : decode cX5_divide 42 = .ok (.aload_n 2, 1) := by decide +kernel
theorem dX5_divide_43 : decode cX5_divide 43 = .ok (.aload_n 1, 1) := by decide +kernel
theorem dX5_divide_44 : decode cX5_divide 44 = .ok (.getfield 15, 3) := by decide +kernel
theorem dX5_divide_47 : decode cX5_divide 47 = .ok (.iconst 0, 1) := by decide +kernel
theorem dX5_divide_48 : decode cX5_divide 48 = .ok (.iaload, 1) := by decide +kernel
theorem dX5_divide_49 : decode cX5_divide 49 = .ok (.invokevirtual 64, 3) := by decide +kernel
theorem dX5_divide_52 : decode cX5_divide 52 = .ok (.iastore, 1) := by decide +kernel
theorem dX5_divide_53 : decode cX5_divide 53 = .ok (.aload_n 0, 1) := by decide +kernel
theorem dX5_divide_54 : decode cX5_divide 54 = .ok (.iconst 1, 1) := by decide +kernel
theorem dX5_divide_55 : decode cX5_divide 55 = .ok (.putfield 22, 3) := by decide +kernel
theorem dX5_divide_58 : decode cX5_divide 58 = .ok (.aload_n 0, 1) := by decide +kernel
theorem dX5_divide_59 : decode cX5_divide 59 = .ok (.invokevirtual 26, 3) := by decide +kernel
theorem dX5_divide_62 : decode cX5_divide 62 = .ok (.return_, 1) := by decide +kernel
theorem dX5_divide_63 : decode cX5_divide 63 = .ok (.aload_n 0, 1) := by decide +kernel
theorem dX5_divide_64 : decode cX5_divide 64 = .ok (.getfield 22, 3) := by decide +kernel
theorem dX5_divide_67 : decode cX5_divide 67 = .ok (.aload_n 1, 1) := by decide +kernel
theorem dX5_divide_68 : decode cX5_divide 68 = .ok (.getfield 22, 3) := by decide +kernel
theorem dX5_divide_71 : decode cX5_divide 71 = .ok (.isub, 1) := by decide +kernel
theorem dX5_divide_72 : decode cX5_divide 72 = .ok (.istore_n 3, 1) := by decide +kernel
theorem dX5_divide_73 : decode cX5_divide 73 = .ok (.aload_n 1, 1) := by decide +kernel
theorem dX5_divide_74 : decode cX5_divide 74 = .ok (.invokevirtual 67, 3) := by decide +kernel
theorem dX5_divide_77 : decode cX5_divide 77 = .ok (.istore 4, 2) := by decide +kernel
theorem dX5_divide_79 : decode cX5_divide 79 = .ok (.aload_n 1, 1) := by decide +kernel
theorem dX5_divide_80 : decode cX5_divide 80 = .ok (.aload_n 1, 1) := by decide +kernel
theorem dX5_divide_81 : decode cX5_divide 81 = .ok (.getfield 22, 3) := by decide +kernel
theorem dX5_divide_84 : decode cX5_divide 84 = .ok (.iconst 1, 1) := by decide +kernel
theorem dX5_divide_85 : decode cX5_divide 85 = .ok (.isub, 1) := by decide +kernel
theorem dX5_divide_86 : decode cX5_divide 86 = .ok (.iload 4, 2) := by decide +kernel
theorem dX5_divide_88 : decode cX5_divide 88 = .ok (.invokevirtual 70, 3) := by decide +kernel
theorem dX5_divide_91 : decode cX5_divide 91 = .ok (.lstore 5, 2) := by decide +kernel
theorem dX5_divide_93 : decode cX5_divide 93 = .ok (.aload_n 0, 1) := by decide +kernel
theorem dX5_divide_94 : decode cX5_divide 94 = .ok (.getfield 15, 3) := by decide +kernel
theorem dX5_divide_97 : decode cX5_divide 97 = .ok (.aload_n 0, 1) := by decide +kernel
theorem dX5_divide_98 : decode cX5_divide 98 = .ok (.getfield 22, 3) := by decide +kernel
theorem dX5_divide_101 : decode cX5_divide 101 = .ok (.iconst 0, 1) := by decide +kernel
theorem dX5_divide_102 : decode cX5_divide 102 = .ok (.iastore, 1) := by decide +kernel
theorem dX5_divide_103 : decode cX5_divide 103 = .ok (.aload_n 0, 1) := by decide +kernel
theorem dX5_divide_104 : decode cX5_divide 104 = .ok (.dup, 1) := by decide +kernel
theorem dX5_divide_105 : decode cX5_divide 105 = .ok (.getfield 22, 3) := by decide +kernel
theorem dX5_divide_108 : decode cX5_divide 108 = .ok (.iconst 1, 1) := by decide +kernel
theorem dX5_divide_109 : decode cX5_divide 109 = .ok (.iadd, 1) := by decide +kernel
theorem dX5_divide_110 : decode cX5_divide 110 = .ok (.putfield 22, 3) := by decide +kernel
theorem dX5_divide_113 : decode cX5_divide 113 = .ok (.iload_n 3, 1) := by decide +kernel
theorem dX5_divide_114 : decode cX5_divide 114 = .ok (.istore 7, 2) := by decide +kernel
theorem dX5_divide_116 : decode cX5_divide 116 = .ok (.iload 7, 2) := by decide +kernel
theorem dX5_divide_118 : decode cX5_divide 118 = .ok (.ifCond .lt 71, 3) := by decide +kernel
theorem dX5_divide_121 : decode cX5_divide 121 = .ok (.aload_n 0, 1) := by decide +kernel
theorem dX5_divide_122 : decode cX5_divide 122 = .ok (.iload 7, 2) := by decide +kernel
theorem dX5_divide_124 : decode cX5_divide 124 = .ok (.aload_n 1, 1) := by decide +kernel
theorem dX5_divide_125 : decode cX5_divide 125 = .ok (.getfield 22, 3) := by decide +kernel
theorem dX5_divide_128 : decode cX5_divide 128 = .ok (.iadd, 1) := by decide +kernel
theorem dX5_divide_129 : decode cX5_divide 129 = .ok (.iload 4, 2) := by decide +kernel
theorem dX5_divide_131 : decode cX5_divide 131 = .ok (.invokevirtual 70, 3) := by decide +kernel
theorem dX5_divide_134 : decode cX5_divide 134 = .ok (.lstore 8, 2) := by decide +kernel
theorem dX5_divide_136 : decode cX5_divide 136 = .ok (.aload_n 0, 1) := by decide +kernel
theorem dX5_divide_137 : decode cX5_divide 137 = .ok (.iload 7, 2) := by decide +kernel
theorem dX5_divide_139 : decode cX5_divide 139 = .ok (.aload_n 1, 1) := by decide +kernel
theorem dX5_divide_140 : decode cX5_divide 140 = .ok (.getfield 22, 3) := by decide +kernel
theorem dX5_divide_143 : decode cX5_divide 143 = .ok (.iadd, 1) := by decide +kernel
theorem dX5_divide_144 : decode cX5_divide 144 = .ok (.iconst 2, 1) := by decide +kernel
theorem dX5_divide_145 : decode cX5_divide 145 = .ok (.isub, 1) := by decide +kernel
theorem dX5_divide_146 : decode cX5_divide 146 = .ok (.iload 4, 2) := by decide +kernel
theorem dX5_divide_148 : decode cX5_divide 148 = .ok (.invokevirtual 70, 3) := by decide +kernel
theorem dX5_divide_151 : decode cX5_divide 151 = .ok (.bipush 31, 2) := by decide +kernel
theorem dX5_divide_153 : decode cX5_divide 153 = .ok (.lushr, 1) := by decide +kernel
theorem dX5_divide_154 : decode cX5_divide 154 = .ok (.ldc2_w 74, 3) := by decide +kernel
theorem dX5_divide_157 : decode cX5_divide 157 = .ok (.land, 1) := by decide +kernel
theorem dX5_divide_158 : decode cX5_divide 158 = .ok (.lstore 10, 2) := by decide +kernel
theorem dX5_divide_160 : decode cX5_divide 160 = .ok (.aload_n 2, 1) := by decide +kernel
theorem dX5_divide_161 : decode cX5_divide 161 = .ok (.getfield 15, 3) := by decide +kernel
theorem dX5_divide_164 : decode cX5_divide 164 = .ok (.iload 7, 2) := by decide +kernel
theorem dX5_divide_166 : decode cX5_divide 166 = .ok (.aload_n 0, 1) := by decide +kernel
theorem dX5_divide_167 : decode cX5_divide 167 = .ok (.aload_n 1, 1) := by decide +kernel
theorem dX5_divide_168 : decode cX5_divide 168 = .ok (.lload 8, 2) := by decide +kernel
theorem dX5_divide_170 : decode cX5_divide 170 = .ok (.lload 10, 2) := by decide +kernel
theorem dX5_divide_172 : decode cX5_divide 172 = .ok (.lload 5, 2) := by decide +kernel
theorem dX5_divide_174 : decode cX5_divide 174 = .ok (.invokestatic 76, 3) := by decide +kernel
theorem dX5_divide_177 : decode cX5_divide 177 = .ok (.iload 7, 2) := by decide +kernel
theorem dX5_divide_179 : decode cX5_divide 179 = .ok (.invokevirtual 80, 3) := by decide +kernel
theorem dX5_divide_182 : decode cX5_divide 182 = .ok (.iastore, 1) := by decide +kernel
theorem dX5_divide_183 : decode cX5_divide 183 = .ok (.iinc 7 (-1), 3) := by decide +kernel
theorem dX5_divide_186 : decode cX5_divide 186 = .ok (.goto (-70), 3) := by decide +kernel
theorem dX5_divide_189 : decode cX5_divide 189 = .ok (.aload_n 2, 1) := by decide +kernel
theorem dX5_divide_190 : decode cX5_divide 190 = .ok (.iload_n 3, 1) := by decide +kernel
theorem dX5_divide_191 : decode cX5_divide 191 = .ok (.iconst 1, 1) := by decide +kernel
theorem dX5_divide_192 : decode cX5_divide 192 = .ok (.iadd, 1) := by decide +kernel
theorem dX5_divide_193 : decode cX5_divide 193 = .ok (.putfield 22, 3) := by decide +kernel
theorem dX5_divide_196 : decode cX5_divide 196 = .ok (.aload_n 2, 1) := by decide +kernel
theorem dX5_divide_197 : decode cX5_divide 197 = .ok (.invokevirtual 26, 3) := by decide +kernel
theorem dX5_divide_200 : decode cX5_divide 200 = .ok (.aload_n 0, 1) := by decide +kernel
theorem dX5_divide_201 : decode cX5_divide 201 = .ok (.aload_n 1, 1) := by decide +kernel
theorem dX5_divide_202 : decode cX5_divide 202 = .ok (.getfield 22, 3) := by decide +kernel
theorem dX5_divide_205 : decode cX5_divide 205 = .ok (.putfield 22, 3) := by decide +kernel
theorem dX5_divide_208 : decode cX5_divide 208 = .ok (.aload_n 0, 1) := by decide +kernel
theorem dX5_divide_209 : decode cX5_divide 209 = .ok (.invokevirtual 26, 3) := by decide +kernel
theorem dX5_divide_212 : decode cX5_divide 212 = .ok (.return_, 1) := by decide +kernel
theorem dX5_freeBits_0 : decode cX5_freeBits 0 = .ok (.aload_n 0, 1) := by decide +kernel
theorem dX5_freeBits_1 : decode cX5_freeBits 1 = .ok (.getfield 22, 3) := by decide +kernel
theorem dX5_freeBits_4 : decode cX5_freeBits 4 = .ok (.ifCond .ne 7, 3) := by decide +kernel
theorem dX5_freeBits_7 : decode cX5_freeBits 7 = .ok (.iconst 0, 1) := by decide +kernel
theorem dX5_freeBits_8 : decode cX5_freeBits 8 = .ok (.goto 19, 3) := by decide +kernel
theorem dX5_freeBits_11 : decode cX5_freeBits 11 = .ok (.aload_n 0, 1) := by decide +kernel
theorem dX5_freeBits_12 : decode cX5_freeBits 12 = .ok (.getfield 15, 3) := by decide +kernel
theorem dX5_freeBits_15 : decode cX5_freeBits 15 = .ok (.aload_n 0, 1) := by decide +kernel
theorem dX5_freeBits_16 : decode cX5_freeBits 16 = .ok (.getfield 22, 3) := by decide +kernel
theorem dX5_freeBits_19 : decode cX5_freeBits 19 = .ok (.iconst 1, 1) := by decide +kernel
theorem dX5_freeBits_20 : decode cX5_freeBits 20 = .ok (.isub, 1) := by decide +kernel
theorem dX5_freeBits_21 : decode cX5_freeBits 21 = .ok (.iaload, 1) := by decide +kernel
theorem dX5_freeBits_22 : decode cX5_freeBits 22 = .ok (.invokestatic 46, 3) := by decide +kernel
theorem dX5_freeBits_25 : decode cX5_freeBits 25 = .ok (.iconst 1, 1) := by decide +kernel
theorem dX5_freeBits_26 : decode cX5_freeBits 26 = .ok (.isub, 1) := by decide +kernel
theorem dX5_freeBits_27 : decode cX5_freeBits 27 = .ok (.ireturn, 1) := by decide +kernel
theorem dX5_twoLimbs_0 : decode cX5_twoLimbs 0 = .ok (.aload_n 0, 1) := by decide +kernel
theorem dX5_twoLimbs_1 : decode cX5_twoLimbs 1 = .ok (.iload_n 1, 1) := by decide +kernel
theorem dX5_twoLimbs_2 : decode cX5_twoLimbs 2 = .ok (.invokevirtual 42, 3) := by decide +kernel
theorem dX5_twoLimbs_5 : decode cX5_twoLimbs 5 = .ok (.bipush 31, 2) := by decide +kernel
theorem dX5_twoLimbs_7 : decode cX5_twoLimbs 7 = .ok (.iload_n 2, 1) := by decide +kernel
theorem dX5_twoLimbs_8 : decode cX5_twoLimbs 8 = .ok (.iadd, 1) := by decide +kernel
theorem dX5_twoLimbs_9 : decode cX5_twoLimbs 9 = .ok (.lshl, 1) := by decide +kernel
theorem dX5_twoLimbs_10 : decode cX5_twoLimbs 10 = .ok (.aload_n 0, 1) := by decide +kernel
theorem dX5_twoLimbs_11 : decode cX5_twoLimbs 11 = .ok (.iload_n 1, 1) := by decide +kernel
theorem dX5_twoLimbs_12 : decode cX5_twoLimbs 12 = .ok (.iconst 1, 1) := by decide +kernel
theorem dX5_twoLimbs_13 : decode cX5_twoLimbs 13 = .ok (.isub, 1) := by decide +kernel
theorem dX5_twoLimbs_14 : decode cX5_twoLimbs 14 = .ok (.invokevirtual 42, 3) := by decide +kernel
theorem dX5_twoLimbs_17 : decode cX5_twoLimbs 17 = .ok (.iload_n 2, 1) := by decide +kernel
theorem dX5_twoLimbs_18 : decode cX5_twoLimbs 18 = .ok (.lshl, 1) := by decide +kernel
theorem dX5_twoLimbs_19 : decode cX5_twoLimbs 19 = .ok (.lor, 1) := by decide +kernel
theorem dX5_twoLimbs_20 : decode cX5_twoLimbs 20 = .ok (.aload_n 0, 1) := by decide +kernel
theorem dX5_twoLimbs_21 : decode cX5_twoLimbs 21 = .ok (.iload_n 1, 1) := by decide +kernel
theorem dX5_twoLimbs_22 : decode cX5_twoLimbs 22 = .ok (.iconst 2, 1) := by decide +kernel
theorem dX5_twoLimbs_23 : decode cX5_twoLimbs 23 = .ok (.isub, 1) := by decide +kernel
theorem dX5_twoLimbs_24 : decode cX5_twoLimbs 24 = .ok (.invokevirtual 42, 3) := by decide +kernel
theorem dX5_twoLimbs_27 : decode cX5_twoLimbs 27 = .ok (.bipush 31, 2) := by decide +kernel
theorem dX5_twoLimbs_29 : decode cX5_twoLimbs 29 = .ok (.iload_n 2, 1) := by decide +kernel
theorem dX5_twoLimbs_30 : decode cX5_twoLimbs 30 = .ok (.isub, 1) := by decide +kernel
theorem dX5_twoLimbs_31 : decode cX5_twoLimbs 31 = .ok (.lushr, 1) := by decide +kernel
theorem dX5_twoLimbs_32 : decode cX5_twoLimbs 32 = .ok (.lor, 1) := by decide +kernel
theorem dX5_twoLimbs_33 : decode cX5_twoLimbs 33 = .ok (.ldc2_w 84, 3) := by decide +kernel
theorem dX5_twoLimbs_36 : decode cX5_twoLimbs 36 = .ok (.land, 1) := by decide +kernel
theorem dX5_twoLimbs_37 : decode cX5_twoLimbs 37 = .ok (.lreturn, 1) := by decide +kernel
theorem dX5_guess_0 : decode cX5_guess 0 = .ok (.lload 4, 2) := by decide +kernel
theorem dX5_guess_2 : decode cX5_guess 2 = .ok (.bipush 31, 2) := by decide +kernel
theorem dX5_guess_4 : decode cX5_guess 4 = .ok (.lushr, 1) := by decide +kernel
theorem dX5_guess_5 : decode cX5_guess 5 = .ok (.lstore 6, 2) := by decide +kernel
theorem dX5_guess_7 : decode cX5_guess 7 = .ok (.lload 4, 2) := by decide +kernel
theorem dX5_guess_9 : decode cX5_guess 9 = .ok (.ldc2_w 74, 3) := by decide +kernel
theorem dX5_guess_12 : decode cX5_guess 12 = .ok (.land, 1) := by decide +kernel
theorem dX5_guess_13 : decode cX5_guess 13 = .ok (.lstore 8, 2) := by decide +kernel
theorem dX5_guess_15 : decode cX5_guess 15 = .ok (.lload 6, 2) := by decide +kernel
theorem dX5_guess_17 : decode cX5_guess 17 = .ok (.lconst 0, 1) := by decide +kernel
theorem dX5_guess_18 : decode cX5_guess 18 = .ok (.lcmp, 1) := by decide +kernel
theorem dX5_guess_19 : decode cX5_guess 19 = .ok (.ifCond .ne 5, 3) := by decide +kernel
theorem dX5_guess_22 : decode cX5_guess 22 = .ok (.lconst 0, 1) := by decide +kernel
theorem dX5_guess_23 : decode cX5_guess 23 = .ok (.lreturn, 1) := by decide +kernel
theorem dX5_guess_24 : decode cX5_guess 24 = .ok (.lload_n 0, 1) := by decide +kernel
theorem dX5_guess_25 : decode cX5_guess 25 = .ok (.lload 6, 2) := by decide +kernel
theorem dX5_guess_27 : decode cX5_guess 27 = .ok (.ldiv, 1) := by decide +kernel
theorem dX5_guess_28 : decode cX5_guess 28 = .ok (.ldc2_w 74, 3) := by decide +kernel
theorem dX5_guess_31 : decode cX5_guess 31 = .ok (.invokestatic 86, 3) := by decide +kernel
theorem dX5_guess_34 : decode cX5_guess 34 = .ok (.lstore 10, 2) := by decide +kernel
theorem dX5_guess_36 : decode cX5_guess 36 = .ok (.lload_n 0, 1) := by decide +kernel
theorem dX5_guess_37 : decode cX5_guess 37 = .ok (.lload 10, 2) := by decide +kernel
theorem dX5_guess_39 : decode cX5_guess 39 = .ok (.lload 6, 2) := by decide +kernel
theorem dX5_guess_41 : decode cX5_guess 41 = .ok (.lmul, 1) := by decide +kernel
theorem dX5_guess_42 : decode cX5_guess 42 = .ok (.lsub, 1) := by decide +kernel
theorem dX5_guess_43 : decode cX5_guess 43 = .ok (.lstore 12, 2) := by decide +kernel
theorem dX5_guess_45 : decode cX5_guess 45 = .ok (.lload 12, 2) := by decide +kernel
theorem dX5_guess_47 : decode cX5_guess 47 = .ok (.ldc2_w 74, 3) := by decide +kernel
theorem dX5_guess_50 : decode cX5_guess 50 = .ok (.lcmp, 1) := by decide +kernel
theorem dX5_guess_51 : decode cX5_guess 51 = .ok (.ifCond .gt 26, 3) := by decide +kernel
theorem dX5_guess_54 : decode cX5_guess 54 = .ok (.lload 10, 2) := by decide +kernel
theorem dX5_guess_56 : decode cX5_guess 56 = .ok (.lload 8, 2) := by decide +kernel
theorem dX5_guess_58 : decode cX5_guess 58 = .ok (.lmul, 1) := by decide +kernel
theorem dX5_guess_59 : decode cX5_guess 59 = .ok (.lload 12, 2) := by decide +kernel
theorem dX5_guess_61 : decode cX5_guess 61 = .ok (.bipush 31, 2) := by decide +kernel
theorem dX5_guess_63 : decode cX5_guess 63 = .ok (.lshl, 1) := by decide +kernel
theorem dX5_guess_64 : decode cX5_guess 64 = .ok (.lload_n 2, 1) := by decide +kernel
theorem dX5_guess_65 : decode cX5_guess 65 = .ok (.lor, 1) := by decide +kernel
theorem dX5_guess_66 : decode cX5_guess 66 = .ok (.lcmp, 1) := by decide +kernel
theorem dX5_guess_67 : decode cX5_guess 67 = .ok (.ifCond .le 10, 3) := by decide +kernel
theorem dX5_guess_70 : decode cX5_guess 70 = .ok (.lload 10, 2) := by decide +kernel
theorem dX5_guess_72 : decode cX5_guess 72 = .ok (.lconst 1, 1) := by decide +kernel
theorem dX5_guess_73 : decode cX5_guess 73 = .ok (.lsub, 1) := by decide +kernel
theorem dX5_guess_74 : decode cX5_guess 74 = .ok (.goto 5, 3) := by decide +kernel
theorem dX5_guess_77 : decode cX5_guess 77 = .ok (.lload 10, 2) := by decide +kernel
theorem dX5_guess_79 : decode cX5_guess 79 = .ok (.lreturn, 1) := by decide +kernel
theorem dX5_takeAway_0 : decode cX5_takeAway 0 = .ok (.lload_n 2, 1) := by decide +kernel
theorem dX5_takeAway_1 : decode cX5_takeAway 1 = .ok (.lconst 0, 1) := by decide +kernel
theorem dX5_takeAway_2 : decode cX5_takeAway 2 = .ok (.lcmp, 1) := by decide +kernel
theorem dX5_takeAway_3 : decode cX5_takeAway 3 = .ok (.ifCond .ne 5, 3) := by decide +kernel
theorem dX5_takeAway_6 : decode cX5_takeAway 6 = .ok (.iconst 0, 1) := by decide +kernel
theorem dX5_takeAway_7 : decode cX5_takeAway 7 = .ok (.ireturn, 1) := by decide +kernel
theorem dX5_takeAway_8 : decode cX5_takeAway 8 = .ok (.lconst 0, 1) := by decide +kernel
theorem dX5_takeAway_9 : decode cX5_takeAway 9 = .ok (.lstore 5, 2) := by decide +kernel
theorem dX5_takeAway_11 : decode cX5_takeAway 11 = .ok (.iconst 0, 1) := by decide +kernel
theorem dX5_takeAway_12 : decode cX5_takeAway 12 = .ok (.istore 7, 2) := by decide +kernel
theorem dX5_takeAway_14 : decode cX5_takeAway 14 = .ok (.iload 7, 2) := by decide +kernel
theorem dX5_takeAway_16 : decode cX5_takeAway 16 = .ok (.aload_n 1, 1) := by decide +kernel
theorem dX5_takeAway_17 : decode cX5_takeAway 17 = .ok (.getfield 22, 3) := by decide +kernel
theorem dX5_takeAway_20 : decode cX5_takeAway 20 = .ok (.if_icmp .ge 76, 3) := by decide +kernel
theorem dX5_takeAway_23 : decode cX5_takeAway 23 = .ok (.lload 5, 2) := by decide +kernel
theorem dX5_takeAway_25 : decode cX5_takeAway 25 = .ok (.lload_n 2, 1) := by decide +kernel
theorem dX5_takeAway_26 : decode cX5_takeAway 26 = .ok (.aload_n 1, 1) := by decide +kernel
theorem dX5_takeAway_27 : decode cX5_takeAway 27 = .ok (.getfield 15, 3) := by decide +kernel
theorem dX5_takeAway_30 : decode cX5_takeAway 30 = .ok (.iload 7, 2) := by decide +kernel
theorem dX5_takeAway_32 : decode cX5_takeAway 32 = .ok (.iaload, 1) := by decide +kernel
theorem dX5_takeAway_33 : decode cX5_takeAway 33 = .ok (.i2l, 1) := by decide +kernel
theorem dX5_takeAway_34 : decode cX5_takeAway 34 = .ok (.lmul, 1) := by decide +kernel
theorem dX5_takeAway_35 : decode cX5_takeAway 35 = .ok (.ladd, 1) := by decide +kernel
theorem dX5_takeAway_36 : decode cX5_takeAway 36 = .ok (.lstore 5, 2) := by decide +kernel
theorem dX5_takeAway_38 : decode cX5_takeAway 38 = .ok (.aload_n 0, 1) := by decide +kernel
theorem dX5_takeAway_39 : decode cX5_takeAway 39 = .ok (.getfield 15, 3) := by decide +kernel
theorem dX5_takeAway_42 : decode cX5_takeAway 42 = .ok (.iload 4, 2) := by decide +kernel
theorem dX5_takeAway_44 : decode cX5_takeAway 44 = .ok (.iload 7, 2) := by decide +kernel
theorem dX5_takeAway_46 : decode cX5_takeAway 46 = .ok (.iadd, 1) := by decide +kernel
theorem dX5_takeAway_47 : decode cX5_takeAway 47 = .ok (.iaload, 1) := by decide +kernel
theorem dX5_takeAway_48 : decode cX5_takeAway 48 = .ok (.lload 5, 2) := by decide +kernel
theorem dX5_takeAway_50 : decode cX5_takeAway 50 = .ok (.l2i, 1) := by decide +kernel
theorem dX5_takeAway_51 : decode cX5_takeAway 51 = .ok (.ldc 21, 2) := by decide +kernel
theorem dX5_takeAway_53 : decode cX5_takeAway 53 = .ok (.iand, 1) := by decide +kernel
theorem dX5_takeAway_54 : decode cX5_takeAway 54 = .ok (.isub, 1) := by decide +kernel
theorem dX5_takeAway_55 : decode cX5_takeAway 55 = .ok (.istore 8, 2) := by decide +kernel
theorem dX5_takeAway_57 : decode cX5_takeAway 57 = .ok (.lload 5, 2) := by decide +kernel
theorem dX5_takeAway_59 : decode cX5_takeAway 59 = .ok (.bipush 31, 2) := by decide +kernel
theorem dX5_takeAway_61 : decode cX5_takeAway 61 = .ok (.lushr, 1) := by decide +kernel
theorem dX5_takeAway_62 : decode cX5_takeAway 62 = .ok (.lstore 5, 2) := by decide +kernel
theorem dX5_takeAway_64 : decode cX5_takeAway 64 = .ok (.iload 8, 2) := by decide +kernel
theorem dX5_takeAway_66 : decode cX5_takeAway 66 = .ok (.ifCond .ge 9, 3) := by decide +kernel
theorem dX5_takeAway_69 : decode cX5_takeAway 69 = .ok (.lload 5, 2) := by decide +kernel
theorem dX5_takeAway_71 : decode cX5_takeAway 71 = .ok (.lconst 1, 1) := by decide +kernel
theorem dX5_takeAway_72 : decode cX5_takeAway 72 = .ok (.ladd, 1) := by decide +kernel
theorem dX5_takeAway_73 : decode cX5_takeAway 73 = .ok (.lstore 5, 2) := by decide +kernel
theorem dX5_takeAway_75 : decode cX5_takeAway 75 = .ok (.aload_n 0, 1) := by decide +kernel
theorem dX5_takeAway_76 : decode cX5_takeAway 76 = .ok (.getfield 15, 3) := by decide +kernel
theorem dX5_takeAway_79 : decode cX5_takeAway 79 = .ok (.iload 4, 2) := by decide +kernel
theorem dX5_takeAway_81 : decode cX5_takeAway 81 = .ok (.iload 7, 2) := by decide +kernel
theorem dX5_takeAway_83 : decode cX5_takeAway 83 = .ok (.iadd, 1) := by decide +kernel
theorem dX5_takeAway_84 : decode cX5_takeAway 84 = .ok (.iload 8, 2) := by decide +kernel
theorem dX5_takeAway_86 : decode cX5_takeAway 86 = .ok (.ldc 21, 2) := by decide +kernel
theorem dX5_takeAway_88 : decode cX5_takeAway 88 = .ok (.iand, 1) := by decide +kernel
theorem dX5_takeAway_89 : decode cX5_takeAway 89 = .ok (.iastore, 1) := by decide +kernel
theorem dX5_takeAway_90 : decode cX5_takeAway 90 = .ok (.iinc 7 1, 3) := by decide +kernel
theorem dX5_takeAway_93 : decode cX5_takeAway 93 = .ok (.goto (-79), 3) := by decide +kernel
theorem dX5_takeAway_96 : decode cX5_takeAway 96 = .ok (.aload_n 0, 1) := by decide +kernel
theorem dX5_takeAway_97 : decode cX5_takeAway 97 = .ok (.getfield 15, 3) := by decide +kernel
theorem dX5_takeAway_100 : decode cX5_takeAway 100 = .ok (.iload 4, 2) := by decide +kernel
theorem dX5_takeAway_102 : decode cX5_takeAway 102 = .ok (.aload_n 1, 1) := by decide +kernel
theorem dX5_takeAway_103 : decode cX5_takeAway 103 = .ok (.getfield 22, 3) := by decide +kernel
theorem dX5_takeAway_106 : decode cX5_takeAway 106 = .ok (.iadd, 1) := by decide +kernel
theorem dX5_takeAway_107 : decode cX5_takeAway 107 = .ok (.iaload, 1) := by decide +kernel
theorem dX5_takeAway_108 : decode cX5_takeAway 108 = .ok (.i2l, 1) := by decide +kernel
theorem dX5_takeAway_109 : decode cX5_takeAway 109 = .ok (.lload 5, 2) := by decide +kernel
theorem dX5_takeAway_111 : decode cX5_takeAway 111 = .ok (.lcmp, 1) := by decide +kernel
theorem dX5_takeAway_112 : decode cX5_takeAway 112 = .ok (.ifCond .ge 15, 3) := by decide +kernel
theorem dX5_takeAway_115 : decode cX5_takeAway 115 = .ok (.aload_n 0, 1) := by decide +kernel
theorem dX5_takeAway_116 : decode cX5_takeAway 116 = .ok (.aload_n 1, 1) := by decide +kernel
theorem dX5_takeAway_117 : decode cX5_takeAway 117 = .ok (.iload 4, 2) := by decide +kernel
theorem dX5_takeAway_119 : decode cX5_takeAway 119 = .ok (.invokevirtual 90, 3) := by decide +kernel
theorem dX5_takeAway_122 : decode cX5_takeAway 122 = .ok (.lload_n 2, 1) := by decide +kernel
theorem dX5_takeAway_123 : decode cX5_takeAway 123 = .ok (.l2i, 1) := by decide +kernel
theorem dX5_takeAway_124 : decode cX5_takeAway 124 = .ok (.iconst 1, 1) := by decide +kernel
theorem dX5_takeAway_125 : decode cX5_takeAway 125 = .ok (.isub, 1) := by decide +kernel
theorem dX5_takeAway_126 : decode cX5_takeAway 126 = .ok (.ireturn, 1) := by decide +kernel
theorem dX5_takeAway_127 : decode cX5_takeAway 127 = .ok (.lload_n 2, 1) := by decide +kernel
theorem dX5_takeAway_128 : decode cX5_takeAway 128 = .ok (.l2i, 1) := by decide +kernel
theorem dX5_takeAway_129 : decode cX5_takeAway 129 = .ok (.ireturn, 1) := by decide +kernel
theorem dX5_giveBack_0 : decode cX5_giveBack 0 = .ok (.lconst 0, 1) := by decide +kernel
theorem dX5_giveBack_1 : decode cX5_giveBack 1 = .ok (.lstore_n 3, 1) := by decide +kernel
theorem dX5_giveBack_2 : decode cX5_giveBack 2 = .ok (.iconst 0, 1) := by decide +kernel
theorem dX5_giveBack_3 : decode cX5_giveBack 3 = .ok (.istore 5, 2) := by decide +kernel
theorem dX5_giveBack_5 : decode cX5_giveBack 5 = .ok (.iload 5, 2) := by decide +kernel
theorem dX5_giveBack_7 : decode cX5_giveBack 7 = .ok (.aload_n 1, 1) := by decide +kernel
theorem dX5_giveBack_8 : decode cX5_giveBack 8 = .ok (.getfield 22, 3) := by decide +kernel
theorem dX5_giveBack_11 : decode cX5_giveBack 11 = .ok (.if_icmp .ge 50, 3) := by decide +kernel
theorem dX5_giveBack_14 : decode cX5_giveBack 14 = .ok (.lload_n 3, 1) := by decide +kernel
theorem dX5_giveBack_15 : decode cX5_giveBack 15 = .ok (.aload_n 0, 1) := by decide +kernel
theorem dX5_giveBack_16 : decode cX5_giveBack 16 = .ok (.getfield 15, 3) := by decide +kernel
theorem dX5_giveBack_19 : decode cX5_giveBack 19 = .ok (.iload_n 2, 1) := by decide +kernel
theorem dX5_giveBack_20 : decode cX5_giveBack 20 = .ok (.iload 5, 2) := by decide +kernel
theorem dX5_giveBack_22 : decode cX5_giveBack 22 = .ok (.iadd, 1) := by decide +kernel
theorem dX5_giveBack_23 : decode cX5_giveBack 23 = .ok (.iaload, 1) := by decide +kernel
theorem dX5_giveBack_24 : decode cX5_giveBack 24 = .ok (.i2l, 1) := by decide +kernel
theorem dX5_giveBack_25 : decode cX5_giveBack 25 = .ok (.aload_n 1, 1) := by decide +kernel
theorem dX5_giveBack_26 : decode cX5_giveBack 26 = .ok (.getfield 15, 3) := by decide +kernel
theorem dX5_giveBack_29 : decode cX5_giveBack 29 = .ok (.iload 5, 2) := by decide +kernel
theorem dX5_giveBack_31 : decode cX5_giveBack 31 = .ok (.iaload, 1) := by decide +kernel
theorem dX5_giveBack_32 : decode cX5_giveBack 32 = .ok (.i2l, 1) := by decide +kernel
theorem dX5_giveBack_33 : decode cX5_giveBack 33 = .ok (.ladd, 1) := by decide +kernel
theorem dX5_giveBack_34 : decode cX5_giveBack 34 = .ok (.ladd, 1) := by decide +kernel
theorem dX5_giveBack_35 : decode cX5_giveBack 35 = .ok (.lstore_n 3, 1) := by decide +kernel
theorem dX5_giveBack_36 : decode cX5_giveBack 36 = .ok (.aload_n 0, 1) := by decide +kernel
theorem dX5_giveBack_37 : decode cX5_giveBack 37 = .ok (.getfield 15, 3) := by decide +kernel
theorem dX5_giveBack_40 : decode cX5_giveBack 40 = .ok (.iload_n 2, 1) := by decide +kernel
theorem dX5_giveBack_41 : decode cX5_giveBack 41 = .ok (.iload 5, 2) := by decide +kernel
theorem dX5_giveBack_43 : decode cX5_giveBack 43 = .ok (.iadd, 1) := by decide +kernel
theorem dX5_giveBack_44 : decode cX5_giveBack 44 = .ok (.lload_n 3, 1) := by decide +kernel
theorem dX5_giveBack_45 : decode cX5_giveBack 45 = .ok (.l2i, 1) := by decide +kernel
theorem dX5_giveBack_46 : decode cX5_giveBack 46 = .ok (.ldc 21, 2) := by decide +kernel
theorem dX5_giveBack_48 : decode cX5_giveBack 48 = .ok (.iand, 1) := by decide +kernel
theorem dX5_giveBack_49 : decode cX5_giveBack 49 = .ok (.iastore, 1) := by decide +kernel
theorem dX5_giveBack_50 : decode cX5_giveBack 50 = .ok (.lload_n 3, 1) := by decide +kernel
theorem dX5_giveBack_51 : decode cX5_giveBack 51 = .ok (.bipush 31, 2) := by decide +kernel
theorem dX5_giveBack_53 : decode cX5_giveBack 53 = .ok (.lushr, 1) := by decide +kernel
theorem dX5_giveBack_54 : decode cX5_giveBack 54 = .ok (.lstore_n 3, 1) := by decide +kernel
theorem dX5_giveBack_55 : decode cX5_giveBack 55 = .ok (.iinc 5 1, 3) := by decide +kernel
theorem dX5_giveBack_58 : decode cX5_giveBack 58 = .ok (.goto (-53), 3) := by decide +kernel
theorem dX5_giveBack_61 : decode cX5_giveBack 61 = .ok (.return_, 1) := by decide +kernel
