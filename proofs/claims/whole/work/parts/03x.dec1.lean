theorem d_0_0 : decode (mB 0) 0 = .ok (.aload_n 0, 1) := by decide +kernel
theorem d_0_1 : decode (mB 0) 1 = .ok (.invokespecial 1, 3) := by decide +kernel
theorem d_0_4 : decode (mB 0) 4 = .ok (.aload_n 0, 1) := by decide +kernel
theorem d_0_5 : decode (mB 0) 5 = .ok (.iload_n 1, 1) := by decide +kernel
theorem d_0_6 : decode (mB 0) 6 = .ok (.putfield 7, 3) := by decide +kernel
theorem d_0_9 : decode (mB 0) 9 = .ok (.aload_n 0, 1) := by decide +kernel
theorem d_0_10 : decode (mB 0) 10 = .ok (.iload_n 2, 1) := by decide +kernel
theorem d_0_11 : decode (mB 0) 11 = .ok (.putfield 13, 3) := by decide +kernel
theorem d_0_14 : decode (mB 0) 14 = .ok (.aload_n 0, 1) := by decide +kernel
theorem d_0_15 : decode (mB 0) 15 = .ok (.iload_n 3, 1) := by decide +kernel
theorem d_0_16 : decode (mB 0) 16 = .ok (.putfield 16, 3) := by decide +kernel
theorem d_0_19 : decode (mB 0) 19 = .ok (.return_, 1) := by decide +kernel
theorem d_1_0 : decode (mB 1) 0 = .ok (.aload_n 0, 1) := by decide +kernel
theorem d_1_1 : decode (mB 1) 1 = .ok (.invokespecial 3, 3) := by decide +kernel
theorem d_1_4 : decode (mB 1) 4 = .ok (.aload_n 0, 1) := by decide +kernel
theorem d_1_5 : decode (mB 1) 5 = .ok (.bipush 40, 2) := by decide +kernel
theorem d_1_7 : decode (mB 1) 7 = .ok (.anewarray 9, 3) := by decide +kernel
theorem d_1_10 : decode (mB 1) 10 = .ok (.putfield 11, 3) := by decide +kernel
theorem d_1_13 : decode (mB 1) 13 = .ok (.aload_n 0, 1) := by decide +kernel
theorem d_1_14 : decode (mB 1) 14 = .ok (.bipush 40, 2) := by decide +kernel
theorem d_1_16 : decode (mB 1) 16 = .ok (.anewarray 17, 3) := by decide +kernel
theorem d_1_19 : decode (mB 1) 19 = .ok (.putfield 19, 3) := by decide +kernel
theorem d_1_22 : decode (mB 1) 22 = .ok (.return_, 1) := by decide +kernel
theorem d_2_0 : decode (mB 2) 0 = .ok (.aload_n 0, 1) := by decide +kernel
theorem d_2_1 : decode (mB 2) 1 = .ok (.getfield 23, 3) := by decide +kernel
theorem d_2_4 : decode (mB 2) 4 = .ok (.aload_n 0, 1) := by decide +kernel
theorem d_2_5 : decode (mB 2) 5 = .ok (.getfield 11, 3) := by decide +kernel
theorem d_2_8 : decode (mB 2) 8 = .ok (.arraylength, 1) := by decide +kernel
theorem d_2_9 : decode (mB 2) 9 = .ok (.if_icmp .ge 23, 3) := by decide +kernel
theorem d_2_12 : decode (mB 2) 12 = .ok (.aload_n 0, 1) := by decide +kernel
theorem d_2_13 : decode (mB 2) 13 = .ok (.getfield 11, 3) := by decide +kernel
theorem d_2_16 : decode (mB 2) 16 = .ok (.aload_n 0, 1) := by decide +kernel
theorem d_2_17 : decode (mB 2) 17 = .ok (.getfield 23, 3) := by decide +kernel
theorem d_2_20 : decode (mB 2) 20 = .ok (.aload_n 1, 1) := by decide +kernel
theorem d_2_21 : decode (mB 2) 21 = .ok (.aastore, 1) := by decide +kernel
theorem d_2_22 : decode (mB 2) 22 = .ok (.aload_n 0, 1) := by decide +kernel
theorem d_2_23 : decode (mB 2) 23 = .ok (.dup, 1) := by decide +kernel
theorem d_2_24 : decode (mB 2) 24 = .ok (.getfield 23, 3) := by decide +kernel
theorem d_2_27 : decode (mB 2) 27 = .ok (.iconst 1, 1) := by decide +kernel
theorem d_2_28 : decode (mB 2) 28 = .ok (.iadd, 1) := by decide +kernel
theorem d_2_29 : decode (mB 2) 29 = .ok (.putfield 23, 3) := by decide +kernel
theorem d_2_32 : decode (mB 2) 32 = .ok (.return_, 1) := by decide +kernel
theorem d_3_0 : decode (mB 3) 0 = .ok (.aload_n 2, 1) := by decide +kernel
theorem d_3_1 : decode (mB 3) 1 = .ok (.getfield 27, 3) := by decide +kernel
theorem d_3_4 : decode (mB 3) 4 = .ok (.iconst 3, 1) := by decide +kernel
theorem d_3_5 : decode (mB 3) 5 = .ok (.if_icmp .eq 11, 3) := by decide +kernel
theorem d_3_8 : decode (mB 3) 8 = .ok (.aload_n 2, 1) := by decide +kernel
theorem d_3_9 : decode (mB 3) 9 = .ok (.getfield 27, 3) := by decide +kernel
theorem d_3_12 : decode (mB 3) 12 = .ok (.iconst 4, 1) := by decide +kernel
theorem d_3_13 : decode (mB 3) 13 = .ok (.if_icmp .ne 6, 3) := by decide +kernel
theorem d_3_16 : decode (mB 3) 16 = .ok (.bipush 6, 2) := by decide +kernel
theorem d_3_18 : decode (mB 3) 18 = .ok (.ireturn, 1) := by decide +kernel
theorem d_3_19 : decode (mB 3) 19 = .ok (.iload_n 1, 1) := by decide +kernel
theorem d_3_20 : decode (mB 3) 20 = .ok (.iconst 1, 1) := by decide +kernel
theorem d_3_21 : decode (mB 3) 21 = .ok (.if_icmp .lt 23, 3) := by decide +kernel
theorem d_3_24 : decode (mB 3) 24 = .ok (.iload_n 1, 1) := by decide +kernel
theorem d_3_25 : decode (mB 3) 25 = .ok (.aload_n 0, 1) := by decide +kernel
theorem d_3_26 : decode (mB 3) 26 = .ok (.getfield 19, 3) := by decide +kernel
theorem d_3_29 : decode (mB 3) 29 = .ok (.arraylength, 1) := by decide +kernel
theorem d_3_30 : decode (mB 3) 30 = .ok (.if_icmp .gt 14, 3) := by decide +kernel
theorem d_3_33 : decode (mB 3) 33 = .ok (.aload_n 0, 1) := by decide +kernel
theorem d_3_34 : decode (mB 3) 34 = .ok (.getfield 19, 3) := by decide +kernel
theorem d_3_37 : decode (mB 3) 37 = .ok (.iload_n 1, 1) := by decide +kernel
theorem d_3_38 : decode (mB 3) 38 = .ok (.iconst 1, 1) := by decide +kernel
theorem d_3_39 : decode (mB 3) 39 = .ok (.isub, 1) := by decide +kernel
theorem d_3_40 : decode (mB 3) 40 = .ok (.aaload, 1) := by decide +kernel
theorem d_3_41 : decode (mB 3) 41 = .ok (.ifnull 5, 3) := by decide +kernel
theorem d_3_44 : decode (mB 3) 44 = .ok (.iconst 5, 1) := by decide +kernel
theorem d_3_45 : decode (mB 3) 45 = .ok (.ireturn, 1) := by decide +kernel
theorem d_3_46 : decode (mB 3) 46 = .ok (.aload_n 0, 1) := by decide +kernel
theorem d_3_47 : decode (mB 3) 47 = .ok (.getfield 19, 3) := by decide +kernel
theorem d_3_50 : decode (mB 3) 50 = .ok (.iload_n 1, 1) := by decide +kernel
theorem d_3_51 : decode (mB 3) 51 = .ok (.iconst 1, 1) := by decide +kernel
theorem d_3_52 : decode (mB 3) 52 = .ok (.isub, 1) := by decide +kernel
theorem d_3_53 : decode (mB 3) 53 = .ok (.aload_n 2, 1) := by decide +kernel
theorem d_3_54 : decode (mB 3) 54 = .ok (.aastore, 1) := by decide +kernel
theorem d_3_55 : decode (mB 3) 55 = .ok (.iconst 4, 1) := by decide +kernel
theorem d_3_56 : decode (mB 3) 56 = .ok (.ireturn, 1) := by decide +kernel
theorem d_4_0 : decode (mB 4) 0 = .ok (.iconst 0, 1) := by decide +kernel
theorem d_4_1 : decode (mB 4) 1 = .ok (.istore_n 1, 1) := by decide +kernel
theorem d_4_2 : decode (mB 4) 2 = .ok (.iload_n 1, 1) := by decide +kernel
theorem d_4_3 : decode (mB 4) 3 = .ok (.aload_n 0, 1) := by decide +kernel
theorem d_4_4 : decode (mB 4) 4 = .ok (.getfield 23, 3) := by decide +kernel
theorem d_4_7 : decode (mB 4) 7 = .ok (.if_icmp .ge 22, 3) := by decide +kernel
theorem d_4_10 : decode (mB 4) 10 = .ok (.aload_n 0, 1) := by decide +kernel
theorem d_4_11 : decode (mB 4) 11 = .ok (.getfield 19, 3) := by decide +kernel
theorem d_4_14 : decode (mB 4) 14 = .ok (.iload_n 1, 1) := by decide +kernel
theorem d_4_15 : decode (mB 4) 15 = .ok (.aaload, 1) := by decide +kernel
theorem d_4_16 : decode (mB 4) 16 = .ok (.ifnonnull 7, 3) := by decide +kernel
theorem d_4_19 : decode (mB 4) 19 = .ok (.iload_n 1, 1) := by decide +kernel
theorem d_4_20 : decode (mB 4) 20 = .ok (.iconst 1, 1) := by decide +kernel
theorem d_4_21 : decode (mB 4) 21 = .ok (.iadd, 1) := by decide +kernel
theorem d_4_22 : decode (mB 4) 22 = .ok (.ireturn, 1) := by decide +kernel
theorem d_4_23 : decode (mB 4) 23 = .ok (.iinc 1 1, 3) := by decide +kernel
theorem d_4_26 : decode (mB 4) 26 = .ok (.goto (-24), 3) := by decide +kernel
theorem d_4_29 : decode (mB 4) 29 = .ok (.aload_n 0, 1) := by decide +kernel
theorem d_4_30 : decode (mB 4) 30 = .ok (.getfield 23, 3) := by decide +kernel
theorem d_4_33 : decode (mB 4) 33 = .ok (.iconst 1, 1) := by decide +kernel
theorem d_4_34 : decode (mB 4) 34 = .ok (.iadd, 1) := by decide +kernel
theorem d_4_35 : decode (mB 4) 35 = .ok (.ireturn, 1) := by decide +kernel
theorem d_5_0 : decode (mB 5) 0 = .ok (.aload_n 0, 1) := by decide +kernel
theorem d_5_1 : decode (mB 5) 1 = .ok (.invokespecial 3, 3) := by decide +kernel
theorem d_5_4 : decode (mB 5) 4 = .ok (.aload_n 0, 1) := by decide +kernel
theorem d_5_5 : decode (mB 5) 5 = .ok (.bipush 8, 2) := by decide +kernel
theorem d_5_7 : decode (mB 5) 7 = .ok (.newarray .int, 2) := by decide +kernel
theorem d_5_9 : decode (mB 5) 9 = .ok (.putfield 9, 3) := by decide +kernel
theorem d_5_12 : decode (mB 5) 12 = .ok (.aload_n 0, 1) := by decide +kernel
theorem d_5_13 : decode (mB 5) 13 = .ok (.new 15, 3) := by decide +kernel
theorem d_5_16 : decode (mB 5) 16 = .ok (.dup, 1) := by decide +kernel
theorem d_5_17 : decode (mB 5) 17 = .ok (.invokespecial 17, 3) := by decide +kernel
theorem d_5_20 : decode (mB 5) 20 = .ok (.putfield 18, 3) := by decide +kernel
theorem d_5_23 : decode (mB 5) 23 = .ok (.aload_n 0, 1) := by decide +kernel
theorem d_5_24 : decode (mB 5) 24 = .ok (.new 22, 3) := by decide +kernel
theorem d_5_27 : decode (mB 5) 27 = .ok (.dup, 1) := by decide +kernel
theorem d_5_28 : decode (mB 5) 28 = .ok (.invokespecial 24, 3) := by decide +kernel
theorem d_5_31 : decode (mB 5) 31 = .ok (.putfield 25, 3) := by decide +kernel
theorem d_5_34 : decode (mB 5) 34 = .ok (.aload_n 0, 1) := by decide +kernel
theorem d_5_35 : decode (mB 5) 35 = .ok (.new 15, 3) := by decide +kernel
theorem d_5_38 : decode (mB 5) 38 = .ok (.dup, 1) := by decide +kernel
theorem d_5_39 : decode (mB 5) 39 = .ok (.invokespecial 17, 3) := by decide +kernel
theorem d_5_42 : decode (mB 5) 42 = .ok (.putfield 29, 3) := by decide +kernel
theorem d_5_45 : decode (mB 5) 45 = .ok (.aload_n 0, 1) := by decide +kernel
theorem d_5_46 : decode (mB 5) 46 = .ok (.aload_n 1, 1) := by decide +kernel
theorem d_5_47 : decode (mB 5) 47 = .ok (.putfield 32, 3) := by decide +kernel
theorem d_5_50 : decode (mB 5) 50 = .ok (.iconst 0, 1) := by decide +kernel
theorem d_5_51 : decode (mB 5) 51 = .ok (.istore_n 2, 1) := by decide +kernel
theorem d_5_52 : decode (mB 5) 52 = .ok (.iload_n 2, 1) := by decide +kernel
theorem d_5_53 : decode (mB 5) 53 = .ok (.aload_n 0, 1) := by decide +kernel
theorem d_5_54 : decode (mB 5) 54 = .ok (.getfield 9, 3) := by decide +kernel
theorem d_5_57 : decode (mB 5) 57 = .ok (.arraylength, 1) := by decide +kernel
theorem d_5_58 : decode (mB 5) 58 = .ok (.if_icmp .ge 41, 3) := by decide +kernel
theorem d_5_61 : decode (mB 5) 61 = .ok (.iload_n 2, 1) := by decide +kernel
theorem d_5_62 : decode (mB 5) 62 = .ok (.aload_n 1, 1) := by decide +kernel
theorem d_5_63 : decode (mB 5) 63 = .ok (.getfield 36, 3) := by decide +kernel
theorem d_5_66 : decode (mB 5) 66 = .ok (.arraylength, 1) := by decide +kernel
theorem d_5_67 : decode (mB 5) 67 = .ok (.irem, 1) := by decide +kernel
theorem d_5_68 : decode (mB 5) 68 = .ok (.istore_n 3, 1) := by decide +kernel
theorem d_5_69 : decode (mB 5) 69 = .ok (.aload_n 0, 1) := by decide +kernel
theorem d_5_70 : decode (mB 5) 70 = .ok (.getfield 9, 3) := by decide +kernel
theorem d_5_73 : decode (mB 5) 73 = .ok (.iload_n 2, 1) := by decide +kernel
theorem d_5_74 : decode (mB 5) 74 = .ok (.iload_n 3, 1) := by decide +kernel
theorem d_5_75 : decode (mB 5) 75 = .ok (.iastore, 1) := by decide +kernel
theorem d_5_76 : decode (mB 5) 76 = .ok (.aload_n 1, 1) := by decide +kernel
theorem d_5_77 : decode (mB 5) 77 = .ok (.getfield 36, 3) := by decide +kernel
theorem d_5_80 : decode (mB 5) 80 = .ok (.iload_n 3, 1) := by decide +kernel
theorem d_5_81 : decode (mB 5) 81 = .ok (.aaload, 1) := by decide +kernel
theorem d_5_82 : decode (mB 5) 82 = .ok (.dup, 1) := by decide +kernel
theorem d_5_83 : decode (mB 5) 83 = .ok (.getfield 42, 3) := by decide +kernel
theorem d_5_86 : decode (mB 5) 86 = .ok (.iconst 1, 1) := by decide +kernel
theorem d_5_87 : decode (mB 5) 87 = .ok (.iload_n 2, 1) := by decide +kernel
theorem d_5_88 : decode (mB 5) 88 = .ok (.ishl, 1) := by decide +kernel
theorem d_5_89 : decode (mB 5) 89 = .ok (.ior, 1) := by decide +kernel
theorem d_5_90 : decode (mB 5) 90 = .ok (.putfield 42, 3) := by decide +kernel
theorem d_5_93 : decode (mB 5) 93 = .ok (.iinc 2 1, 3) := by decide +kernel
theorem d_5_96 : decode (mB 5) 96 = .ok (.goto (-44), 3) := by decide +kernel
theorem d_5_99 : decode (mB 5) 99 = .ok (.return_, 1) := by decide +kernel
theorem d_6_0 : decode (mB 6) 0 = .ok (.iconst 0, 1) := by decide +kernel
theorem d_6_1 : decode (mB 6) 1 = .ok (.istore_n 2, 1) := by decide +kernel
theorem d_6_2 : decode (mB 6) 2 = .ok (.iconst 0, 1) := by decide +kernel
theorem d_6_3 : decode (mB 6) 3 = .ok (.istore_n 3, 1) := by decide +kernel
theorem d_6_4 : decode (mB 6) 4 = .ok (.iload_n 3, 1) := by decide +kernel
theorem d_6_5 : decode (mB 6) 5 = .ok (.aload_n 0, 1) := by decide +kernel
theorem d_6_6 : decode (mB 6) 6 = .ok (.getfield 9, 3) := by decide +kernel
theorem d_6_9 : decode (mB 6) 9 = .ok (.arraylength, 1) := by decide +kernel
theorem d_6_10 : decode (mB 6) 10 = .ok (.if_icmp .ge 22, 3) := by decide +kernel
theorem d_6_13 : decode (mB 6) 13 = .ok (.aload_n 0, 1) := by decide +kernel
theorem d_6_14 : decode (mB 6) 14 = .ok (.getfield 9, 3) := by decide +kernel
theorem d_6_17 : decode (mB 6) 17 = .ok (.iload_n 3, 1) := by decide +kernel
theorem d_6_18 : decode (mB 6) 18 = .ok (.iaload, 1) := by decide +kernel
theorem d_6_19 : decode (mB 6) 19 = .ok (.iload_n 1, 1) := by decide +kernel
theorem d_6_20 : decode (mB 6) 20 = .ok (.if_icmp .ne 6, 3) := by decide +kernel
theorem d_6_23 : decode (mB 6) 23 = .ok (.iinc 2 1, 3) := by decide +kernel
theorem d_6_26 : decode (mB 6) 26 = .ok (.iinc 3 1, 3) := by decide +kernel
theorem d_6_29 : decode (mB 6) 29 = .ok (.goto (-25), 3) := by decide +kernel
theorem d_6_32 : decode (mB 6) 32 = .ok (.iload_n 2, 1) := by decide +kernel
theorem d_6_33 : decode (mB 6) 33 = .ok (.ireturn, 1) := by decide +kernel
theorem d_7_0 : decode (mB 7) 0 = .ok (.aload_n 1, 1) := by decide +kernel
theorem d_7_1 : decode (mB 7) 1 = .ok (.getfield 48, 3) := by decide +kernel
theorem d_7_4 : decode (mB 7) 4 = .ok (.ifCond .ne 27, 3) := by decide +kernel
theorem d_7_7 : decode (mB 7) 7 = .ok (.aload_n 0, 1) := by decide +kernel
theorem d_7_8 : decode (mB 7) 8 = .ok (.aload_n 1, 1) := by decide +kernel
theorem d_7_9 : decode (mB 7) 9 = .ok (.getfield 52, 3) := by decide +kernel
theorem d_7_12 : decode (mB 7) 12 = .ok (.invokevirtual 55, 3) := by decide +kernel
theorem d_7_15 : decode (mB 7) 15 = .ok (.ifCond .le 16, 3) := by decide +kernel
theorem d_7_18 : decode (mB 7) 18 = .ok (.aload_n 1, 1) := by decide +kernel
theorem d_7_19 : decode (mB 7) 19 = .ok (.iconst 1, 1) := by decide +kernel
theorem d_7_20 : decode (mB 7) 20 = .ok (.putfield 48, 3) := by decide +kernel
theorem d_7_23 : decode (mB 7) 23 = .ok (.aload_n 1, 1) := by decide +kernel
theorem d_7_24 : decode (mB 7) 24 = .ok (.aload_n 1, 1) := by decide +kernel
theorem d_7_25 : decode (mB 7) 25 = .ok (.getfield 59, 3) := by decide +kernel
theorem d_7_28 : decode (mB 7) 28 = .ok (.putfield 63, 3) := by decide +kernel
theorem d_7_31 : decode (mB 7) 31 = .ok (.aload_n 1, 1) := by decide +kernel
theorem d_7_32 : decode (mB 7) 32 = .ok (.invokevirtual 66, 3) := by decide +kernel
theorem d_7_35 : decode (mB 7) 35 = .ok (.aload_n 0, 1) := by decide +kernel
theorem d_7_36 : decode (mB 7) 36 = .ok (.getfield 32, 3) := by decide +kernel
theorem d_7_39 : decode (mB 7) 39 = .ok (.aload_n 1, 1) := by decide +kernel
theorem d_7_40 : decode (mB 7) 40 = .ok (.iconst 2, 1) := by decide +kernel
theorem d_7_41 : decode (mB 7) 41 = .ok (.invokevirtual 69, 3) := by decide +kernel
theorem d_7_44 : decode (mB 7) 44 = .ok (.return_, 1) := by decide +kernel
theorem d_8_0 : decode (mB 8) 0 = .ok (.aload_n 1, 1) := by decide +kernel
theorem d_8_1 : decode (mB 8) 1 = .ok (.invokevirtual 66, 3) := by decide +kernel
theorem d_8_4 : decode (mB 8) 4 = .ok (.aload_n 0, 1) := by decide +kernel
theorem d_8_5 : decode (mB 8) 5 = .ok (.dup, 1) := by decide +kernel
theorem d_8_6 : decode (mB 8) 6 = .ok (.getfield 73, 3) := by decide +kernel
theorem d_8_9 : decode (mB 8) 9 = .ok (.iconst 1, 1) := by decide +kernel
theorem d_8_10 : decode (mB 8) 10 = .ok (.iadd, 1) := by decide +kernel
theorem d_8_11 : decode (mB 8) 11 = .ok (.putfield 73, 3) := by decide +kernel
theorem d_8_14 : decode (mB 8) 14 = .ok (.return_, 1) := by decide +kernel
theorem d_9_0 : decode (mB 9) 0 = .ok (.iconst 0, 1) := by decide +kernel
theorem d_9_1 : decode (mB 9) 1 = .ok (.istore_n 2, 1) := by decide +kernel
theorem d_9_2 : decode (mB 9) 2 = .ok (.iconst 0, 1) := by decide +kernel
theorem d_9_3 : decode (mB 9) 3 = .ok (.istore_n 3, 1) := by decide +kernel
theorem d_9_4 : decode (mB 9) 4 = .ok (.iload_n 3, 1) := by decide +kernel
theorem d_9_5 : decode (mB 9) 5 = .ok (.aload_n 0, 1) := by decide +kernel
theorem d_9_6 : decode (mB 9) 6 = .ok (.getfield 32, 3) := by decide +kernel
theorem d_9_9 : decode (mB 9) 9 = .ok (.getfield 36, 3) := by decide +kernel
theorem d_9_12 : decode (mB 9) 12 = .ok (.arraylength, 1) := by decide +kernel
theorem d_9_13 : decode (mB 9) 13 = .ok (.if_icmp .ge 56, 3) := by decide +kernel
theorem d_9_16 : decode (mB 9) 16 = .ok (.aload_n 0, 1) := by decide +kernel
theorem d_9_17 : decode (mB 9) 17 = .ok (.getfield 32, 3) := by decide +kernel
theorem d_9_20 : decode (mB 9) 20 = .ok (.getfield 36, 3) := by decide +kernel
theorem d_9_23 : decode (mB 9) 23 = .ok (.iload_n 3, 1) := by decide +kernel
theorem d_9_24 : decode (mB 9) 24 = .ok (.aaload, 1) := by decide +kernel
theorem d_9_25 : decode (mB 9) 25 = .ok (.astore 4, 2) := by decide +kernel
theorem d_9_27 : decode (mB 9) 27 = .ok (.iload_n 2, 1) := by decide +kernel
theorem d_9_28 : decode (mB 9) 28 = .ok (.aload 4, 2) := by decide +kernel
theorem d_9_30 : decode (mB 9) 30 = .ok (.getfield 59, 3) := by decide +kernel
theorem d_9_33 : decode (mB 9) 33 = .ok (.iload_n 1, 1) := by decide +kernel
theorem d_9_34 : decode (mB 9) 34 = .ok (.invokevirtual 76, 3) := by decide +kernel
theorem d_9_37 : decode (mB 9) 37 = .ok (.iadd, 1) := by decide +kernel
theorem d_9_38 : decode (mB 9) 38 = .ok (.istore_n 2, 1) := by decide +kernel
theorem d_9_39 : decode (mB 9) 39 = .ok (.iload_n 2, 1) := by decide +kernel
theorem d_9_40 : decode (mB 9) 40 = .ok (.aload 4, 2) := by decide +kernel
theorem d_9_42 : decode (mB 9) 42 = .ok (.getfield 63, 3) := by decide +kernel
theorem d_9_45 : decode (mB 9) 45 = .ok (.ifnonnull 7, 3) := by decide +kernel
theorem d_9_48 : decode (mB 9) 48 = .ok (.iconst 0, 1) := by decide +kernel
theorem d_9_49 : decode (mB 9) 49 = .ok (.goto 12, 3) := by decide +kernel
theorem d_9_52 : decode (mB 9) 52 = .ok (.aload 4, 2) := by decide +kernel
theorem d_9_54 : decode (mB 9) 54 = .ok (.getfield 63, 3) := by decide +kernel
theorem d_9_57 : decode (mB 9) 57 = .ok (.iload_n 1, 1) := by decide +kernel
theorem d_9_58 : decode (mB 9) 58 = .ok (.invokevirtual 76, 3) := by decide +kernel
theorem d_9_61 : decode (mB 9) 61 = .ok (.iadd, 1) := by decide +kernel
theorem d_9_62 : decode (mB 9) 62 = .ok (.istore_n 2, 1) := by decide +kernel
theorem d_9_63 : decode (mB 9) 63 = .ok (.iinc 3 1, 3) := by decide +kernel
theorem d_9_66 : decode (mB 9) 66 = .ok (.goto (-62), 3) := by decide +kernel
theorem d_9_69 : decode (mB 9) 69 = .ok (.iconst 0, 1) := by decide +kernel
theorem d_9_70 : decode (mB 9) 70 = .ok (.istore_n 3, 1) := by decide +kernel
theorem d_9_71 : decode (mB 9) 71 = .ok (.iload_n 3, 1) := by decide +kernel
theorem d_9_72 : decode (mB 9) 72 = .ok (.aload_n 0, 1) := by decide +kernel
theorem d_9_73 : decode (mB 9) 73 = .ok (.getfield 18, 3) := by decide +kernel
theorem d_9_76 : decode (mB 9) 76 = .ok (.invokevirtual 81, 3) := by decide +kernel
theorem d_9_79 : decode (mB 9) 79 = .ok (.if_icmp .ge 27, 3) := by decide +kernel
theorem d_9_82 : decode (mB 9) 82 = .ok (.iload_n 2, 1) := by decide +kernel
theorem d_9_83 : decode (mB 9) 83 = .ok (.aload_n 0, 1) := by decide +kernel
theorem d_9_84 : decode (mB 9) 84 = .ok (.getfield 18, 3) := by decide +kernel
theorem d_9_87 : decode (mB 9) 87 = .ok (.iload_n 3, 1) := by decide +kernel
theorem d_9_88 : decode (mB 9) 88 = .ok (.invokevirtual 85, 3) := by decide +kernel
theorem d_9_91 : decode (mB 9) 91 = .ok (.checkcast 77, 3) := by decide +kernel
theorem d_9_94 : decode (mB 9) 94 = .ok (.iload_n 1, 1) := by decide +kernel
theorem d_9_95 : decode (mB 9) 95 = .ok (.invokevirtual 76, 3) := by decide +kernel
theorem d_9_98 : decode (mB 9) 98 = .ok (.iadd, 1) := by decide +kernel
theorem d_9_99 : decode (mB 9) 99 = .ok (.istore_n 2, 1) := by decide +kernel
theorem d_9_100 : decode (mB 9) 100 = .ok (.iinc 3 1, 3) := by decide +kernel
theorem d_9_103 : decode (mB 9) 103 = .ok (.goto (-32), 3) := by decide +kernel
theorem d_9_106 : decode (mB 9) 106 = .ok (.iload_n 2, 1) := by decide +kernel
theorem d_9_107 : decode (mB 9) 107 = .ok (.ireturn, 1) := by decide +kernel
theorem d_10_0 : decode (mB 10) 0 = .ok (.iconst 0, 1) := by decide +kernel
theorem d_10_1 : decode (mB 10) 1 = .ok (.istore_n 1, 1) := by decide +kernel
theorem d_10_2 : decode (mB 10) 2 = .ok (.iload_n 1, 1) := by decide +kernel
theorem d_10_3 : decode (mB 10) 3 = .ok (.aload_n 0, 1) := by decide +kernel
theorem d_10_4 : decode (mB 10) 4 = .ok (.getfield 32, 3) := by decide +kernel
theorem d_10_7 : decode (mB 10) 7 = .ok (.getfield 36, 3) := by decide +kernel
theorem d_10_10 : decode (mB 10) 10 = .ok (.arraylength, 1) := by decide +kernel
theorem d_10_11 : decode (mB 10) 11 = .ok (.if_icmp .ge 87, 3) := by decide +kernel
theorem d_10_14 : decode (mB 10) 14 = .ok (.aload_n 0, 1) := by decide +kernel
theorem d_10_15 : decode (mB 10) 15 = .ok (.getfield 32, 3) := by decide +kernel
theorem d_10_18 : decode (mB 10) 18 = .ok (.getfield 36, 3) := by decide +kernel
theorem d_10_21 : decode (mB 10) 21 = .ok (.iload_n 1, 1) := by decide +kernel
theorem d_10_22 : decode (mB 10) 22 = .ok (.aaload, 1) := by decide +kernel
theorem d_10_23 : decode (mB 10) 23 = .ok (.astore_n 2, 1) := by decide +kernel
theorem d_10_24 : decode (mB 10) 24 = .ok (.aload_n 2, 1) := by decide +kernel
theorem d_10_25 : decode (mB 10) 25 = .ok (.getfield 89, 3) := by decide +kernel
theorem d_10_28 : decode (mB 10) 28 = .ok (.ifCond .ne 18, 3) := by decide +kernel
theorem d_10_31 : decode (mB 10) 31 = .ok (.aload_n 2, 1) := by decide +kernel
theorem d_10_32 : decode (mB 10) 32 = .ok (.getfield 92, 3) := by decide +kernel
theorem d_10_35 : decode (mB 10) 35 = .ok (.ifCond .eq 11, 3) := by decide +kernel
theorem d_10_38 : decode (mB 10) 38 = .ok (.aload_n 0, 1) := by decide +kernel
theorem d_10_39 : decode (mB 10) 39 = .ok (.aload_n 2, 1) := by decide +kernel
theorem d_10_40 : decode (mB 10) 40 = .ok (.invokevirtual 95, 3) := by decide +kernel
theorem d_10_43 : decode (mB 10) 43 = .ok (.goto 49, 3) := by decide +kernel
theorem d_10_46 : decode (mB 10) 46 = .ok (.aload_n 2, 1) := by decide +kernel
theorem d_10_47 : decode (mB 10) 47 = .ok (.getfield 89, 3) := by decide +kernel
theorem d_10_50 : decode (mB 10) 50 = .ok (.ifCond .ne 42, 3) := by decide +kernel
theorem d_10_53 : decode (mB 10) 53 = .ok (.aload_n 2, 1) := by decide +kernel
theorem d_10_54 : decode (mB 10) 54 = .ok (.getfield 59, 3) := by decide +kernel
theorem d_10_57 : decode (mB 10) 57 = .ok (.astore_n 3, 1) := by decide +kernel
theorem d_10_58 : decode (mB 10) 58 = .ok (.aload_n 3, 1) := by decide +kernel
theorem d_10_59 : decode (mB 10) 59 = .ok (.getfield 99, 3) := by decide +kernel
theorem d_10_62 : decode (mB 10) 62 = .ok (.ifnull 22, 3) := by decide +kernel
theorem d_10_65 : decode (mB 10) 65 = .ok (.aload_n 0, 1) := by decide +kernel
theorem d_10_66 : decode (mB 10) 66 = .ok (.getfield 32, 3) := by decide +kernel
theorem d_10_69 : decode (mB 10) 69 = .ok (.aload_n 3, 1) := by decide +kernel
theorem d_10_70 : decode (mB 10) 70 = .ok (.getfield 99, 3) := by decide +kernel
theorem d_10_73 : decode (mB 10) 73 = .ok (.invokevirtual 103, 3) := by decide +kernel
theorem d_10_76 : decode (mB 10) 76 = .ok (.ifCond .ne 8, 3) := by decide +kernel
theorem d_10_79 : decode (mB 10) 79 = .ok (.aload_n 3, 1) := by decide +kernel
theorem d_10_80 : decode (mB 10) 80 = .ok (.aconst_null, 1) := by decide +kernel
theorem d_10_81 : decode (mB 10) 81 = .ok (.putfield 99, 3) := by decide +kernel
theorem d_10_84 : decode (mB 10) 84 = .ok (.aload_n 0, 1) := by decide +kernel
theorem d_10_85 : decode (mB 10) 85 = .ok (.getfield 32, 3) := by decide +kernel
theorem d_10_88 : decode (mB 10) 88 = .ok (.aload_n 2, 1) := by decide +kernel
theorem d_10_89 : decode (mB 10) 89 = .ok (.invokevirtual 107, 3) := by decide +kernel
theorem d_10_92 : decode (mB 10) 92 = .ok (.iinc 1 1, 3) := by decide +kernel
theorem d_10_95 : decode (mB 10) 95 = .ok (.goto (-93), 3) := by decide +kernel
theorem d_10_98 : decode (mB 10) 98 = .ok (.return_, 1) := by decide +kernel
theorem d_11_0 : decode (mB 11) 0 = .ok (.iconst 0, 1) := by decide +kernel
theorem d_11_1 : decode (mB 11) 1 = .ok (.istore_n 1, 1) := by decide +kernel
theorem d_11_2 : decode (mB 11) 2 = .ok (.iload_n 1, 1) := by decide +kernel
theorem d_11_3 : decode (mB 11) 3 = .ok (.aload_n 0, 1) := by decide +kernel
theorem d_11_4 : decode (mB 11) 4 = .ok (.getfield 32, 3) := by decide +kernel
theorem d_11_7 : decode (mB 11) 7 = .ok (.getfield 36, 3) := by decide +kernel
theorem d_11_10 : decode (mB 11) 10 = .ok (.arraylength, 1) := by decide +kernel
theorem d_11_11 : decode (mB 11) 11 = .ok (.if_icmp .ge 97, 3) := by decide +kernel
theorem d_11_14 : decode (mB 11) 14 = .ok (.aload_n 0, 1) := by decide +kernel
theorem d_11_15 : decode (mB 11) 15 = .ok (.getfield 32, 3) := by decide +kernel
theorem d_11_18 : decode (mB 11) 18 = .ok (.getfield 36, 3) := by decide +kernel
theorem d_11_21 : decode (mB 11) 21 = .ok (.iload_n 1, 1) := by decide +kernel
theorem d_11_22 : decode (mB 11) 22 = .ok (.aaload, 1) := by decide +kernel
theorem d_11_23 : decode (mB 11) 23 = .ok (.astore_n 2, 1) := by decide +kernel
theorem d_11_24 : decode (mB 11) 24 = .ok (.aload_n 2, 1) := by decide +kernel
theorem d_11_25 : decode (mB 11) 25 = .ok (.aload_n 2, 1) := by decide +kernel
theorem d_11_26 : decode (mB 11) 26 = .ok (.getfield 89, 3) := by decide +kernel
theorem d_11_29 : decode (mB 11) 29 = .ok (.ifCond .ne 7, 3) := by decide +kernel
theorem d_11_32 : decode (mB 11) 32 = .ok (.iconst 0, 1) := by decide +kernel
theorem d_11_33 : decode (mB 11) 33 = .ok (.goto 9, 3) := by decide +kernel
theorem d_11_36 : decode (mB 11) 36 = .ok (.aload_n 2, 1) := by decide +kernel
theorem d_11_37 : decode (mB 11) 37 = .ok (.getfield 110, 3) := by decide +kernel
theorem d_11_40 : decode (mB 11) 40 = .ok (.iconst 1, 1) := by decide +kernel
theorem d_11_41 : decode (mB 11) 41 = .ok (.iadd, 1) := by decide +kernel
theorem d_11_42 : decode (mB 11) 42 = .ok (.putfield 110, 3) := by decide +kernel
theorem d_11_45 : decode (mB 11) 45 = .ok (.aload_n 2, 1) := by decide +kernel
theorem d_11_46 : decode (mB 11) 46 = .ok (.getfield 110, 3) := by decide +kernel
theorem d_11_49 : decode (mB 11) 49 = .ok (.iconst 3, 1) := by decide +kernel
theorem d_11_50 : decode (mB 11) 50 = .ok (.if_icmp .ge 17, 3) := by decide +kernel
theorem d_11_53 : decode (mB 11) 53 = .ok (.aload_n 2, 1) := by decide +kernel
theorem d_11_54 : decode (mB 11) 54 = .ok (.getfield 89, 3) := by decide +kernel
theorem d_11_57 : decode (mB 11) 57 = .ok (.ifCond .ne 14, 3) := by decide +kernel
theorem d_11_60 : decode (mB 11) 60 = .ok (.aload_n 2, 1) := by decide +kernel
theorem d_11_61 : decode (mB 11) 61 = .ok (.getfield 48, 3) := by decide +kernel
theorem d_11_64 : decode (mB 11) 64 = .ok (.ifCond .eq 7, 3) := by decide +kernel
theorem d_11_67 : decode (mB 11) 67 = .ok (.iconst 1, 1) := by decide +kernel
theorem d_11_68 : decode (mB 11) 68 = .ok (.goto 4, 3) := by decide +kernel
theorem d_11_71 : decode (mB 11) 71 = .ok (.iconst 0, 1) := by decide +kernel
theorem d_11_72 : decode (mB 11) 72 = .ok (.istore_n 3, 1) := by decide +kernel
theorem d_11_73 : decode (mB 11) 73 = .ok (.iload_n 3, 1) := by decide +kernel
theorem d_11_74 : decode (mB 11) 74 = .ok (.ifCond .eq 28, 3) := by decide +kernel
theorem d_11_77 : decode (mB 11) 77 = .ok (.aload_n 0, 1) := by decide +kernel
theorem d_11_78 : decode (mB 11) 78 = .ok (.getfield 18, 3) := by decide +kernel
theorem d_11_81 : decode (mB 11) 81 = .ok (.invokevirtual 81, 3) := by decide +kernel
theorem d_11_84 : decode (mB 11) 84 = .ok (.bipush 16, 2) := by decide +kernel
theorem d_11_86 : decode (mB 11) 86 = .ok (.if_icmp .ge 16, 3) := by decide +kernel
theorem d_11_89 : decode (mB 11) 89 = .ok (.aload_n 0, 1) := by decide +kernel
theorem d_11_90 : decode (mB 11) 90 = .ok (.iload_n 1, 1) := by decide +kernel
theorem d_11_91 : decode (mB 11) 91 = .ok (.invokevirtual 55, 3) := by decide +kernel
theorem d_11_94 : decode (mB 11) 94 = .ok (.ifCond .le 8, 3) := by decide +kernel
theorem d_11_97 : decode (mB 11) 97 = .ok (.aload_n 0, 1) := by decide +kernel
theorem d_11_98 : decode (mB 11) 98 = .ok (.aload_n 2, 1) := by decide +kernel
theorem d_11_99 : decode (mB 11) 99 = .ok (.invokevirtual 113, 3) := by decide +kernel
theorem d_11_102 : decode (mB 11) 102 = .ok (.iinc 1 1, 3) := by decide +kernel
theorem d_11_105 : decode (mB 11) 105 = .ok (.goto (-103), 3) := by decide +kernel
theorem d_11_108 : decode (mB 11) 108 = .ok (.return_, 1) := by decide +kernel
theorem d_12_0 : decode (mB 12) 0 = .ok (.aload_n 1, 1) := by decide +kernel
theorem d_12_1 : decode (mB 12) 1 = .ok (.getfield 59, 3) := by decide +kernel
theorem d_12_4 : decode (mB 12) 4 = .ok (.astore_n 2, 1) := by decide +kernel
theorem d_12_5 : decode (mB 12) 5 = .ok (.aload_n 1, 1) := by decide +kernel
theorem d_12_6 : decode (mB 12) 6 = .ok (.getfield 48, 3) := by decide +kernel
theorem d_12_9 : decode (mB 12) 9 = .ok (.ifCond .eq 28, 3) := by decide +kernel
theorem d_12_12 : decode (mB 12) 12 = .ok (.aload_n 1, 1) := by decide +kernel
theorem d_12_13 : decode (mB 12) 13 = .ok (.getfield 63, 3) := by decide +kernel
theorem d_12_16 : decode (mB 12) 16 = .ok (.ifnull 21, 3) := by decide +kernel
theorem d_12_19 : decode (mB 12) 19 = .ok (.aload_n 1, 1) := by decide +kernel
theorem d_12_20 : decode (mB 12) 20 = .ok (.getfield 63, 3) := by decide +kernel
theorem d_12_23 : decode (mB 12) 23 = .ok (.astore_n 2, 1) := by decide +kernel
theorem d_12_24 : decode (mB 12) 24 = .ok (.aload_n 1, 1) := by decide +kernel
theorem d_12_25 : decode (mB 12) 25 = .ok (.aconst_null, 1) := by decide +kernel
theorem d_12_26 : decode (mB 12) 26 = .ok (.putfield 63, 3) := by decide +kernel
theorem d_12_29 : decode (mB 12) 29 = .ok (.aload_n 1, 1) := by decide +kernel
theorem d_12_30 : decode (mB 12) 30 = .ok (.iconst 0, 1) := by decide +kernel
theorem d_12_31 : decode (mB 12) 31 = .ok (.putfield 48, 3) := by decide +kernel
theorem d_12_34 : decode (mB 12) 34 = .ok (.goto 19, 3) := by decide +kernel
theorem d_12_37 : decode (mB 12) 37 = .ok (.aload_n 1, 1) := by decide +kernel
theorem d_12_38 : decode (mB 12) 38 = .ok (.iconst 1, 1) := by decide +kernel
theorem d_12_39 : decode (mB 12) 39 = .ok (.putfield 92, 3) := by decide +kernel
theorem d_12_42 : decode (mB 12) 42 = .ok (.aload_n 1, 1) := by decide +kernel
theorem d_12_43 : decode (mB 12) 43 = .ok (.new 77, 3) := by decide +kernel
theorem d_12_46 : decode (mB 12) 46 = .ok (.dup, 1) := by decide +kernel
theorem d_12_47 : decode (mB 12) 47 = .ok (.invokespecial 116, 3) := by decide +kernel
theorem d_12_50 : decode (mB 12) 50 = .ok (.putfield 59, 3) := by decide +kernel
theorem d_12_53 : decode (mB 12) 53 = .ok (.iconst 0, 1) := by decide +kernel
theorem d_12_54 : decode (mB 12) 54 = .ok (.istore_n 3, 1) := by decide +kernel
theorem d_12_55 : decode (mB 12) 55 = .ok (.iload_n 3, 1) := by decide +kernel
theorem d_12_56 : decode (mB 12) 56 = .ok (.aload_n 0, 1) := by decide +kernel
theorem d_12_57 : decode (mB 12) 57 = .ok (.getfield 9, 3) := by decide +kernel
theorem d_12_60 : decode (mB 12) 60 = .ok (.arraylength, 1) := by decide +kernel
theorem d_12_61 : decode (mB 12) 61 = .ok (.if_icmp .ge 41, 3) := by decide +kernel
theorem d_12_64 : decode (mB 12) 64 = .ok (.aload_n 0, 1) := by decide +kernel
theorem d_12_65 : decode (mB 12) 65 = .ok (.getfield 9, 3) := by decide +kernel
theorem d_12_68 : decode (mB 12) 68 = .ok (.iload_n 3, 1) := by decide +kernel
theorem d_12_69 : decode (mB 12) 69 = .ok (.iaload, 1) := by decide +kernel
theorem d_12_70 : decode (mB 12) 70 = .ok (.aload_n 1, 1) := by decide +kernel
theorem d_12_71 : decode (mB 12) 71 = .ok (.getfield 52, 3) := by decide +kernel
theorem d_12_74 : decode (mB 12) 74 = .ok (.if_icmp .ne 22, 3) := by decide +kernel
theorem d_12_77 : decode (mB 12) 77 = .ok (.aload_n 0, 1) := by decide +kernel
theorem d_12_78 : decode (mB 12) 78 = .ok (.getfield 9, 3) := by decide +kernel
theorem d_12_81 : decode (mB 12) 81 = .ok (.iload_n 3, 1) := by decide +kernel
theorem d_12_82 : decode (mB 12) 82 = .ok (.iconst (-1), 1) := by decide +kernel
theorem d_12_83 : decode (mB 12) 83 = .ok (.iastore, 1) := by decide +kernel
theorem d_12_84 : decode (mB 12) 84 = .ok (.aload_n 2, 1) := by decide +kernel
theorem d_12_85 : decode (mB 12) 85 = .ok (.dup, 1) := by decide +kernel
theorem d_12_86 : decode (mB 12) 86 = .ok (.getfield 117, 3) := by decide +kernel
theorem d_12_89 : decode (mB 12) 89 = .ok (.iconst 1, 1) := by decide +kernel
theorem d_12_90 : decode (mB 12) 90 = .ok (.iload_n 3, 1) := by decide +kernel
theorem d_12_91 : decode (mB 12) 91 = .ok (.ishl, 1) := by decide +kernel
theorem d_12_92 : decode (mB 12) 92 = .ok (.ior, 1) := by decide +kernel
theorem d_12_93 : decode (mB 12) 93 = .ok (.putfield 117, 3) := by decide +kernel
theorem d_12_96 : decode (mB 12) 96 = .ok (.iinc 3 1, 3) := by decide +kernel
theorem d_12_99 : decode (mB 12) 99 = .ok (.goto (-44), 3) := by decide +kernel
theorem d_12_102 : decode (mB 12) 102 = .ok (.aload_n 0, 1) := by decide +kernel
theorem d_12_103 : decode (mB 12) 103 = .ok (.getfield 18, 3) := by decide +kernel
theorem d_12_106 : decode (mB 12) 106 = .ok (.aload_n 2, 1) := by decide +kernel
theorem d_12_107 : decode (mB 12) 107 = .ok (.invokevirtual 118, 3) := by decide +kernel
theorem d_12_110 : decode (mB 12) 110 = .ok (.pop, 1) := by decide +kernel
theorem d_12_111 : decode (mB 12) 111 = .ok (.aload_n 0, 1) := by decide +kernel
theorem d_12_112 : decode (mB 12) 112 = .ok (.dup, 1) := by decide +kernel
theorem d_12_113 : decode (mB 12) 113 = .ok (.getfield 122, 3) := by decide +kernel
theorem d_12_116 : decode (mB 12) 116 = .ok (.iconst 1, 1) := by decide +kernel
theorem d_12_117 : decode (mB 12) 117 = .ok (.iadd, 1) := by decide +kernel
theorem d_12_118 : decode (mB 12) 118 = .ok (.putfield 122, 3) := by decide +kernel
theorem d_12_121 : decode (mB 12) 121 = .ok (.return_, 1) := by decide +kernel
theorem d_13_0 : decode (mB 13) 0 = .ok (.iconst 0, 1) := by decide +kernel
theorem d_13_1 : decode (mB 13) 1 = .ok (.istore_n 1, 1) := by decide +kernel
theorem d_13_2 : decode (mB 13) 2 = .ok (.iconst 0, 1) := by decide +kernel
theorem d_13_3 : decode (mB 13) 3 = .ok (.istore_n 2, 1) := by decide +kernel
theorem d_13_4 : decode (mB 13) 4 = .ok (.aload_n 0, 1) := by decide +kernel
theorem d_13_5 : decode (mB 13) 5 = .ok (.getfield 18, 3) := by decide +kernel
theorem d_13_8 : decode (mB 13) 8 = .ok (.invokevirtual 81, 3) := by decide +kernel
theorem d_13_11 : decode (mB 13) 11 = .ok (.istore_n 3, 1) := by decide +kernel
theorem d_13_12 : decode (mB 13) 12 = .ok (.iload_n 3, 1) := by decide +kernel
theorem d_13_13 : decode (mB 13) 13 = .ok (.ifCond .le 156, 3) := by decide +kernel
theorem d_13_16 : decode (mB 13) 16 = .ok (.iload_n 2, 1) := by decide +kernel
theorem d_13_17 : decode (mB 13) 17 = .ok (.aload_n 0, 1) := by decide +kernel
theorem d_13_18 : decode (mB 13) 18 = .ok (.getfield 18, 3) := by decide +kernel
theorem d_13_21 : decode (mB 13) 21 = .ok (.invokevirtual 81, 3) := by decide +kernel
theorem d_13_24 : decode (mB 13) 24 = .ok (.if_icmp .ge 145, 3) := by decide +kernel
theorem d_13_27 : decode (mB 13) 27 = .ok (.aload_n 0, 1) := by decide +kernel
theorem d_13_28 : decode (mB 13) 28 = .ok (.getfield 18, 3) := by decide +kernel
theorem d_13_31 : decode (mB 13) 31 = .ok (.iload_n 2, 1) := by decide +kernel
theorem d_13_32 : decode (mB 13) 32 = .ok (.invokevirtual 85, 3) := by decide +kernel
theorem d_13_35 : decode (mB 13) 35 = .ok (.checkcast 77, 3) := by decide +kernel
theorem d_13_38 : decode (mB 13) 38 = .ok (.astore 4, 2) := by decide +kernel
theorem d_13_40 : decode (mB 13) 40 = .ok (.aload_n 0, 1) := by decide +kernel
theorem d_13_41 : decode (mB 13) 41 = .ok (.getfield 32, 3) := by decide +kernel
theorem d_13_44 : decode (mB 13) 44 = .ok (.aload 4, 2) := by decide +kernel
theorem d_13_46 : decode (mB 13) 46 = .ok (.invokevirtual 125, 3) := by decide +kernel
theorem d_13_49 : decode (mB 13) 49 = .ok (.ifCond .eq 88, 3) := by decide +kernel
theorem d_13_52 : decode (mB 13) 52 = .ok (.aload_n 0, 1) := by decide +kernel
theorem d_13_53 : decode (mB 13) 53 = .ok (.getfield 25, 3) := by decide +kernel
theorem d_13_56 : decode (mB 13) 56 = .ok (.aload 4, 2) := by decide +kernel
theorem d_13_58 : decode (mB 13) 58 = .ok (.aload_n 0, 1) := by decide +kernel
theorem d_13_59 : decode (mB 13) 59 = .ok (.getfield 32, 3) := by decide +kernel
theorem d_13_62 : decode (mB 13) 62 = .ok (.getfield 129, 3) := by decide +kernel
theorem d_13_65 : decode (mB 13) 65 = .ok (.invokevirtual 132, 3) := by decide +kernel
theorem d_13_68 : decode (mB 13) 68 = .ok (.iconst 0, 1) := by decide +kernel
theorem d_13_69 : decode (mB 13) 69 = .ok (.istore 5, 2) := by decide +kernel
theorem d_13_71 : decode (mB 13) 71 = .ok (.iload 5, 2) := by decide +kernel
theorem d_13_73 : decode (mB 13) 73 = .ok (.bipush 8, 2) := by decide +kernel
theorem d_13_75 : decode (mB 13) 75 = .ok (.if_icmp .ge 62, 3) := by decide +kernel
theorem d_13_78 : decode (mB 13) 78 = .ok (.aload 4, 2) := by decide +kernel
theorem d_13_80 : decode (mB 13) 80 = .ok (.getfield 117, 3) := by decide +kernel
theorem d_13_83 : decode (mB 13) 83 = .ok (.iload 5, 2) := by decide +kernel
theorem d_13_85 : decode (mB 13) 85 = .ok (.ishr, 1) := by decide +kernel
theorem d_13_86 : decode (mB 13) 86 = .ok (.iconst 1, 1) := by decide +kernel
theorem d_13_87 : decode (mB 13) 87 = .ok (.iand, 1) := by decide +kernel
theorem d_13_88 : decode (mB 13) 88 = .ok (.iconst 1, 1) := by decide +kernel
theorem d_13_89 : decode (mB 13) 89 = .ok (.if_icmp .ne 10, 3) := by decide +kernel
theorem d_13_92 : decode (mB 13) 92 = .ok (.aload_n 0, 1) := by decide +kernel
theorem d_13_93 : decode (mB 13) 93 = .ok (.invokevirtual 136, 3) := by decide +kernel
theorem d_13_96 : decode (mB 13) 96 = .ok (.goto 4, 3) := by decide +kernel
theorem d_13_99 : decode (mB 13) 99 = .ok (.aconst_null, 1) := by decide +kernel
theorem d_13_100 : decode (mB 13) 100 = .ok (.astore 6, 2) := by decide +kernel
theorem d_13_102 : decode (mB 13) 102 = .ok (.aload 6, 2) := by decide +kernel
theorem d_13_104 : decode (mB 13) 104 = .ok (.ifnull 27, 3) := by decide +kernel
theorem d_13_107 : decode (mB 13) 107 = .ok (.aload 4, 2) := by decide +kernel
theorem d_13_109 : decode (mB 13) 109 = .ok (.dup, 1) := by decide +kernel
theorem d_13_110 : decode (mB 13) 110 = .ok (.getfield 117, 3) := by decide +kernel
theorem d_13_113 : decode (mB 13) 113 = .ok (.iconst 1, 1) := by decide +kernel
theorem d_13_114 : decode (mB 13) 114 = .ok (.iload 5, 2) := by decide +kernel
theorem d_13_116 : decode (mB 13) 116 = .ok (.ishl, 1) := by decide +kernel
theorem d_13_117 : decode (mB 13) 117 = .ok (.iconst (-1), 1) := by decide +kernel
theorem d_13_118 : decode (mB 13) 118 = .ok (.ixor, 1) := by decide +kernel
theorem d_13_119 : decode (mB 13) 119 = .ok (.iand, 1) := by decide +kernel
theorem d_13_120 : decode (mB 13) 120 = .ok (.putfield 117, 3) := by decide +kernel
theorem d_13_123 : decode (mB 13) 123 = .ok (.aload_n 0, 1) := by decide +kernel
theorem d_13_124 : decode (mB 13) 124 = .ok (.aload 6, 2) := by decide +kernel
theorem d_13_126 : decode (mB 13) 126 = .ok (.iload 5, 2) := by decide +kernel
theorem d_13_128 : decode (mB 13) 128 = .ok (.invokevirtual 140, 3) := by decide +kernel
theorem d_13_131 : decode (mB 13) 131 = .ok (.iinc 5 1, 3) := by decide +kernel
theorem d_13_134 : decode (mB 13) 134 = .ok (.goto (-63), 3) := by decide +kernel
theorem d_13_137 : decode (mB 13) 137 = .ok (.aload 4, 2) := by decide +kernel
theorem d_13_139 : decode (mB 13) 139 = .ok (.getfield 117, 3) := by decide +kernel
theorem d_13_142 : decode (mB 13) 142 = .ok (.ifCond .ne 18, 3) := by decide +kernel
theorem d_13_145 : decode (mB 13) 145 = .ok (.aload_n 0, 1) := by decide +kernel
theorem d_13_146 : decode (mB 13) 146 = .ok (.getfield 18, 3) := by decide +kernel
theorem d_13_149 : decode (mB 13) 149 = .ok (.iload_n 2, 1) := by decide +kernel
theorem d_13_150 : decode (mB 13) 150 = .ok (.invokevirtual 143, 3) := by decide +kernel
theorem d_13_153 : decode (mB 13) 153 = .ok (.pop, 1) := by decide +kernel
theorem d_13_154 : decode (mB 13) 154 = .ok (.iinc 1 1, 3) := by decide +kernel
theorem d_13_157 : decode (mB 13) 157 = .ok (.goto 6, 3) := by decide +kernel
theorem d_13_160 : decode (mB 13) 160 = .ok (.iinc 2 1, 3) := by decide +kernel
theorem d_13_163 : decode (mB 13) 163 = .ok (.iinc 3 (-1), 3) := by decide +kernel
theorem d_13_166 : decode (mB 13) 166 = .ok (.goto (-154), 3) := by decide +kernel
theorem d_13_169 : decode (mB 13) 169 = .ok (.iload_n 1, 1) := by decide +kernel
theorem d_13_170 : decode (mB 13) 170 = .ok (.ireturn, 1) := by decide +kernel
theorem d_14_0 : decode (mB 14) 0 = .ok (.aconst_null, 1) := by decide +kernel
theorem d_14_1 : decode (mB 14) 1 = .ok (.astore_n 1, 1) := by decide +kernel
theorem d_14_2 : decode (mB 14) 2 = .ok (.bipush 9, 2) := by decide +kernel
theorem d_14_4 : decode (mB 14) 4 = .ok (.istore_n 2, 1) := by decide +kernel
theorem d_14_5 : decode (mB 14) 5 = .ok (.iconst 0, 1) := by decide +kernel
theorem d_14_6 : decode (mB 14) 6 = .ok (.istore_n 3, 1) := by decide +kernel
theorem d_14_7 : decode (mB 14) 7 = .ok (.iload_n 3, 1) := by decide +kernel
theorem d_14_8 : decode (mB 14) 8 = .ok (.aload_n 0, 1) := by decide +kernel
theorem d_14_9 : decode (mB 14) 9 = .ok (.getfield 32, 3) := by decide +kernel
theorem d_14_12 : decode (mB 14) 12 = .ok (.getfield 36, 3) := by decide +kernel
theorem d_14_15 : decode (mB 14) 15 = .ok (.arraylength, 1) := by decide +kernel
theorem d_14_16 : decode (mB 14) 16 = .ok (.if_icmp .ge 63, 3) := by decide +kernel
theorem d_14_19 : decode (mB 14) 19 = .ok (.aload_n 0, 1) := by decide +kernel
theorem d_14_20 : decode (mB 14) 20 = .ok (.getfield 32, 3) := by decide +kernel
theorem d_14_23 : decode (mB 14) 23 = .ok (.getfield 36, 3) := by decide +kernel
theorem d_14_26 : decode (mB 14) 26 = .ok (.iload_n 3, 1) := by decide +kernel
theorem d_14_27 : decode (mB 14) 27 = .ok (.aaload, 1) := by decide +kernel
theorem d_14_28 : decode (mB 14) 28 = .ok (.astore 4, 2) := by decide +kernel
theorem d_14_30 : decode (mB 14) 30 = .ok (.aload_n 0, 1) := by decide +kernel
theorem d_14_31 : decode (mB 14) 31 = .ok (.iload_n 3, 1) := by decide +kernel
theorem d_14_32 : decode (mB 14) 32 = .ok (.invokevirtual 55, 3) := by decide +kernel
theorem d_14_35 : decode (mB 14) 35 = .ok (.istore 5, 2) := by decide +kernel
theorem d_14_37 : decode (mB 14) 37 = .ok (.aload 4, 2) := by decide +kernel
theorem d_14_39 : decode (mB 14) 39 = .ok (.getfield 89, 3) := by decide +kernel
theorem d_14_42 : decode (mB 14) 42 = .ok (.ifCond .ne 31, 3) := by decide +kernel
theorem d_14_45 : decode (mB 14) 45 = .ok (.aload 4, 2) := by decide +kernel
theorem d_14_47 : decode (mB 14) 47 = .ok (.getfield 92, 3) := by decide +kernel
theorem d_14_50 : decode (mB 14) 50 = .ok (.ifCond .ne 23, 3) := by decide +kernel
theorem d_14_53 : decode (mB 14) 53 = .ok (.aload 4, 2) := by decide +kernel
theorem d_14_55 : decode (mB 14) 55 = .ok (.getfield 48, 3) := by decide +kernel
theorem d_14_58 : decode (mB 14) 58 = .ok (.ifCond .ne 15, 3) := by decide +kernel
theorem d_14_61 : decode (mB 14) 61 = .ok (.iload 5, 2) := by decide +kernel
theorem d_14_63 : decode (mB 14) 63 = .ok (.iload_n 2, 1) := by decide +kernel
theorem d_14_64 : decode (mB 14) 64 = .ok (.if_icmp .ge 9, 3) := by decide +kernel
theorem d_14_67 : decode (mB 14) 67 = .ok (.aload 4, 2) := by decide +kernel
theorem d_14_69 : decode (mB 14) 69 = .ok (.astore_n 1, 1) := by decide +kernel
theorem d_14_70 : decode (mB 14) 70 = .ok (.iload 5, 2) := by decide +kernel
theorem d_14_72 : decode (mB 14) 72 = .ok (.istore_n 2, 1) := by decide +kernel
theorem d_14_73 : decode (mB 14) 73 = .ok (.iinc 3 1, 3) := by decide +kernel
theorem d_14_76 : decode (mB 14) 76 = .ok (.goto (-69), 3) := by decide +kernel
theorem d_14_79 : decode (mB 14) 79 = .ok (.aload_n 1, 1) := by decide +kernel
theorem d_14_80 : decode (mB 14) 80 = .ok (.areturn, 1) := by decide +kernel
theorem d_15_0 : decode (mB 15) 0 = .ok (.aload_n 0, 1) := by decide +kernel
theorem d_15_1 : decode (mB 15) 1 = .ok (.getfield 9, 3) := by decide +kernel
theorem d_15_4 : decode (mB 15) 4 = .ok (.iload_n 2, 1) := by decide +kernel
theorem d_15_5 : decode (mB 15) 5 = .ok (.aload_n 1, 1) := by decide +kernel
theorem d_15_6 : decode (mB 15) 6 = .ok (.getfield 52, 3) := by decide +kernel
theorem d_15_9 : decode (mB 15) 9 = .ok (.iastore, 1) := by decide +kernel
theorem d_15_10 : decode (mB 15) 10 = .ok (.aload_n 1, 1) := by decide +kernel
theorem d_15_11 : decode (mB 15) 11 = .ok (.dup, 1) := by decide +kernel
theorem d_15_12 : decode (mB 15) 12 = .ok (.getfield 42, 3) := by decide +kernel
theorem d_15_15 : decode (mB 15) 15 = .ok (.iconst 1, 1) := by decide +kernel
theorem d_15_16 : decode (mB 15) 16 = .ok (.iload_n 2, 1) := by decide +kernel
theorem d_15_17 : decode (mB 15) 17 = .ok (.ishl, 1) := by decide +kernel
theorem d_15_18 : decode (mB 15) 18 = .ok (.ior, 1) := by decide +kernel
theorem d_15_19 : decode (mB 15) 19 = .ok (.putfield 42, 3) := by decide +kernel
theorem d_15_22 : decode (mB 15) 22 = .ok (.aload_n 0, 1) := by decide +kernel
theorem d_15_23 : decode (mB 15) 23 = .ok (.getfield 25, 3) := by decide +kernel
theorem d_15_26 : decode (mB 15) 26 = .ok (.getfield 146, 3) := by decide +kernel
theorem d_15_29 : decode (mB 15) 29 = .ok (.aload_n 1, 1) := by decide +kernel
theorem d_15_30 : decode (mB 15) 30 = .ok (.getfield 149, 3) := by decide +kernel
theorem d_15_33 : decode (mB 15) 33 = .ok (.if_icmp .le 24, 3) := by decide +kernel
theorem d_15_36 : decode (mB 15) 36 = .ok (.aload_n 1, 1) := by decide +kernel
theorem d_15_37 : decode (mB 15) 37 = .ok (.aload_n 0, 1) := by decide +kernel
theorem d_15_38 : decode (mB 15) 38 = .ok (.getfield 25, 3) := by decide +kernel
theorem d_15_41 : decode (mB 15) 41 = .ok (.getfield 146, 3) := by decide +kernel
theorem d_15_44 : decode (mB 15) 44 = .ok (.putfield 149, 3) := by decide +kernel
theorem d_15_47 : decode (mB 15) 47 = .ok (.aload_n 0, 1) := by decide +kernel
theorem d_15_48 : decode (mB 15) 48 = .ok (.getfield 32, 3) := by decide +kernel
theorem d_15_51 : decode (mB 15) 51 = .ok (.aload_n 1, 1) := by decide +kernel
theorem d_15_52 : decode (mB 15) 52 = .ok (.iconst 0, 1) := by decide +kernel
theorem d_15_53 : decode (mB 15) 53 = .ok (.invokevirtual 152, 3) := by decide +kernel
theorem d_15_56 : decode (mB 15) 56 = .ok (.pop, 1) := by decide +kernel
theorem d_15_57 : decode (mB 15) 57 = .ok (.aload_n 0, 1) := by decide +kernel
theorem d_15_58 : decode (mB 15) 58 = .ok (.aload_n 1, 1) := by decide +kernel
theorem d_15_59 : decode (mB 15) 59 = .ok (.getfield 59, 3) := by decide +kernel
theorem d_15_62 : decode (mB 15) 62 = .ok (.iload_n 2, 1) := by decide +kernel
theorem d_15_63 : decode (mB 15) 63 = .ok (.invokevirtual 156, 3) := by decide +kernel
theorem d_15_66 : decode (mB 15) 66 = .ok (.iconst 0, 1) := by decide +kernel
theorem d_15_67 : decode (mB 15) 67 = .ok (.istore_n 3, 1) := by decide +kernel
theorem d_15_68 : decode (mB 15) 68 = .ok (.iload_n 3, 1) := by decide +kernel
theorem d_15_69 : decode (mB 15) 69 = .ok (.aload_n 0, 1) := by decide +kernel
theorem d_15_70 : decode (mB 15) 70 = .ok (.getfield 29, 3) := by decide +kernel
theorem d_15_73 : decode (mB 15) 73 = .ok (.invokevirtual 81, 3) := by decide +kernel
theorem d_15_76 : decode (mB 15) 76 = .ok (.if_icmp .ge 51, 3) := by decide +kernel
theorem d_15_79 : decode (mB 15) 79 = .ok (.aload_n 0, 1) := by decide +kernel
theorem d_15_80 : decode (mB 15) 80 = .ok (.getfield 29, 3) := by decide +kernel
theorem d_15_83 : decode (mB 15) 83 = .ok (.iload_n 3, 1) := by decide +kernel
theorem d_15_84 : decode (mB 15) 84 = .ok (.invokevirtual 85, 3) := by decide +kernel
theorem d_15_87 : decode (mB 15) 87 = .ok (.checkcast 159, 3) := by decide +kernel
theorem d_15_90 : decode (mB 15) 90 = .ok (.astore 4, 2) := by decide +kernel
theorem d_15_92 : decode (mB 15) 92 = .ok (.aload_n 0, 1) := by decide +kernel
theorem d_15_93 : decode (mB 15) 93 = .ok (.getfield 32, 3) := by decide +kernel
theorem d_15_96 : decode (mB 15) 96 = .ok (.aload_n 1, 1) := by decide +kernel
theorem d_15_97 : decode (mB 15) 97 = .ok (.aload 4, 2) := by decide +kernel
theorem d_15_99 : decode (mB 15) 99 = .ok (.getfield 161, 3) := by decide +kernel
theorem d_15_102 : decode (mB 15) 102 = .ok (.iconst 0, 1) := by decide +kernel
theorem d_15_103 : decode (mB 15) 103 = .ok (.invokevirtual 164, 3) := by decide +kernel
theorem d_15_106 : decode (mB 15) 106 = .ok (.ifCond .eq 15, 3) := by decide +kernel
theorem d_15_109 : decode (mB 15) 109 = .ok (.aload_n 0, 1) := by decide +kernel
theorem d_15_110 : decode (mB 15) 110 = .ok (.getfield 32, 3) := by decide +kernel
theorem d_15_113 : decode (mB 15) 113 = .ok (.aload_n 1, 1) := by decide +kernel
theorem d_15_114 : decode (mB 15) 114 = .ok (.aconst_null, 1) := by decide +kernel
theorem d_15_115 : decode (mB 15) 115 = .ok (.aload 4, 2) := by decide +kernel
theorem d_15_117 : decode (mB 15) 117 = .ok (.iconst (-1), 1) := by decide +kernel
theorem d_15_118 : decode (mB 15) 118 = .ok (.invokevirtual 168, 3) := by decide +kernel
theorem d_15_121 : decode (mB 15) 121 = .ok (.iinc 3 1, 3) := by decide +kernel
theorem d_15_124 : decode (mB 15) 124 = .ok (.goto (-56), 3) := by decide +kernel
theorem d_15_127 : decode (mB 15) 127 = .ok (.aload_n 0, 1) := by decide +kernel
theorem d_15_128 : decode (mB 15) 128 = .ok (.getfield 29, 3) := by decide +kernel
theorem d_15_131 : decode (mB 15) 131 = .ok (.invokevirtual 172, 3) := by decide +kernel
theorem d_15_134 : decode (mB 15) 134 = .ok (.return_, 1) := by decide +kernel
theorem d_16_0 : decode (mB 16) 0 = .ok (.aload_n 0, 1) := by decide +kernel
theorem d_16_1 : decode (mB 16) 1 = .ok (.getfield 29, 3) := by decide +kernel
theorem d_16_4 : decode (mB 16) 4 = .ok (.invokevirtual 172, 3) := by decide +kernel
theorem d_16_7 : decode (mB 16) 7 = .ok (.iconst 0, 1) := by decide +kernel
theorem d_16_8 : decode (mB 16) 8 = .ok (.istore_n 3, 1) := by decide +kernel
theorem d_16_9 : decode (mB 16) 9 = .ok (.iload_n 3, 1) := by decide +kernel
theorem d_16_10 : decode (mB 16) 10 = .ok (.bipush 6, 2) := by decide +kernel
theorem d_16_12 : decode (mB 16) 12 = .ok (.if_icmp .ge 47, 3) := by decide +kernel
theorem d_16_15 : decode (mB 16) 15 = .ok (.aload_n 0, 1) := by decide +kernel
theorem d_16_16 : decode (mB 16) 16 = .ok (.getfield 25, 3) := by decide +kernel
theorem d_16_19 : decode (mB 16) 19 = .ok (.getfield 175, 3) := by decide +kernel
theorem d_16_22 : decode (mB 16) 22 = .ok (.iload_n 3, 1) := by decide +kernel
theorem d_16_23 : decode (mB 16) 23 = .ok (.iaload, 1) := by decide +kernel
theorem d_16_24 : decode (mB 16) 24 = .ok (.aload_n 1, 1) := by decide +kernel
theorem d_16_25 : decode (mB 16) 25 = .ok (.iload_n 3, 1) := by decide +kernel
theorem d_16_26 : decode (mB 16) 26 = .ok (.invokevirtual 178, 3) := by decide +kernel
theorem d_16_29 : decode (mB 16) 29 = .ok (.if_icmp .le 24, 3) := by decide +kernel
theorem d_16_32 : decode (mB 16) 32 = .ok (.aload_n 0, 1) := by decide +kernel
theorem d_16_33 : decode (mB 16) 33 = .ok (.getfield 29, 3) := by decide +kernel
theorem d_16_36 : decode (mB 16) 36 = .ok (.iload_n 3, 1) := by decide +kernel
theorem d_16_37 : decode (mB 16) 37 = .ok (.aload_n 0, 1) := by decide +kernel
theorem d_16_38 : decode (mB 16) 38 = .ok (.getfield 25, 3) := by decide +kernel
theorem d_16_41 : decode (mB 16) 41 = .ok (.getfield 175, 3) := by decide +kernel
theorem d_16_44 : decode (mB 16) 44 = .ok (.iload_n 3, 1) := by decide +kernel
theorem d_16_45 : decode (mB 16) 45 = .ok (.iaload, 1) := by decide +kernel
theorem d_16_46 : decode (mB 16) 46 = .ok (.invokestatic 181, 3) := by decide +kernel
theorem d_16_49 : decode (mB 16) 49 = .ok (.invokevirtual 118, 3) := by decide +kernel
theorem d_16_52 : decode (mB 16) 52 = .ok (.pop, 1) := by decide +kernel
theorem d_16_53 : decode (mB 16) 53 = .ok (.iinc 3 1, 3) := by decide +kernel
theorem d_16_56 : decode (mB 16) 56 = .ok (.goto (-47), 3) := by decide +kernel
theorem d_16_59 : decode (mB 16) 59 = .ok (.iconst 0, 1) := by decide +kernel
theorem d_16_60 : decode (mB 16) 60 = .ok (.istore_n 3, 1) := by decide +kernel
theorem d_16_61 : decode (mB 16) 61 = .ok (.iload_n 3, 1) := by decide +kernel
theorem d_16_62 : decode (mB 16) 62 = .ok (.bipush 8, 2) := by decide +kernel
theorem d_16_64 : decode (mB 16) 64 = .ok (.if_icmp .ge 40, 3) := by decide +kernel
theorem d_16_67 : decode (mB 16) 67 = .ok (.aload_n 0, 1) := by decide +kernel
theorem d_16_68 : decode (mB 16) 68 = .ok (.getfield 25, 3) := by decide +kernel
theorem d_16_71 : decode (mB 16) 71 = .ok (.getfield 185, 3) := by decide +kernel
theorem d_16_74 : decode (mB 16) 74 = .ok (.iload_n 2, 1) := by decide +kernel
theorem d_16_75 : decode (mB 16) 75 = .ok (.bipush 8, 2) := by decide +kernel
theorem d_16_77 : decode (mB 16) 77 = .ok (.imul, 1) := by decide +kernel
theorem d_16_78 : decode (mB 16) 78 = .ok (.iload_n 3, 1) := by decide +kernel
theorem d_16_79 : decode (mB 16) 79 = .ok (.iadd, 1) := by decide +kernel
theorem d_16_80 : decode (mB 16) 80 = .ok (.aaload, 1) := by decide +kernel
theorem d_16_81 : decode (mB 16) 81 = .ok (.astore 4, 2) := by decide +kernel
theorem d_16_83 : decode (mB 16) 83 = .ok (.aload 4, 2) := by decide +kernel
theorem d_16_85 : decode (mB 16) 85 = .ok (.ifnull 13, 3) := by decide +kernel
theorem d_16_88 : decode (mB 16) 88 = .ok (.aload_n 0, 1) := by decide +kernel
theorem d_16_89 : decode (mB 16) 89 = .ok (.getfield 29, 3) := by decide +kernel
theorem d_16_92 : decode (mB 16) 92 = .ok (.aload 4, 2) := by decide +kernel
theorem d_16_94 : decode (mB 16) 94 = .ok (.invokevirtual 118, 3) := by decide +kernel
theorem d_16_97 : decode (mB 16) 97 = .ok (.pop, 1) := by decide +kernel
theorem d_16_98 : decode (mB 16) 98 = .ok (.iinc 3 1, 3) := by decide +kernel
theorem d_16_101 : decode (mB 16) 101 = .ok (.goto (-40), 3) := by decide +kernel
theorem d_16_104 : decode (mB 16) 104 = .ok (.iconst 0, 1) := by decide +kernel
theorem d_16_105 : decode (mB 16) 105 = .ok (.istore_n 3, 1) := by decide +kernel
theorem d_16_106 : decode (mB 16) 106 = .ok (.iload_n 3, 1) := by decide +kernel
theorem d_16_107 : decode (mB 16) 107 = .ok (.aload_n 0, 1) := by decide +kernel
theorem d_16_108 : decode (mB 16) 108 = .ok (.getfield 25, 3) := by decide +kernel
theorem d_16_111 : decode (mB 16) 111 = .ok (.getfield 189, 3) := by decide +kernel
theorem d_16_114 : decode (mB 16) 114 = .ok (.arraylength, 1) := by decide +kernel
theorem d_16_115 : decode (mB 16) 115 = .ok (.if_icmp .ge 68, 3) := by decide +kernel
theorem d_16_118 : decode (mB 16) 118 = .ok (.aload_n 0, 1) := by decide +kernel
theorem d_16_119 : decode (mB 16) 119 = .ok (.getfield 25, 3) := by decide +kernel
theorem d_16_122 : decode (mB 16) 122 = .ok (.getfield 189, 3) := by decide +kernel
theorem d_16_125 : decode (mB 16) 125 = .ok (.iload_n 3, 1) := by decide +kernel
theorem d_16_126 : decode (mB 16) 126 = .ok (.aaload, 1) := by decide +kernel
theorem d_16_127 : decode (mB 16) 127 = .ok (.astore 4, 2) := by decide +kernel
theorem d_16_129 : decode (mB 16) 129 = .ok (.aload 4, 2) := by decide +kernel
theorem d_16_131 : decode (mB 16) 131 = .ok (.ifnull 46, 3) := by decide +kernel
theorem d_16_134 : decode (mB 16) 134 = .ok (.aload 4, 2) := by decide +kernel
theorem d_16_136 : decode (mB 16) 136 = .ok (.getfield 192, 3) := by decide +kernel
theorem d_16_139 : decode (mB 16) 139 = .ok (.invokestatic 195, 3) := by decide +kernel
theorem d_16_142 : decode (mB 16) 142 = .ok (.iload_n 2, 1) := by decide +kernel
theorem d_16_143 : decode (mB 16) 143 = .ok (.if_icmp .ne 34, 3) := by decide +kernel
theorem d_16_146 : decode (mB 16) 146 = .ok (.aload 4, 2) := by decide +kernel
theorem d_16_148 : decode (mB 16) 148 = .ok (.getfield 198, 3) := by decide +kernel
theorem d_16_151 : decode (mB 16) 151 = .ok (.aload_n 0, 1) := by decide +kernel
theorem d_16_152 : decode (mB 16) 152 = .ok (.getfield 25, 3) := by decide +kernel
theorem d_16_155 : decode (mB 16) 155 = .ok (.getfield 175, 3) := by decide +kernel
theorem d_16_158 : decode (mB 16) 158 = .ok (.aload 4, 2) := by decide +kernel
theorem d_16_160 : decode (mB 16) 160 = .ok (.getfield 199, 3) := by decide +kernel
theorem d_16_163 : decode (mB 16) 163 = .ok (.iaload, 1) := by decide +kernel
theorem d_16_164 : decode (mB 16) 164 = .ok (.if_icmp .lt 13, 3) := by decide +kernel
theorem d_16_167 : decode (mB 16) 167 = .ok (.aload_n 0, 1) := by decide +kernel
theorem d_16_168 : decode (mB 16) 168 = .ok (.getfield 29, 3) := by decide +kernel
theorem d_16_171 : decode (mB 16) 171 = .ok (.aload 4, 2) := by decide +kernel
theorem d_16_173 : decode (mB 16) 173 = .ok (.invokevirtual 118, 3) := by decide +kernel
theorem d_16_176 : decode (mB 16) 176 = .ok (.pop, 1) := by decide +kernel
theorem d_16_177 : decode (mB 16) 177 = .ok (.iinc 3 1, 3) := by decide +kernel
theorem d_16_180 : decode (mB 16) 180 = .ok (.goto (-74), 3) := by decide +kernel
theorem d_16_183 : decode (mB 16) 183 = .ok (.return_, 1) := by decide +kernel
theorem d_17_0 : decode (mB 17) 0 = .ok (.aload_n 0, 1) := by decide +kernel
theorem d_17_1 : decode (mB 17) 1 = .ok (.invokespecial 3, 3) := by decide +kernel
theorem d_17_4 : decode (mB 17) 4 = .ok (.aload_n 0, 1) := by decide +kernel
theorem d_17_5 : decode (mB 17) 5 = .ok (.new 9, 3) := by decide +kernel
theorem d_17_8 : decode (mB 17) 8 = .ok (.dup, 1) := by decide +kernel
theorem d_17_9 : decode (mB 17) 9 = .ok (.invokespecial 11, 3) := by decide +kernel
theorem d_17_12 : decode (mB 17) 12 = .ok (.putfield 12, 3) := by decide +kernel
theorem d_17_15 : decode (mB 17) 15 = .ok (.return_, 1) := by decide +kernel
theorem d_18_0 : decode (mB 18) 0 = .ok (.aconst_null, 1) := by decide +kernel
theorem d_18_1 : decode (mB 18) 1 = .ok (.astore_n 2, 1) := by decide +kernel
theorem d_18_2 : decode (mB 18) 2 = .ok (.iconst 0, 1) := by decide +kernel
theorem d_18_3 : decode (mB 18) 3 = .ok (.istore_n 3, 1) := by decide +kernel
theorem d_18_4 : decode (mB 18) 4 = .ok (.iconst 0, 1) := by decide +kernel
theorem d_18_5 : decode (mB 18) 5 = .ok (.istore 4, 2) := by decide +kernel
theorem d_18_7 : decode (mB 18) 7 = .ok (.iload 4, 2) := by decide +kernel
theorem d_18_9 : decode (mB 18) 9 = .ok (.aload_n 0, 1) := by decide +kernel
theorem d_18_10 : decode (mB 18) 10 = .ok (.getfield 12, 3) := by decide +kernel
theorem d_18_13 : decode (mB 18) 13 = .ok (.invokevirtual 18, 3) := by decide +kernel
theorem d_18_16 : decode (mB 18) 16 = .ok (.if_icmp .ge 100, 3) := by decide +kernel
theorem d_18_19 : decode (mB 18) 19 = .ok (.aload_n 0, 1) := by decide +kernel
theorem d_18_20 : decode (mB 18) 20 = .ok (.getfield 12, 3) := by decide +kernel
theorem d_18_23 : decode (mB 18) 23 = .ok (.iload 4, 2) := by decide +kernel
theorem d_18_25 : decode (mB 18) 25 = .ok (.invokevirtual 22, 3) := by decide +kernel
theorem d_18_28 : decode (mB 18) 28 = .ok (.checkcast 26, 3) := by decide +kernel
theorem d_18_31 : decode (mB 18) 31 = .ok (.astore 5, 2) := by decide +kernel
theorem d_18_33 : decode (mB 18) 33 = .ok (.iconst 0, 1) := by decide +kernel
theorem d_18_34 : decode (mB 18) 34 = .ok (.istore 6, 2) := by decide +kernel
theorem d_18_36 : decode (mB 18) 36 = .ok (.iload 6, 2) := by decide +kernel
theorem d_18_38 : decode (mB 18) 38 = .ok (.aload 5, 2) := by decide +kernel
theorem d_18_40 : decode (mB 18) 40 = .ok (.getfield 28, 3) := by decide +kernel
theorem d_18_43 : decode (mB 18) 43 = .ok (.if_icmp .ge 67, 3) := by decide +kernel
theorem d_18_46 : decode (mB 18) 46 = .ok (.aload 5, 2) := by decide +kernel
theorem d_18_48 : decode (mB 18) 48 = .ok (.getfield 32, 3) := by decide +kernel
theorem d_18_51 : decode (mB 18) 51 = .ok (.iload 6, 2) := by decide +kernel
theorem d_18_53 : decode (mB 18) 53 = .ok (.aaload, 1) := by decide +kernel
theorem d_18_54 : decode (mB 18) 54 = .ok (.astore 7, 2) := by decide +kernel
theorem d_18_56 : decode (mB 18) 56 = .ok (.aload 7, 2) := by decide +kernel
theorem d_18_58 : decode (mB 18) 58 = .ok (.getfield 36, 3) := by decide +kernel
theorem d_18_61 : decode (mB 18) 61 = .ok (.ifCond .eq 43, 3) := by decide +kernel
theorem d_18_64 : decode (mB 18) 64 = .ok (.aload 7, 2) := by decide +kernel
theorem d_18_66 : decode (mB 18) 66 = .ok (.getfield 42, 3) := by decide +kernel
theorem d_18_69 : decode (mB 18) 69 = .ok (.iload_n 1, 1) := by decide +kernel
theorem d_18_70 : decode (mB 18) 70 = .ok (.if_icmp .ne 34, 3) := by decide +kernel
theorem d_18_73 : decode (mB 18) 73 = .ok (.aload 7, 2) := by decide +kernel
theorem d_18_75 : decode (mB 18) 75 = .ok (.getfield 45, 3) := by decide +kernel
theorem d_18_78 : decode (mB 18) 78 = .ok (.iload_n 3, 1) := by decide +kernel
theorem d_18_79 : decode (mB 18) 79 = .ok (.if_icmp .le 25, 3) := by decide +kernel
theorem d_18_82 : decode (mB 18) 82 = .ok (.aload 7, 2) := by decide +kernel
theorem d_18_84 : decode (mB 18) 84 = .ok (.getfield 45, 3) := by decide +kernel
theorem d_18_87 : decode (mB 18) 87 = .ok (.istore_n 3, 1) := by decide +kernel
theorem d_18_88 : decode (mB 18) 88 = .ok (.aload 7, 2) := by decide +kernel
theorem d_18_90 : decode (mB 18) 90 = .ok (.getfield 48, 3) := by decide +kernel
theorem d_18_93 : decode (mB 18) 93 = .ok (.iconst 2, 1) := by decide +kernel
theorem d_18_94 : decode (mB 18) 94 = .ok (.if_icmp .ne 8, 3) := by decide +kernel
theorem d_18_97 : decode (mB 18) 97 = .ok (.aload 5, 2) := by decide +kernel
theorem d_18_99 : decode (mB 18) 99 = .ok (.goto 4, 3) := by decide +kernel
theorem d_18_102 : decode (mB 18) 102 = .ok (.aconst_null, 1) := by decide +kernel
theorem d_18_103 : decode (mB 18) 103 = .ok (.astore_n 2, 1) := by decide +kernel
theorem d_18_104 : decode (mB 18) 104 = .ok (.iinc 6 1, 3) := by decide +kernel
theorem d_18_107 : decode (mB 18) 107 = .ok (.goto (-71), 3) := by decide +kernel
theorem d_18_110 : decode (mB 18) 110 = .ok (.iinc 4 1, 3) := by decide +kernel
theorem d_18_113 : decode (mB 18) 113 = .ok (.goto (-106), 3) := by decide +kernel
theorem d_18_116 : decode (mB 18) 116 = .ok (.aload_n 2, 1) := by decide +kernel
theorem d_18_117 : decode (mB 18) 117 = .ok (.areturn, 1) := by decide +kernel
theorem d_19_0 : decode (mB 19) 0 = .ok (.aload_n 0, 1) := by decide +kernel
theorem d_19_1 : decode (mB 19) 1 = .ok (.iload_n 1, 1) := by decide +kernel
theorem d_19_2 : decode (mB 19) 2 = .ok (.invokevirtual 51, 3) := by decide +kernel
theorem d_19_5 : decode (mB 19) 5 = .ok (.astore_n 2, 1) := by decide +kernel
theorem d_19_6 : decode (mB 19) 6 = .ok (.aload_n 2, 1) := by decide +kernel
theorem d_19_7 : decode (mB 19) 7 = .ok (.ifnonnull 7, 3) := by decide +kernel
theorem d_19_10 : decode (mB 19) 10 = .ok (.aconst_null, 1) := by decide +kernel
theorem d_19_11 : decode (mB 19) 11 = .ok (.goto 8, 3) := by decide +kernel
theorem d_19_14 : decode (mB 19) 14 = .ok (.aload_n 2, 1) := by decide +kernel
theorem d_19_15 : decode (mB 19) 15 = .ok (.iload_n 1, 1) := by decide +kernel
theorem d_19_16 : decode (mB 19) 16 = .ok (.invokevirtual 55, 3) := by decide +kernel
theorem d_19_19 : decode (mB 19) 19 = .ok (.areturn, 1) := by decide +kernel
theorem d_20_0 : decode (mB 20) 0 = .ok (.iconst 1, 1) := by decide +kernel
theorem d_20_1 : decode (mB 20) 1 = .ok (.istore_n 2, 1) := by decide +kernel
theorem d_20_2 : decode (mB 20) 2 = .ok (.iconst 0, 1) := by decide +kernel
theorem d_20_3 : decode (mB 20) 3 = .ok (.istore_n 3, 1) := by decide +kernel
theorem d_20_4 : decode (mB 20) 4 = .ok (.iload_n 3, 1) := by decide +kernel
theorem d_20_5 : decode (mB 20) 5 = .ok (.aload_n 0, 1) := by decide +kernel
theorem d_20_6 : decode (mB 20) 6 = .ok (.getfield 12, 3) := by decide +kernel
theorem d_20_9 : decode (mB 20) 9 = .ok (.invokevirtual 18, 3) := by decide +kernel
theorem d_20_12 : decode (mB 20) 12 = .ok (.if_icmp .ge 83, 3) := by decide +kernel
theorem d_20_15 : decode (mB 20) 15 = .ok (.aload_n 0, 1) := by decide +kernel
theorem d_20_16 : decode (mB 20) 16 = .ok (.getfield 12, 3) := by decide +kernel
theorem d_20_19 : decode (mB 20) 19 = .ok (.iload_n 3, 1) := by decide +kernel
theorem d_20_20 : decode (mB 20) 20 = .ok (.invokevirtual 22, 3) := by decide +kernel
theorem d_20_23 : decode (mB 20) 23 = .ok (.checkcast 26, 3) := by decide +kernel
theorem d_20_26 : decode (mB 20) 26 = .ok (.astore 4, 2) := by decide +kernel
theorem d_20_28 : decode (mB 20) 28 = .ok (.iconst 0, 1) := by decide +kernel
theorem d_20_29 : decode (mB 20) 29 = .ok (.istore 5, 2) := by decide +kernel
theorem d_20_31 : decode (mB 20) 31 = .ok (.iload 5, 2) := by decide +kernel
theorem d_20_33 : decode (mB 20) 33 = .ok (.aload 4, 2) := by decide +kernel
theorem d_20_35 : decode (mB 20) 35 = .ok (.getfield 28, 3) := by decide +kernel
theorem d_20_38 : decode (mB 20) 38 = .ok (.if_icmp .ge 51, 3) := by decide +kernel
theorem d_20_41 : decode (mB 20) 41 = .ok (.aload 4, 2) := by decide +kernel
theorem d_20_43 : decode (mB 20) 43 = .ok (.getfield 32, 3) := by decide +kernel
theorem d_20_46 : decode (mB 20) 46 = .ok (.iload 5, 2) := by decide +kernel
theorem d_20_48 : decode (mB 20) 48 = .ok (.aaload, 1) := by decide +kernel
theorem d_20_49 : decode (mB 20) 49 = .ok (.astore 6, 2) := by decide +kernel
theorem d_20_51 : decode (mB 20) 51 = .ok (.aload 6, 2) := by decide +kernel
theorem d_20_53 : decode (mB 20) 53 = .ok (.getfield 59, 3) := by decide +kernel
theorem d_20_56 : decode (mB 20) 56 = .ok (.ifCond .eq 27, 3) := by decide +kernel
theorem d_20_59 : decode (mB 20) 59 = .ok (.aload 6, 2) := by decide +kernel
theorem d_20_61 : decode (mB 20) 61 = .ok (.getfield 62, 3) := by decide +kernel
theorem d_20_64 : decode (mB 20) 64 = .ok (.iload_n 1, 1) := by decide +kernel
theorem d_20_65 : decode (mB 20) 65 = .ok (.if_icmp .ne 18, 3) := by decide +kernel
theorem d_20_68 : decode (mB 20) 68 = .ok (.aload 6, 2) := by decide +kernel
theorem d_20_70 : decode (mB 20) 70 = .ok (.getfield 65, 3) := by decide +kernel
theorem d_20_73 : decode (mB 20) 73 = .ok (.iload_n 2, 1) := by decide +kernel
theorem d_20_74 : decode (mB 20) 74 = .ok (.if_icmp .le 9, 3) := by decide +kernel
theorem d_20_77 : decode (mB 20) 77 = .ok (.aload 6, 2) := by decide +kernel
theorem d_20_79 : decode (mB 20) 79 = .ok (.getfield 65, 3) := by decide +kernel
theorem d_20_82 : decode (mB 20) 82 = .ok (.istore_n 2, 1) := by decide +kernel
theorem d_20_83 : decode (mB 20) 83 = .ok (.iinc 5 1, 3) := by decide +kernel
theorem d_20_86 : decode (mB 20) 86 = .ok (.goto (-55), 3) := by decide +kernel
theorem d_20_89 : decode (mB 20) 89 = .ok (.iinc 3 1, 3) := by decide +kernel
theorem d_20_92 : decode (mB 20) 92 = .ok (.goto (-88), 3) := by decide +kernel
theorem d_20_95 : decode (mB 20) 95 = .ok (.iload_n 2, 1) := by decide +kernel
theorem d_20_96 : decode (mB 20) 96 = .ok (.ireturn, 1) := by decide +kernel
theorem d_21_0 : decode (mB 21) 0 = .ok (.iconst 0, 1) := by decide +kernel
theorem d_21_1 : decode (mB 21) 1 = .ok (.istore_n 3, 1) := by decide +kernel
theorem d_21_2 : decode (mB 21) 2 = .ok (.iload_n 3, 1) := by decide +kernel
theorem d_21_3 : decode (mB 21) 3 = .ok (.aload_n 0, 1) := by decide +kernel
theorem d_21_4 : decode (mB 21) 4 = .ok (.getfield 12, 3) := by decide +kernel
theorem d_21_7 : decode (mB 21) 7 = .ok (.invokevirtual 18, 3) := by decide +kernel
theorem d_21_10 : decode (mB 21) 10 = .ok (.if_icmp .ge 81, 3) := by decide +kernel
theorem d_21_13 : decode (mB 21) 13 = .ok (.aload_n 0, 1) := by decide +kernel
theorem d_21_14 : decode (mB 21) 14 = .ok (.getfield 12, 3) := by decide +kernel
theorem d_21_17 : decode (mB 21) 17 = .ok (.iload_n 3, 1) := by decide +kernel
theorem d_21_18 : decode (mB 21) 18 = .ok (.invokevirtual 22, 3) := by decide +kernel
theorem d_21_21 : decode (mB 21) 21 = .ok (.checkcast 26, 3) := by decide +kernel
theorem d_21_24 : decode (mB 21) 24 = .ok (.astore 4, 2) := by decide +kernel
theorem d_21_26 : decode (mB 21) 26 = .ok (.iconst 0, 1) := by decide +kernel
theorem d_21_27 : decode (mB 21) 27 = .ok (.istore 5, 2) := by decide +kernel
theorem d_21_29 : decode (mB 21) 29 = .ok (.iload 5, 2) := by decide +kernel
theorem d_21_31 : decode (mB 21) 31 = .ok (.aload 4, 2) := by decide +kernel
theorem d_21_33 : decode (mB 21) 33 = .ok (.getfield 28, 3) := by decide +kernel
theorem d_21_36 : decode (mB 21) 36 = .ok (.if_icmp .ge 49, 3) := by decide +kernel
theorem d_21_39 : decode (mB 21) 39 = .ok (.aload 4, 2) := by decide +kernel
theorem d_21_41 : decode (mB 21) 41 = .ok (.getfield 32, 3) := by decide +kernel
theorem d_21_44 : decode (mB 21) 44 = .ok (.iload 5, 2) := by decide +kernel
theorem d_21_46 : decode (mB 21) 46 = .ok (.aaload, 1) := by decide +kernel
theorem d_21_47 : decode (mB 21) 47 = .ok (.astore 6, 2) := by decide +kernel
theorem d_21_49 : decode (mB 21) 49 = .ok (.aload 6, 2) := by decide +kernel
theorem d_21_51 : decode (mB 21) 51 = .ok (.getfield 48, 3) := by decide +kernel
theorem d_21_54 : decode (mB 21) 54 = .ok (.iconst 4, 1) := by decide +kernel
theorem d_21_55 : decode (mB 21) 55 = .ok (.if_icmp .ne 24, 3) := by decide +kernel
theorem d_21_58 : decode (mB 21) 58 = .ok (.aload 6, 2) := by decide +kernel
theorem d_21_60 : decode (mB 21) 60 = .ok (.getfield 62, 3) := by decide +kernel
theorem d_21_63 : decode (mB 21) 63 = .ok (.iload_n 1, 1) := by decide +kernel
theorem d_21_64 : decode (mB 21) 64 = .ok (.if_icmp .ne 15, 3) := by decide +kernel
theorem d_21_67 : decode (mB 21) 67 = .ok (.aload 6, 2) := by decide +kernel
theorem d_21_69 : decode (mB 21) 69 = .ok (.getfield 68, 3) := by decide +kernel
theorem d_21_72 : decode (mB 21) 72 = .ok (.iload_n 2, 1) := by decide +kernel
theorem d_21_73 : decode (mB 21) 73 = .ok (.if_icmp .ne 6, 3) := by decide +kernel
theorem d_21_76 : decode (mB 21) 76 = .ok (.aload 6, 2) := by decide +kernel
theorem d_21_78 : decode (mB 21) 78 = .ok (.areturn, 1) := by decide +kernel
theorem d_21_79 : decode (mB 21) 79 = .ok (.iinc 5 1, 3) := by decide +kernel
theorem d_21_82 : decode (mB 21) 82 = .ok (.goto (-53), 3) := by decide +kernel
theorem d_21_85 : decode (mB 21) 85 = .ok (.iinc 3 1, 3) := by decide +kernel
theorem d_21_88 : decode (mB 21) 88 = .ok (.goto (-86), 3) := by decide +kernel
theorem d_21_91 : decode (mB 21) 91 = .ok (.aconst_null, 1) := by decide +kernel
theorem d_21_92 : decode (mB 21) 92 = .ok (.areturn, 1) := by decide +kernel
theorem d_22_0 : decode (mB 22) 0 = .ok (.aload_n 1, 1) := by decide +kernel
theorem d_22_1 : decode (mB 22) 1 = .ok (.iconst 1, 1) := by decide +kernel
theorem d_22_2 : decode (mB 22) 2 = .ok (.putfield 71, 3) := by decide +kernel
theorem d_22_5 : decode (mB 22) 5 = .ok (.iconst 0, 1) := by decide +kernel
theorem d_22_6 : decode (mB 22) 6 = .ok (.istore_n 2, 1) := by decide +kernel
theorem d_22_7 : decode (mB 22) 7 = .ok (.iload_n 2, 1) := by decide +kernel
theorem d_22_8 : decode (mB 22) 8 = .ok (.aload_n 0, 1) := by decide +kernel
theorem d_22_9 : decode (mB 22) 9 = .ok (.getfield 12, 3) := by decide +kernel
theorem d_22_12 : decode (mB 22) 12 = .ok (.invokevirtual 18, 3) := by decide +kernel
theorem d_22_15 : decode (mB 22) 15 = .ok (.if_icmp .ge 40, 3) := by decide +kernel
theorem d_22_18 : decode (mB 22) 18 = .ok (.aload_n 0, 1) := by decide +kernel
theorem d_22_19 : decode (mB 22) 19 = .ok (.getfield 12, 3) := by decide +kernel
theorem d_22_22 : decode (mB 22) 22 = .ok (.iload_n 2, 1) := by decide +kernel
theorem d_22_23 : decode (mB 22) 23 = .ok (.invokevirtual 22, 3) := by decide +kernel
theorem d_22_26 : decode (mB 22) 26 = .ok (.checkcast 26, 3) := by decide +kernel
theorem d_22_29 : decode (mB 22) 29 = .ok (.getfield 74, 3) := by decide +kernel
theorem d_22_32 : decode (mB 22) 32 = .ok (.aload_n 1, 1) := by decide +kernel
theorem d_22_33 : decode (mB 22) 33 = .ok (.getfield 74, 3) := by decide +kernel
theorem d_22_36 : decode (mB 22) 36 = .ok (.if_icmp .ne 13, 3) := by decide +kernel
theorem d_22_39 : decode (mB 22) 39 = .ok (.aload_n 0, 1) := by decide +kernel
theorem d_22_40 : decode (mB 22) 40 = .ok (.getfield 12, 3) := by decide +kernel
theorem d_22_43 : decode (mB 22) 43 = .ok (.iload_n 2, 1) := by decide +kernel
theorem d_22_44 : decode (mB 22) 44 = .ok (.invokevirtual 77, 3) := by decide +kernel
theorem d_22_47 : decode (mB 22) 47 = .ok (.pop, 1) := by decide +kernel
theorem d_22_48 : decode (mB 22) 48 = .ok (.return_, 1) := by decide +kernel
theorem d_22_49 : decode (mB 22) 49 = .ok (.iinc 2 1, 3) := by decide +kernel
theorem d_22_52 : decode (mB 22) 52 = .ok (.goto (-45), 3) := by decide +kernel
theorem d_22_55 : decode (mB 22) 55 = .ok (.return_, 1) := by decide +kernel
theorem d_23_0 : decode (mB 23) 0 = .ok (.iconst 0, 1) := by decide +kernel
theorem d_23_1 : decode (mB 23) 1 = .ok (.istore_n 2, 1) := by decide +kernel
theorem d_23_2 : decode (mB 23) 2 = .ok (.iconst 0, 1) := by decide +kernel
theorem d_23_3 : decode (mB 23) 3 = .ok (.istore_n 3, 1) := by decide +kernel
theorem d_23_4 : decode (mB 23) 4 = .ok (.iload_n 3, 1) := by decide +kernel
theorem d_23_5 : decode (mB 23) 5 = .ok (.aload_n 0, 1) := by decide +kernel
theorem d_23_6 : decode (mB 23) 6 = .ok (.getfield 12, 3) := by decide +kernel
theorem d_23_9 : decode (mB 23) 9 = .ok (.invokevirtual 18, 3) := by decide +kernel
theorem d_23_12 : decode (mB 23) 12 = .ok (.if_icmp .ge 30, 3) := by decide +kernel
theorem d_23_15 : decode (mB 23) 15 = .ok (.iload_n 2, 1) := by decide +kernel
theorem d_23_16 : decode (mB 23) 16 = .ok (.aload_n 0, 1) := by decide +kernel
theorem d_23_17 : decode (mB 23) 17 = .ok (.getfield 12, 3) := by decide +kernel
theorem d_23_20 : decode (mB 23) 20 = .ok (.iload_n 3, 1) := by decide +kernel
theorem d_23_21 : decode (mB 23) 21 = .ok (.invokevirtual 22, 3) := by decide +kernel
theorem d_23_24 : decode (mB 23) 24 = .ok (.checkcast 26, 3) := by decide +kernel
theorem d_23_27 : decode (mB 23) 27 = .ok (.getfield 80, 3) := by decide +kernel
theorem d_23_30 : decode (mB 23) 30 = .ok (.iload_n 1, 1) := by decide +kernel
theorem d_23_31 : decode (mB 23) 31 = .ok (.ishr, 1) := by decide +kernel
theorem d_23_32 : decode (mB 23) 32 = .ok (.iconst 1, 1) := by decide +kernel
theorem d_23_33 : decode (mB 23) 33 = .ok (.iand, 1) := by decide +kernel
theorem d_23_34 : decode (mB 23) 34 = .ok (.iadd, 1) := by decide +kernel
theorem d_23_35 : decode (mB 23) 35 = .ok (.istore_n 2, 1) := by decide +kernel
theorem d_23_36 : decode (mB 23) 36 = .ok (.iinc 3 1, 3) := by decide +kernel
theorem d_23_39 : decode (mB 23) 39 = .ok (.goto (-35), 3) := by decide +kernel
theorem d_23_42 : decode (mB 23) 42 = .ok (.iload_n 2, 1) := by decide +kernel
theorem d_23_43 : decode (mB 23) 43 = .ok (.ireturn, 1) := by decide +kernel
theorem d_24_0 : decode (mB 24) 0 = .ok (.aload_n 0, 1) := by decide +kernel
theorem d_24_1 : decode (mB 24) 1 = .ok (.invokespecial 1, 3) := by decide +kernel
theorem d_24_4 : decode (mB 24) 4 = .ok (.aload_n 0, 1) := by decide +kernel
theorem d_24_5 : decode (mB 24) 5 = .ok (.aload_n 1, 1) := by decide +kernel
theorem d_24_6 : decode (mB 24) 6 = .ok (.putfield 7, 3) := by decide +kernel
theorem d_24_9 : decode (mB 24) 9 = .ok (.aload_n 0, 1) := by decide +kernel
theorem d_24_10 : decode (mB 24) 10 = .ok (.iload_n 2, 1) := by decide +kernel
theorem d_24_11 : decode (mB 24) 11 = .ok (.putfield 13, 3) := by decide +kernel
theorem d_24_14 : decode (mB 24) 14 = .ok (.aload_n 0, 1) := by decide +kernel
theorem d_24_15 : decode (mB 24) 15 = .ok (.aload_n 3, 1) := by decide +kernel
theorem d_24_16 : decode (mB 24) 16 = .ok (.putfield 17, 3) := by decide +kernel
theorem d_24_19 : decode (mB 24) 19 = .ok (.aload_n 0, 1) := by decide +kernel
theorem d_24_20 : decode (mB 24) 20 = .ok (.aload 4, 2) := by decide +kernel
theorem d_24_22 : decode (mB 24) 22 = .ok (.putfield 21, 3) := by decide +kernel
theorem d_24_25 : decode (mB 24) 25 = .ok (.return_, 1) := by decide +kernel
theorem d_25_0 : decode (mB 25) 0 = .ok (.aload_n 0, 1) := by decide +kernel
theorem d_25_1 : decode (mB 25) 1 = .ok (.invokespecial 3, 3) := by decide +kernel
theorem d_25_4 : decode (mB 25) 4 = .ok (.aload_n 0, 1) := by decide +kernel
theorem d_25_5 : decode (mB 25) 5 = .ok (.iconst (-1), 1) := by decide +kernel
theorem d_25_6 : decode (mB 25) 6 = .ok (.putfield 9, 3) := by decide +kernel
theorem d_25_9 : decode (mB 25) 9 = .ok (.aload_n 0, 1) := by decide +kernel
theorem d_25_10 : decode (mB 25) 10 = .ok (.iconst (-1), 1) := by decide +kernel
theorem d_25_11 : decode (mB 25) 11 = .ok (.putfield 15, 3) := by decide +kernel
theorem d_25_14 : decode (mB 25) 14 = .ok (.aload_n 0, 1) := by decide +kernel
theorem d_25_15 : decode (mB 25) 15 = .ok (.iconst (-1), 1) := by decide +kernel
theorem d_25_16 : decode (mB 25) 16 = .ok (.putfield 18, 3) := by decide +kernel
theorem d_25_19 : decode (mB 25) 19 = .ok (.aload_n 0, 1) := by decide +kernel
theorem d_25_20 : decode (mB 25) 20 = .ok (.iload_n 1, 1) := by decide +kernel
theorem d_25_21 : decode (mB 25) 21 = .ok (.putfield 21, 3) := by decide +kernel
theorem d_25_24 : decode (mB 25) 24 = .ok (.aload_n 0, 1) := by decide +kernel
theorem d_25_25 : decode (mB 25) 25 = .ok (.iload_n 1, 1) := by decide +kernel
theorem d_25_26 : decode (mB 25) 26 = .ok (.iconst 2, 1) := by decide +kernel
theorem d_25_27 : decode (mB 25) 27 = .ok (.if_icmp .ne 7, 3) := by decide +kernel
theorem d_25_30 : decode (mB 25) 30 = .ok (.iconst 2, 1) := by decide +kernel
theorem d_25_31 : decode (mB 25) 31 = .ok (.goto 4, 3) := by decide +kernel
theorem d_25_34 : decode (mB 25) 34 = .ok (.iconst 1, 1) := by decide +kernel
theorem d_25_35 : decode (mB 25) 35 = .ok (.putfield 24, 3) := by decide +kernel
theorem d_25_38 : decode (mB 25) 38 = .ok (.aload_n 0, 1) := by decide +kernel
theorem d_25_39 : decode (mB 25) 39 = .ok (.iload_n 1, 1) := by decide +kernel
theorem d_25_40 : decode (mB 25) 40 = .ok (.iconst 2, 1) := by decide +kernel
theorem d_25_41 : decode (mB 25) 41 = .ok (.if_icmp .eq 8, 3) := by decide +kernel
theorem d_25_44 : decode (mB 25) 44 = .ok (.iload_n 1, 1) := by decide +kernel
theorem d_25_45 : decode (mB 25) 45 = .ok (.iconst 3, 1) := by decide +kernel
theorem d_25_46 : decode (mB 25) 46 = .ok (.if_icmp .ne 7, 3) := by decide +kernel
theorem d_25_49 : decode (mB 25) 49 = .ok (.iconst 1, 1) := by decide +kernel
theorem d_25_50 : decode (mB 25) 50 = .ok (.goto 4, 3) := by decide +kernel
theorem d_25_53 : decode (mB 25) 53 = .ok (.iconst 0, 1) := by decide +kernel
theorem d_25_54 : decode (mB 25) 54 = .ok (.putfield 27, 3) := by decide +kernel
theorem d_25_57 : decode (mB 25) 57 = .ok (.aload_n 0, 1) := by decide +kernel
theorem d_25_58 : decode (mB 25) 58 = .ok (.iload_n 1, 1) := by decide +kernel
theorem d_25_59 : decode (mB 25) 59 = .ok (.iconst 4, 1) := by decide +kernel
theorem d_25_60 : decode (mB 25) 60 = .ok (.if_icmp .eq 8, 3) := by decide +kernel
theorem d_25_63 : decode (mB 25) 63 = .ok (.iload_n 1, 1) := by decide +kernel
theorem d_25_64 : decode (mB 25) 64 = .ok (.iconst 1, 1) := by decide +kernel
theorem d_25_65 : decode (mB 25) 65 = .ok (.if_icmp .ne 7, 3) := by decide +kernel
theorem d_25_68 : decode (mB 25) 68 = .ok (.iconst 1, 1) := by decide +kernel
theorem d_25_69 : decode (mB 25) 69 = .ok (.goto 4, 3) := by decide +kernel
theorem d_25_72 : decode (mB 25) 72 = .ok (.iconst 0, 1) := by decide +kernel
theorem d_25_73 : decode (mB 25) 73 = .ok (.putfield 31, 3) := by decide +kernel
theorem d_25_76 : decode (mB 25) 76 = .ok (.return_, 1) := by decide +kernel
theorem d_26_0 : decode (mB 26) 0 = .ok (.new 10, 3) := by decide +kernel
theorem d_26_3 : decode (mB 26) 3 = .ok (.dup, 1) := by decide +kernel
theorem d_26_4 : decode (mB 26) 4 = .ok (.iconst 0, 1) := by decide +kernel
theorem d_26_5 : decode (mB 26) 5 = .ok (.invokespecial 34, 3) := by decide +kernel
theorem d_26_8 : decode (mB 26) 8 = .ok (.astore_n 1, 1) := by decide +kernel
theorem d_26_9 : decode (mB 26) 9 = .ok (.aload_n 1, 1) := by decide +kernel
theorem d_26_10 : decode (mB 26) 10 = .ok (.iload_n 0, 1) := by decide +kernel
theorem d_26_11 : decode (mB 26) 11 = .ok (.putfield 37, 3) := by decide +kernel
theorem d_26_14 : decode (mB 26) 14 = .ok (.aload_n 1, 1) := by decide +kernel
theorem d_26_15 : decode (mB 26) 15 = .ok (.areturn, 1) := by decide +kernel
theorem d_27_0 : decode (mB 27) 0 = .ok (.new 10, 3) := by decide +kernel
theorem d_27_3 : decode (mB 27) 3 = .ok (.dup, 1) := by decide +kernel
theorem d_27_4 : decode (mB 27) 4 = .ok (.iconst 1, 1) := by decide +kernel
theorem d_27_5 : decode (mB 27) 5 = .ok (.invokespecial 34, 3) := by decide +kernel
theorem d_27_8 : decode (mB 27) 8 = .ok (.astore_n 2, 1) := by decide +kernel
theorem d_27_9 : decode (mB 27) 9 = .ok (.aload_n 2, 1) := by decide +kernel
theorem d_27_10 : decode (mB 27) 10 = .ok (.iload_n 0, 1) := by decide +kernel
theorem d_27_11 : decode (mB 27) 11 = .ok (.putfield 9, 3) := by decide +kernel
theorem d_27_14 : decode (mB 27) 14 = .ok (.aload_n 2, 1) := by decide +kernel
theorem d_27_15 : decode (mB 27) 15 = .ok (.iload_n 1, 1) := by decide +kernel
theorem d_27_16 : decode (mB 27) 16 = .ok (.putfield 40, 3) := by decide +kernel
theorem d_27_19 : decode (mB 27) 19 = .ok (.aload_n 2, 1) := by decide +kernel
theorem d_27_20 : decode (mB 27) 20 = .ok (.areturn, 1) := by decide +kernel
theorem d_28_0 : decode (mB 28) 0 = .ok (.new 10, 3) := by decide +kernel
theorem d_28_3 : decode (mB 28) 3 = .ok (.dup, 1) := by decide +kernel
theorem d_28_4 : decode (mB 28) 4 = .ok (.iconst 2, 1) := by decide +kernel
theorem d_28_5 : decode (mB 28) 5 = .ok (.invokespecial 34, 3) := by decide +kernel
theorem d_28_8 : decode (mB 28) 8 = .ok (.astore_n 3, 1) := by decide +kernel
theorem d_28_9 : decode (mB 28) 9 = .ok (.aload_n 3, 1) := by decide +kernel
theorem d_28_10 : decode (mB 28) 10 = .ok (.iload_n 0, 1) := by decide +kernel
theorem d_28_11 : decode (mB 28) 11 = .ok (.putfield 18, 3) := by decide +kernel
theorem d_28_14 : decode (mB 28) 14 = .ok (.aload_n 3, 1) := by decide +kernel
theorem d_28_15 : decode (mB 28) 15 = .ok (.iload_n 1, 1) := by decide +kernel
theorem d_28_16 : decode (mB 28) 16 = .ok (.putfield 43, 3) := by decide +kernel
theorem d_28_19 : decode (mB 28) 19 = .ok (.aload_n 3, 1) := by decide +kernel
theorem d_28_20 : decode (mB 28) 20 = .ok (.iload_n 2, 1) := by decide +kernel
theorem d_28_21 : decode (mB 28) 21 = .ok (.putfield 37, 3) := by decide +kernel
theorem d_28_24 : decode (mB 28) 24 = .ok (.aload_n 3, 1) := by decide +kernel
theorem d_28_25 : decode (mB 28) 25 = .ok (.areturn, 1) := by decide +kernel
theorem d_29_0 : decode (mB 29) 0 = .ok (.new 10, 3) := by decide +kernel
theorem d_29_3 : decode (mB 29) 3 = .ok (.dup, 1) := by decide +kernel
theorem d_29_4 : decode (mB 29) 4 = .ok (.iconst 3, 1) := by decide +kernel
theorem d_29_5 : decode (mB 29) 5 = .ok (.invokespecial 34, 3) := by decide +kernel
theorem d_29_8 : decode (mB 29) 8 = .ok (.astore_n 2, 1) := by decide +kernel
theorem d_29_9 : decode (mB 29) 9 = .ok (.aload_n 2, 1) := by decide +kernel
theorem d_29_10 : decode (mB 29) 10 = .ok (.iload_n 0, 1) := by decide +kernel
theorem d_29_11 : decode (mB 29) 11 = .ok (.putfield 18, 3) := by decide +kernel
theorem d_29_14 : decode (mB 29) 14 = .ok (.aload_n 2, 1) := by decide +kernel
theorem d_29_15 : decode (mB 29) 15 = .ok (.iload_n 1, 1) := by decide +kernel
theorem d_29_16 : decode (mB 29) 16 = .ok (.putfield 37, 3) := by decide +kernel
theorem d_29_19 : decode (mB 29) 19 = .ok (.aload_n 2, 1) := by decide +kernel
theorem d_29_20 : decode (mB 29) 20 = .ok (.areturn, 1) := by decide +kernel
theorem d_30_0 : decode (mB 30) 0 = .ok (.new 10, 3) := by decide +kernel
theorem d_30_3 : decode (mB 30) 3 = .ok (.dup, 1) := by decide +kernel
theorem d_30_4 : decode (mB 30) 4 = .ok (.iconst 4, 1) := by decide +kernel
theorem d_30_5 : decode (mB 30) 5 = .ok (.invokespecial 34, 3) := by decide +kernel
theorem d_30_8 : decode (mB 30) 8 = .ok (.astore_n 2, 1) := by decide +kernel
theorem d_30_9 : decode (mB 30) 9 = .ok (.aload_n 2, 1) := by decide +kernel
theorem d_30_10 : decode (mB 30) 10 = .ok (.aload_n 0, 1) := by decide +kernel
theorem d_30_11 : decode (mB 30) 11 = .ok (.getfield 46, 3) := by decide +kernel
theorem d_30_14 : decode (mB 30) 14 = .ok (.putfield 9, 3) := by decide +kernel
theorem d_30_17 : decode (mB 30) 17 = .ok (.aload_n 2, 1) := by decide +kernel
theorem d_30_18 : decode (mB 30) 18 = .ok (.aload_n 0, 1) := by decide +kernel
theorem d_30_19 : decode (mB 30) 19 = .ok (.getfield 49, 3) := by decide +kernel
theorem d_30_22 : decode (mB 30) 22 = .ok (.putfield 15, 3) := by decide +kernel
theorem d_30_25 : decode (mB 30) 25 = .ok (.aload_n 2, 1) := by decide +kernel
theorem d_30_26 : decode (mB 30) 26 = .ok (.aload_n 0, 1) := by decide +kernel
theorem d_30_27 : decode (mB 30) 27 = .ok (.getfield 50, 3) := by decide +kernel
theorem d_30_30 : decode (mB 30) 30 = .ok (.putfield 18, 3) := by decide +kernel
theorem d_30_33 : decode (mB 30) 33 = .ok (.aload_n 2, 1) := by decide +kernel
theorem d_30_34 : decode (mB 30) 34 = .ok (.iload_n 1, 1) := by decide +kernel
theorem d_30_35 : decode (mB 30) 35 = .ok (.putfield 40, 3) := by decide +kernel
theorem d_30_38 : decode (mB 30) 38 = .ok (.aload_n 2, 1) := by decide +kernel
theorem d_30_39 : decode (mB 30) 39 = .ok (.areturn, 1) := by decide +kernel
theorem d_31_0 : decode (mB 31) 0 = .ok (.aload_n 0, 1) := by decide +kernel
theorem d_31_1 : decode (mB 31) 1 = .ok (.iload_n 1, 1) := by decide +kernel
theorem d_31_2 : decode (mB 31) 2 = .ok (.putfield 51, 3) := by decide +kernel
theorem d_31_5 : decode (mB 31) 5 = .ok (.aload_n 0, 1) := by decide +kernel
theorem d_31_6 : decode (mB 31) 6 = .ok (.iload_n 2, 1) := by decide +kernel
theorem d_31_7 : decode (mB 31) 7 = .ok (.putfield 43, 3) := by decide +kernel
theorem d_31_10 : decode (mB 31) 10 = .ok (.aload_n 0, 1) := by decide +kernel
theorem d_31_11 : decode (mB 31) 11 = .ok (.iload_n 3, 1) := by decide +kernel
theorem d_31_12 : decode (mB 31) 12 = .ok (.putfield 37, 3) := by decide +kernel
theorem d_31_15 : decode (mB 31) 15 = .ok (.return_, 1) := by decide +kernel
theorem d_32_0 : decode (mB 32) 0 = .ok (.aload_n 0, 1) := by decide +kernel
theorem d_32_1 : decode (mB 32) 1 = .ok (.invokespecial 1, 3) := by decide +kernel
theorem d_32_4 : decode (mB 32) 4 = .ok (.aload_n 0, 1) := by decide +kernel
theorem d_32_5 : decode (mB 32) 5 = .ok (.iload_n 1, 1) := by decide +kernel
theorem d_32_6 : decode (mB 32) 6 = .ok (.putfield 7, 3) := by decide +kernel
theorem d_32_9 : decode (mB 32) 9 = .ok (.aload_n 0, 1) := by decide +kernel
theorem d_32_10 : decode (mB 32) 10 = .ok (.iload_n 2, 1) := by decide +kernel
theorem d_32_11 : decode (mB 32) 11 = .ok (.putfield 13, 3) := by decide +kernel
theorem d_32_14 : decode (mB 32) 14 = .ok (.aload_n 0, 1) := by decide +kernel
theorem d_32_15 : decode (mB 32) 15 = .ok (.iload_n 3, 1) := by decide +kernel
theorem d_32_16 : decode (mB 32) 16 = .ok (.putfield 16, 3) := by decide +kernel
theorem d_32_19 : decode (mB 32) 19 = .ok (.aload_n 0, 1) := by decide +kernel
theorem d_32_20 : decode (mB 32) 20 = .ok (.iload 4, 2) := by decide +kernel
theorem d_32_22 : decode (mB 32) 22 = .ok (.putfield 19, 3) := by decide +kernel
theorem d_32_25 : decode (mB 32) 25 = .ok (.aload_n 0, 1) := by decide +kernel
theorem d_32_26 : decode (mB 32) 26 = .ok (.iload 5, 2) := by decide +kernel
theorem d_32_28 : decode (mB 32) 28 = .ok (.putfield 22, 3) := by decide +kernel
theorem d_32_31 : decode (mB 32) 31 = .ok (.aload_n 0, 1) := by decide +kernel
theorem d_32_32 : decode (mB 32) 32 = .ok (.iload 6, 2) := by decide +kernel
theorem d_32_34 : decode (mB 32) 34 = .ok (.putfield 25, 3) := by decide +kernel
theorem d_32_37 : decode (mB 32) 37 = .ok (.return_, 1) := by decide +kernel
theorem d_33_0 : decode (mB 33) 0 = .ok (.aload_n 0, 1) := by decide +kernel
theorem d_33_1 : decode (mB 33) 1 = .ok (.invokespecial 3, 3) := by decide +kernel
theorem d_33_4 : decode (mB 33) 4 = .ok (.aload_n 0, 1) := by decide +kernel
theorem d_33_5 : decode (mB 33) 5 = .ok (.iload_n 1, 1) := by decide +kernel
theorem d_33_6 : decode (mB 33) 6 = .ok (.putfield 9, 3) := by decide +kernel
theorem d_33_9 : decode (mB 33) 9 = .ok (.aload_n 0, 1) := by decide +kernel
theorem d_33_10 : decode (mB 33) 10 = .ok (.iload_n 2, 1) := by decide +kernel
theorem d_33_11 : decode (mB 33) 11 = .ok (.anewarray 15, 3) := by decide +kernel
theorem d_33_14 : decode (mB 33) 14 = .ok (.putfield 17, 3) := by decide +kernel
theorem d_33_17 : decode (mB 33) 17 = .ok (.aload_n 0, 1) := by decide +kernel
theorem d_33_18 : decode (mB 33) 18 = .ok (.iload_n 2, 1) := by decide +kernel
theorem d_33_19 : decode (mB 33) 19 = .ok (.newarray .boolean, 2) := by decide +kernel
theorem d_33_21 : decode (mB 33) 21 = .ok (.putfield 21, 3) := by decide +kernel
theorem d_33_24 : decode (mB 33) 24 = .ok (.aload_n 0, 1) := by decide +kernel
theorem d_33_25 : decode (mB 33) 25 = .ok (.iload_n 2, 1) := by decide +kernel
theorem d_33_26 : decode (mB 33) 26 = .ok (.newarray .int, 2) := by decide +kernel
theorem d_33_28 : decode (mB 33) 28 = .ok (.putfield 25, 3) := by decide +kernel
theorem d_33_31 : decode (mB 33) 31 = .ok (.aload_n 0, 1) := by decide +kernel
theorem d_33_32 : decode (mB 33) 32 = .ok (.iload_n 3, 1) := by decide +kernel
theorem d_33_33 : decode (mB 33) 33 = .ok (.newarray .int, 2) := by decide +kernel
theorem d_33_35 : decode (mB 33) 35 = .ok (.putfield 29, 3) := by decide +kernel
theorem d_33_38 : decode (mB 33) 38 = .ok (.aload_n 0, 1) := by decide +kernel
theorem d_33_39 : decode (mB 33) 39 = .ok (.iload_n 3, 1) := by decide +kernel
theorem d_33_40 : decode (mB 33) 40 = .ok (.newarray .int, 2) := by decide +kernel
theorem d_33_42 : decode (mB 33) 42 = .ok (.putfield 32, 3) := by decide +kernel
theorem d_33_45 : decode (mB 33) 45 = .ok (.return_, 1) := by decide +kernel
theorem d_34_0 : decode (mB 34) 0 = .ok (.aload_n 0, 1) := by decide +kernel
theorem d_34_1 : decode (mB 34) 1 = .ok (.getfield 35, 3) := by decide +kernel
theorem d_34_4 : decode (mB 34) 4 = .ok (.aload_n 0, 1) := by decide +kernel
theorem d_34_5 : decode (mB 34) 5 = .ok (.getfield 29, 3) := by decide +kernel
theorem d_34_8 : decode (mB 34) 8 = .ok (.arraylength, 1) := by decide +kernel
theorem d_34_9 : decode (mB 34) 9 = .ok (.if_icmp .ge 48, 3) := by decide +kernel
theorem d_34_12 : decode (mB 34) 12 = .ok (.aload_n 0, 1) := by decide +kernel
theorem d_34_13 : decode (mB 34) 13 = .ok (.getfield 29, 3) := by decide +kernel
theorem d_34_16 : decode (mB 34) 16 = .ok (.aload_n 0, 1) := by decide +kernel
theorem d_34_17 : decode (mB 34) 17 = .ok (.getfield 35, 3) := by decide +kernel
theorem d_34_20 : decode (mB 34) 20 = .ok (.iload_n 1, 1) := by decide +kernel
theorem d_34_21 : decode (mB 34) 21 = .ok (.iastore, 1) := by decide +kernel
theorem d_34_22 : decode (mB 34) 22 = .ok (.aload_n 0, 1) := by decide +kernel
theorem d_34_23 : decode (mB 34) 23 = .ok (.getfield 32, 3) := by decide +kernel
theorem d_34_26 : decode (mB 34) 26 = .ok (.aload_n 0, 1) := by decide +kernel
theorem d_34_27 : decode (mB 34) 27 = .ok (.getfield 35, 3) := by decide +kernel
theorem d_34_30 : decode (mB 34) 30 = .ok (.aload_n 0, 1) := by decide +kernel
theorem d_34_31 : decode (mB 34) 31 = .ok (.getfield 38, 3) := by decide +kernel
theorem d_34_34 : decode (mB 34) 34 = .ok (.iastore, 1) := by decide +kernel
theorem d_34_35 : decode (mB 34) 35 = .ok (.aload_n 0, 1) := by decide +kernel
theorem d_34_36 : decode (mB 34) 36 = .ok (.dup, 1) := by decide +kernel
theorem d_34_37 : decode (mB 34) 37 = .ok (.getfield 35, 3) := by decide +kernel
theorem d_34_40 : decode (mB 34) 40 = .ok (.iconst 1, 1) := by decide +kernel
theorem d_34_41 : decode (mB 34) 41 = .ok (.iadd, 1) := by decide +kernel
theorem d_34_42 : decode (mB 34) 42 = .ok (.putfield 35, 3) := by decide +kernel
theorem d_34_45 : decode (mB 34) 45 = .ok (.aload_n 0, 1) := by decide +kernel
theorem d_34_46 : decode (mB 34) 46 = .ok (.dup, 1) := by decide +kernel
theorem d_34_47 : decode (mB 34) 47 = .ok (.getfield 41, 3) := by decide +kernel
theorem d_34_50 : decode (mB 34) 50 = .ok (.iconst 1, 1) := by decide +kernel
theorem d_34_51 : decode (mB 34) 51 = .ok (.iload_n 1, 1) := by decide +kernel
theorem d_34_52 : decode (mB 34) 52 = .ok (.ishl, 1) := by decide +kernel
theorem d_34_53 : decode (mB 34) 53 = .ok (.ior, 1) := by decide +kernel
theorem d_34_54 : decode (mB 34) 54 = .ok (.putfield 41, 3) := by decide +kernel
theorem d_34_57 : decode (mB 34) 57 = .ok (.return_, 1) := by decide +kernel
theorem d_35_0 : decode (mB 35) 0 = .ok (.aload_n 1, 1) := by decide +kernel
theorem d_35_1 : decode (mB 35) 1 = .ok (.ifnonnull 7, 3) := by decide +kernel
theorem d_35_4 : decode (mB 35) 4 = .ok (.iconst 1, 1) := by decide +kernel
theorem d_35_5 : decode (mB 35) 5 = .ok (.goto 4, 3) := by decide +kernel
theorem d_35_8 : decode (mB 35) 8 = .ok (.iconst 2, 1) := by decide +kernel
theorem d_35_9 : decode (mB 35) 9 = .ok (.istore 4, 2) := by decide +kernel
theorem d_35_11 : decode (mB 35) 11 = .ok (.aload_n 0, 1) := by decide +kernel
theorem d_35_12 : decode (mB 35) 12 = .ok (.getfield 44, 3) := by decide +kernel
theorem d_35_15 : decode (mB 35) 15 = .ok (.iload 4, 2) := by decide +kernel
theorem d_35_17 : decode (mB 35) 17 = .ok (.iadd, 1) := by decide +kernel
theorem d_35_18 : decode (mB 35) 18 = .ok (.aload_n 0, 1) := by decide +kernel
theorem d_35_19 : decode (mB 35) 19 = .ok (.getfield 17, 3) := by decide +kernel
theorem d_35_22 : decode (mB 35) 22 = .ok (.arraylength, 1) := by decide +kernel
theorem d_35_23 : decode (mB 35) 23 = .ok (.if_icmp .le 4, 3) := by decide +kernel
theorem d_35_26 : decode (mB 35) 26 = .ok (.return_, 1) := by decide +kernel
theorem d_35_27 : decode (mB 35) 27 = .ok (.aload_n 1, 1) := by decide +kernel
theorem d_35_28 : decode (mB 35) 28 = .ok (.ifnull 36, 3) := by decide +kernel
theorem d_35_31 : decode (mB 35) 31 = .ok (.aload_n 0, 1) := by decide +kernel
theorem d_35_32 : decode (mB 35) 32 = .ok (.getfield 17, 3) := by decide +kernel
theorem d_35_35 : decode (mB 35) 35 = .ok (.aload_n 0, 1) := by decide +kernel
theorem d_35_36 : decode (mB 35) 36 = .ok (.getfield 44, 3) := by decide +kernel
theorem d_35_39 : decode (mB 35) 39 = .ok (.aload_n 1, 1) := by decide +kernel
theorem d_35_40 : decode (mB 35) 40 = .ok (.aastore, 1) := by decide +kernel
theorem d_35_41 : decode (mB 35) 41 = .ok (.aload_n 0, 1) := by decide +kernel
theorem d_35_42 : decode (mB 35) 42 = .ok (.dup, 1) := by decide +kernel
theorem d_35_43 : decode (mB 35) 43 = .ok (.getfield 44, 3) := by decide +kernel
theorem d_35_46 : decode (mB 35) 46 = .ok (.iconst 1, 1) := by decide +kernel
theorem d_35_47 : decode (mB 35) 47 = .ok (.iadd, 1) := by decide +kernel
theorem d_35_48 : decode (mB 35) 48 = .ok (.putfield 44, 3) := by decide +kernel
theorem d_35_51 : decode (mB 35) 51 = .ok (.aload_n 0, 1) := by decide +kernel
theorem d_35_52 : decode (mB 35) 52 = .ok (.dup, 1) := by decide +kernel
theorem d_35_53 : decode (mB 35) 53 = .ok (.getfield 47, 3) := by decide +kernel
theorem d_35_56 : decode (mB 35) 56 = .ok (.aload_n 1, 1) := by decide +kernel
theorem d_35_57 : decode (mB 35) 57 = .ok (.getfield 50, 3) := by decide +kernel
theorem d_35_60 : decode (mB 35) 60 = .ok (.iadd, 1) := by decide +kernel
theorem d_35_61 : decode (mB 35) 61 = .ok (.putfield 47, 3) := by decide +kernel
theorem d_35_64 : decode (mB 35) 64 = .ok (.aload_n 0, 1) := by decide +kernel
theorem d_35_65 : decode (mB 35) 65 = .ok (.getfield 17, 3) := by decide +kernel
theorem d_35_68 : decode (mB 35) 68 = .ok (.aload_n 0, 1) := by decide +kernel
theorem d_35_69 : decode (mB 35) 69 = .ok (.getfield 44, 3) := by decide +kernel
theorem d_35_72 : decode (mB 35) 72 = .ok (.aload_n 2, 1) := by decide +kernel
theorem d_35_73 : decode (mB 35) 73 = .ok (.aastore, 1) := by decide +kernel
theorem d_35_74 : decode (mB 35) 74 = .ok (.aload_n 0, 1) := by decide +kernel
theorem d_35_75 : decode (mB 35) 75 = .ok (.dup, 1) := by decide +kernel
theorem d_35_76 : decode (mB 35) 76 = .ok (.getfield 44, 3) := by decide +kernel
theorem d_35_79 : decode (mB 35) 79 = .ok (.iconst 1, 1) := by decide +kernel
theorem d_35_80 : decode (mB 35) 80 = .ok (.iadd, 1) := by decide +kernel
theorem d_35_81 : decode (mB 35) 81 = .ok (.putfield 44, 3) := by decide +kernel
theorem d_35_84 : decode (mB 35) 84 = .ok (.aload_n 0, 1) := by decide +kernel
theorem d_35_85 : decode (mB 35) 85 = .ok (.dup, 1) := by decide +kernel
theorem d_35_86 : decode (mB 35) 86 = .ok (.getfield 47, 3) := by decide +kernel
theorem d_35_89 : decode (mB 35) 89 = .ok (.aload_n 2, 1) := by decide +kernel
theorem d_35_90 : decode (mB 35) 90 = .ok (.getfield 50, 3) := by decide +kernel
theorem d_35_93 : decode (mB 35) 93 = .ok (.iadd, 1) := by decide +kernel
theorem d_35_94 : decode (mB 35) 94 = .ok (.putfield 47, 3) := by decide +kernel
theorem d_35_97 : decode (mB 35) 97 = .ok (.aload_n 0, 1) := by decide +kernel
theorem d_35_98 : decode (mB 35) 98 = .ok (.getfield 25, 3) := by decide +kernel
theorem d_35_101 : decode (mB 35) 101 = .ok (.aload_n 0, 1) := by decide +kernel
theorem d_35_102 : decode (mB 35) 102 = .ok (.getfield 38, 3) := by decide +kernel
theorem d_35_105 : decode (mB 35) 105 = .ok (.aload_n 0, 1) := by decide +kernel
theorem d_35_106 : decode (mB 35) 106 = .ok (.getfield 44, 3) := by decide +kernel
theorem d_35_109 : decode (mB 35) 109 = .ok (.iastore, 1) := by decide +kernel
theorem d_35_110 : decode (mB 35) 110 = .ok (.aload_n 0, 1) := by decide +kernel
theorem d_35_111 : decode (mB 35) 111 = .ok (.dup, 1) := by decide +kernel
theorem d_35_112 : decode (mB 35) 112 = .ok (.getfield 38, 3) := by decide +kernel
theorem d_35_115 : decode (mB 35) 115 = .ok (.iconst 1, 1) := by decide +kernel
theorem d_35_116 : decode (mB 35) 116 = .ok (.iadd, 1) := by decide +kernel
theorem d_35_117 : decode (mB 35) 117 = .ok (.putfield 38, 3) := by decide +kernel
theorem d_35_120 : decode (mB 35) 120 = .ok (.iconst 0, 1) := by decide +kernel
theorem d_35_121 : decode (mB 35) 121 = .ok (.istore 5, 2) := by decide +kernel
theorem d_35_123 : decode (mB 35) 123 = .ok (.iload 5, 2) := by decide +kernel
theorem d_35_125 : decode (mB 35) 125 = .ok (.iload_n 3, 1) := by decide +kernel
theorem d_35_126 : decode (mB 35) 126 = .ok (.if_icmp .ge 29, 3) := by decide +kernel
theorem d_35_129 : decode (mB 35) 129 = .ok (.iload 5, 2) := by decide +kernel
theorem d_35_131 : decode (mB 35) 131 = .ok (.aload_n 0, 1) := by decide +kernel
theorem d_35_132 : decode (mB 35) 132 = .ok (.getfield 35, 3) := by decide +kernel
theorem d_35_135 : decode (mB 35) 135 = .ok (.if_icmp .ge 20, 3) := by decide +kernel
theorem d_35_138 : decode (mB 35) 138 = .ok (.aload_n 0, 1) := by decide +kernel
theorem d_35_139 : decode (mB 35) 139 = .ok (.getfield 32, 3) := by decide +kernel
theorem d_35_142 : decode (mB 35) 142 = .ok (.iload 5, 2) := by decide +kernel
theorem d_35_144 : decode (mB 35) 144 = .ok (.aload_n 0, 1) := by decide +kernel
theorem d_35_145 : decode (mB 35) 145 = .ok (.getfield 38, 3) := by decide +kernel
theorem d_35_148 : decode (mB 35) 148 = .ok (.iastore, 1) := by decide +kernel
theorem d_35_149 : decode (mB 35) 149 = .ok (.iinc 5 1, 3) := by decide +kernel
theorem d_35_152 : decode (mB 35) 152 = .ok (.goto (-29), 3) := by decide +kernel
theorem d_35_155 : decode (mB 35) 155 = .ok (.return_, 1) := by decide +kernel
theorem d_36_0 : decode (mB 36) 0 = .ok (.iconst 0, 1) := by decide +kernel
theorem d_36_1 : decode (mB 36) 1 = .ok (.istore_n 2, 1) := by decide +kernel
theorem d_36_2 : decode (mB 36) 2 = .ok (.iconst 0, 1) := by decide +kernel
theorem d_36_3 : decode (mB 36) 3 = .ok (.istore_n 3, 1) := by decide +kernel
theorem d_36_4 : decode (mB 36) 4 = .ok (.iload_n 3, 1) := by decide +kernel
theorem d_36_5 : decode (mB 36) 5 = .ok (.aload_n 0, 1) := by decide +kernel
theorem d_36_6 : decode (mB 36) 6 = .ok (.getfield 35, 3) := by decide +kernel
theorem d_36_9 : decode (mB 36) 9 = .ok (.if_icmp .ge 40, 3) := by decide +kernel
theorem d_36_12 : decode (mB 36) 12 = .ok (.iload_n 1, 1) := by decide +kernel
theorem d_36_13 : decode (mB 36) 13 = .ok (.aload_n 0, 1) := by decide +kernel
theorem d_36_14 : decode (mB 36) 14 = .ok (.getfield 29, 3) := by decide +kernel
theorem d_36_17 : decode (mB 36) 17 = .ok (.iload_n 3, 1) := by decide +kernel
theorem d_36_18 : decode (mB 36) 18 = .ok (.iaload, 1) := by decide +kernel
theorem d_36_19 : decode (mB 36) 19 = .ok (.ishr, 1) := by decide +kernel
theorem d_36_20 : decode (mB 36) 20 = .ok (.iconst 1, 1) := by decide +kernel
theorem d_36_21 : decode (mB 36) 21 = .ok (.iand, 1) := by decide +kernel
theorem d_36_22 : decode (mB 36) 22 = .ok (.iconst 1, 1) := by decide +kernel
theorem d_36_23 : decode (mB 36) 23 = .ok (.if_icmp .ne 20, 3) := by decide +kernel
theorem d_36_26 : decode (mB 36) 26 = .ok (.aload_n 0, 1) := by decide +kernel
theorem d_36_27 : decode (mB 36) 27 = .ok (.getfield 32, 3) := by decide +kernel
theorem d_36_30 : decode (mB 36) 30 = .ok (.iload_n 3, 1) := by decide +kernel
theorem d_36_31 : decode (mB 36) 31 = .ok (.iaload, 1) := by decide +kernel
theorem d_36_32 : decode (mB 36) 32 = .ok (.iload_n 2, 1) := by decide +kernel
theorem d_36_33 : decode (mB 36) 33 = .ok (.if_icmp .le 10, 3) := by decide +kernel
theorem d_36_36 : decode (mB 36) 36 = .ok (.aload_n 0, 1) := by decide +kernel
theorem d_36_37 : decode (mB 36) 37 = .ok (.getfield 32, 3) := by decide +kernel
theorem d_36_40 : decode (mB 36) 40 = .ok (.iload_n 3, 1) := by decide +kernel
theorem d_36_41 : decode (mB 36) 41 = .ok (.iaload, 1) := by decide +kernel
theorem d_36_42 : decode (mB 36) 42 = .ok (.istore_n 2, 1) := by decide +kernel
theorem d_36_43 : decode (mB 36) 43 = .ok (.iinc 3 1, 3) := by decide +kernel
theorem d_36_46 : decode (mB 36) 46 = .ok (.goto (-42), 3) := by decide +kernel
theorem d_36_49 : decode (mB 36) 49 = .ok (.iload_n 2, 1) := by decide +kernel
theorem d_36_50 : decode (mB 36) 50 = .ok (.ifCond .ne 7, 3) := by decide +kernel
theorem d_36_53 : decode (mB 36) 53 = .ok (.iconst 0, 1) := by decide +kernel
theorem d_36_54 : decode (mB 36) 54 = .ok (.goto 11, 3) := by decide +kernel
theorem d_36_57 : decode (mB 36) 57 = .ok (.aload_n 0, 1) := by decide +kernel
theorem d_36_58 : decode (mB 36) 58 = .ok (.getfield 25, 3) := by decide +kernel
theorem d_36_61 : decode (mB 36) 61 = .ok (.iload_n 2, 1) := by decide +kernel
theorem d_36_62 : decode (mB 36) 62 = .ok (.iconst 1, 1) := by decide +kernel
theorem d_36_63 : decode (mB 36) 63 = .ok (.isub, 1) := by decide +kernel
theorem d_36_64 : decode (mB 36) 64 = .ok (.iaload, 1) := by decide +kernel
theorem d_36_65 : decode (mB 36) 65 = .ok (.ireturn, 1) := by decide +kernel
theorem d_37_0 : decode (mB 37) 0 = .ok (.aconst_null, 1) := by decide +kernel
theorem d_37_1 : decode (mB 37) 1 = .ok (.astore_n 2, 1) := by decide +kernel
theorem d_37_2 : decode (mB 37) 2 = .ok (.iconst 0, 1) := by decide +kernel
theorem d_37_3 : decode (mB 37) 3 = .ok (.istore_n 3, 1) := by decide +kernel
theorem d_37_4 : decode (mB 37) 4 = .ok (.iload_n 3, 1) := by decide +kernel
theorem d_37_5 : decode (mB 37) 5 = .ok (.aload_n 0, 1) := by decide +kernel
theorem d_37_6 : decode (mB 37) 6 = .ok (.getfield 44, 3) := by decide +kernel
theorem d_37_9 : decode (mB 37) 9 = .ok (.if_icmp .ge 54, 3) := by decide +kernel
theorem d_37_12 : decode (mB 37) 12 = .ok (.aload_n 0, 1) := by decide +kernel
theorem d_37_13 : decode (mB 37) 13 = .ok (.getfield 17, 3) := by decide +kernel
theorem d_37_16 : decode (mB 37) 16 = .ok (.iload_n 3, 1) := by decide +kernel
theorem d_37_17 : decode (mB 37) 17 = .ok (.aaload, 1) := by decide +kernel
theorem d_37_18 : decode (mB 37) 18 = .ok (.astore 4, 2) := by decide +kernel
theorem d_37_20 : decode (mB 37) 20 = .ok (.aload 4, 2) := by decide +kernel
theorem d_37_22 : decode (mB 37) 22 = .ok (.getfield 51, 3) := by decide +kernel
theorem d_37_25 : decode (mB 37) 25 = .ok (.iconst 2, 1) := by decide +kernel
theorem d_37_26 : decode (mB 37) 26 = .ok (.if_icmp .ne 31, 3) := by decide +kernel
theorem d_37_29 : decode (mB 37) 29 = .ok (.aload 4, 2) := by decide +kernel
theorem d_37_31 : decode (mB 37) 31 = .ok (.getfield 54, 3) := by decide +kernel
theorem d_37_34 : decode (mB 37) 34 = .ok (.iload_n 1, 1) := by decide +kernel
theorem d_37_35 : decode (mB 37) 35 = .ok (.if_icmp .ne 22, 3) := by decide +kernel
theorem d_37_38 : decode (mB 37) 38 = .ok (.aload_n 2, 1) := by decide +kernel
theorem d_37_39 : decode (mB 37) 39 = .ok (.ifnull 15, 3) := by decide +kernel
theorem d_37_42 : decode (mB 37) 42 = .ok (.aload 4, 2) := by decide +kernel
theorem d_37_44 : decode (mB 37) 44 = .ok (.getfield 57, 3) := by decide +kernel
theorem d_37_47 : decode (mB 37) 47 = .ok (.aload_n 2, 1) := by decide +kernel
theorem d_37_48 : decode (mB 37) 48 = .ok (.getfield 57, 3) := by decide +kernel
theorem d_37_51 : decode (mB 37) 51 = .ok (.if_icmp .le 6, 3) := by decide +kernel
theorem d_37_54 : decode (mB 37) 54 = .ok (.aload 4, 2) := by decide +kernel
theorem d_37_56 : decode (mB 37) 56 = .ok (.astore_n 2, 1) := by decide +kernel
theorem d_37_57 : decode (mB 37) 57 = .ok (.iinc 3 1, 3) := by decide +kernel
theorem d_37_60 : decode (mB 37) 60 = .ok (.goto (-56), 3) := by decide +kernel
theorem d_37_63 : decode (mB 37) 63 = .ok (.aload_n 2, 1) := by decide +kernel
theorem d_37_64 : decode (mB 37) 64 = .ok (.areturn, 1) := by decide +kernel
theorem d_38_0 : decode (mB 38) 0 = .ok (.aload_n 0, 1) := by decide +kernel
theorem d_38_1 : decode (mB 38) 1 = .ok (.invokespecial 3, 3) := by decide +kernel
theorem d_38_4 : decode (mB 38) 4 = .ok (.aload_n 0, 1) := by decide +kernel
theorem d_38_5 : decode (mB 38) 5 = .ok (.iconst 0, 1) := by decide +kernel
theorem d_38_6 : decode (mB 38) 6 = .ok (.putfield 9, 3) := by decide +kernel
theorem d_38_9 : decode (mB 38) 9 = .ok (.aload_n 0, 1) := by decide +kernel
theorem d_38_10 : decode (mB 38) 10 = .ok (.iconst (-1), 1) := by decide +kernel
theorem d_38_11 : decode (mB 38) 11 = .ok (.putfield 15, 3) := by decide +kernel
theorem d_38_14 : decode (mB 38) 14 = .ok (.aload_n 0, 1) := by decide +kernel
theorem d_38_15 : decode (mB 38) 15 = .ok (.new 18, 3) := by decide +kernel
theorem d_38_18 : decode (mB 38) 18 = .ok (.dup, 1) := by decide +kernel
theorem d_38_19 : decode (mB 38) 19 = .ok (.invokespecial 20, 3) := by decide +kernel
theorem d_38_22 : decode (mB 38) 22 = .ok (.putfield 21, 3) := by decide +kernel
theorem d_38_25 : decode (mB 38) 25 = .ok (.aload_n 0, 1) := by decide +kernel
theorem d_38_26 : decode (mB 38) 26 = .ok (.iload_n 1, 1) := by decide +kernel
theorem d_38_27 : decode (mB 38) 27 = .ok (.putfield 25, 3) := by decide +kernel
theorem d_38_30 : decode (mB 38) 30 = .ok (.return_, 1) := by decide +kernel
theorem d_39_0 : decode (mB 39) 0 = .ok (.aload_n 0, 1) := by decide +kernel
theorem d_39_1 : decode (mB 39) 1 = .ok (.iconst 0, 1) := by decide +kernel
theorem d_39_2 : decode (mB 39) 2 = .ok (.putfield 28, 3) := by decide +kernel
theorem d_39_5 : decode (mB 39) 5 = .ok (.aload_n 0, 1) := by decide +kernel
theorem d_39_6 : decode (mB 39) 6 = .ok (.iconst 0, 1) := by decide +kernel
theorem d_39_7 : decode (mB 39) 7 = .ok (.putfield 32, 3) := by decide +kernel
theorem d_39_10 : decode (mB 39) 10 = .ok (.aload_n 0, 1) := by decide +kernel
theorem d_39_11 : decode (mB 39) 11 = .ok (.iconst 0, 1) := by decide +kernel
theorem d_39_12 : decode (mB 39) 12 = .ok (.putfield 35, 3) := by decide +kernel
theorem d_39_15 : decode (mB 39) 15 = .ok (.aload_n 0, 1) := by decide +kernel
theorem d_39_16 : decode (mB 39) 16 = .ok (.iconst (-1), 1) := by decide +kernel
theorem d_39_17 : decode (mB 39) 17 = .ok (.putfield 15, 3) := by decide +kernel
theorem d_39_20 : decode (mB 39) 20 = .ok (.aload_n 0, 1) := by decide +kernel
theorem d_39_21 : decode (mB 39) 21 = .ok (.new 18, 3) := by decide +kernel
theorem d_39_24 : decode (mB 39) 24 = .ok (.dup, 1) := by decide +kernel
theorem d_39_25 : decode (mB 39) 25 = .ok (.invokespecial 20, 3) := by decide +kernel
theorem d_39_28 : decode (mB 39) 28 = .ok (.putfield 21, 3) := by decide +kernel
theorem d_39_31 : decode (mB 39) 31 = .ok (.return_, 1) := by decide +kernel
theorem d_40_0 : decode (mB 40) 0 = .ok (.aload_n 0, 1) := by decide +kernel
theorem d_40_1 : decode (mB 40) 1 = .ok (.invokespecial 3, 3) := by decide +kernel
theorem d_40_4 : decode (mB 40) 4 = .ok (.aload_n 0, 1) := by decide +kernel
theorem d_40_5 : decode (mB 40) 5 = .ok (.new 9, 3) := by decide +kernel
theorem d_40_8 : decode (mB 40) 8 = .ok (.dup, 1) := by decide +kernel
theorem d_40_9 : decode (mB 40) 9 = .ok (.invokespecial 11, 3) := by decide +kernel
theorem d_40_12 : decode (mB 40) 12 = .ok (.putfield 12, 3) := by decide +kernel
theorem d_40_15 : decode (mB 40) 15 = .ok (.aload_n 0, 1) := by decide +kernel
theorem d_40_16 : decode (mB 40) 16 = .ok (.new 18, 3) := by decide +kernel
theorem d_40_19 : decode (mB 40) 19 = .ok (.dup, 1) := by decide +kernel
theorem d_40_20 : decode (mB 40) 20 = .ok (.invokespecial 20, 3) := by decide +kernel
theorem d_40_23 : decode (mB 40) 23 = .ok (.putfield 21, 3) := by decide +kernel
theorem d_40_26 : decode (mB 40) 26 = .ok (.aload_n 0, 1) := by decide +kernel
theorem d_40_27 : decode (mB 40) 27 = .ok (.iload_n 2, 1) := by decide +kernel
theorem d_40_28 : decode (mB 40) 28 = .ok (.putfield 25, 3) := by decide +kernel
theorem d_40_31 : decode (mB 40) 31 = .ok (.aload_n 0, 1) := by decide +kernel
theorem d_40_32 : decode (mB 40) 32 = .ok (.iload_n 3, 1) := by decide +kernel
theorem d_40_33 : decode (mB 40) 33 = .ok (.putfield 29, 3) := by decide +kernel
theorem d_40_36 : decode (mB 40) 36 = .ok (.aload_n 0, 1) := by decide +kernel
theorem d_40_37 : decode (mB 40) 37 = .ok (.iload 4, 2) := by decide +kernel
theorem d_40_39 : decode (mB 40) 39 = .ok (.putfield 32, 3) := by decide +kernel
theorem d_40_42 : decode (mB 40) 42 = .ok (.aload_n 0, 1) := by decide +kernel
theorem d_40_43 : decode (mB 40) 43 = .ok (.iload_n 1, 1) := by decide +kernel
theorem d_40_44 : decode (mB 40) 44 = .ok (.anewarray 35, 3) := by decide +kernel
theorem d_40_47 : decode (mB 40) 47 = .ok (.putfield 37, 3) := by decide +kernel
theorem d_40_50 : decode (mB 40) 50 = .ok (.iconst 0, 1) := by decide +kernel
theorem d_40_51 : decode (mB 40) 51 = .ok (.istore 5, 2) := by decide +kernel
theorem d_40_53 : decode (mB 40) 53 = .ok (.iload 5, 2) := by decide +kernel
theorem d_40_55 : decode (mB 40) 55 = .ok (.aload_n 0, 1) := by decide +kernel
theorem d_40_56 : decode (mB 40) 56 = .ok (.getfield 37, 3) := by decide +kernel
theorem d_40_59 : decode (mB 40) 59 = .ok (.arraylength, 1) := by decide +kernel
theorem d_40_60 : decode (mB 40) 60 = .ok (.if_icmp .ge 38, 3) := by decide +kernel
theorem d_40_63 : decode (mB 40) 63 = .ok (.aload_n 0, 1) := by decide +kernel
theorem d_40_64 : decode (mB 40) 64 = .ok (.getfield 37, 3) := by decide +kernel
theorem d_40_67 : decode (mB 40) 67 = .ok (.iload 5, 2) := by decide +kernel
theorem d_40_69 : decode (mB 40) 69 = .ok (.new 35, 3) := by decide +kernel
theorem d_40_72 : decode (mB 40) 72 = .ok (.dup, 1) := by decide +kernel
theorem d_40_73 : decode (mB 40) 73 = .ok (.iload 5, 2) := by decide +kernel
theorem d_40_75 : decode (mB 40) 75 = .ok (.invokespecial 41, 3) := by decide +kernel
theorem d_40_78 : decode (mB 40) 78 = .ok (.aastore, 1) := by decide +kernel
theorem d_40_79 : decode (mB 40) 79 = .ok (.aload_n 0, 1) := by decide +kernel
theorem d_40_80 : decode (mB 40) 80 = .ok (.dup, 1) := by decide +kernel
theorem d_40_81 : decode (mB 40) 81 = .ok (.getfield 44, 3) := by decide +kernel
theorem d_40_84 : decode (mB 40) 84 = .ok (.iconst 1, 1) := by decide +kernel
theorem d_40_85 : decode (mB 40) 85 = .ok (.iload 5, 2) := by decide +kernel
theorem d_40_87 : decode (mB 40) 87 = .ok (.ishl, 1) := by decide +kernel
theorem d_40_88 : decode (mB 40) 88 = .ok (.ior, 1) := by decide +kernel
theorem d_40_89 : decode (mB 40) 89 = .ok (.putfield 44, 3) := by decide +kernel
theorem d_40_92 : decode (mB 40) 92 = .ok (.iinc 5 1, 3) := by decide +kernel
theorem d_40_95 : decode (mB 40) 95 = .ok (.goto (-42), 3) := by decide +kernel
theorem d_40_98 : decode (mB 40) 98 = .ok (.return_, 1) := by decide +kernel
theorem d_41_0 : decode (mB 41) 0 = .ok (.aload_n 1, 1) := by decide +kernel
theorem d_41_1 : decode (mB 41) 1 = .ok (.iload_n 2, 1) := by decide +kernel
theorem d_41_2 : decode (mB 41) 2 = .ok (.putfield 47, 3) := by decide +kernel
theorem d_41_5 : decode (mB 41) 5 = .ok (.aload_n 0, 1) := by decide +kernel
theorem d_41_6 : decode (mB 41) 6 = .ok (.dup, 1) := by decide +kernel
theorem d_41_7 : decode (mB 41) 7 = .ok (.getfield 44, 3) := by decide +kernel
theorem d_41_10 : decode (mB 41) 10 = .ok (.iconst 1, 1) := by decide +kernel
theorem d_41_11 : decode (mB 41) 11 = .ok (.aload_n 1, 1) := by decide +kernel
theorem d_41_12 : decode (mB 41) 12 = .ok (.getfield 50, 3) := by decide +kernel
theorem d_41_15 : decode (mB 41) 15 = .ok (.ishl, 1) := by decide +kernel
theorem d_41_16 : decode (mB 41) 16 = .ok (.iconst (-1), 1) := by decide +kernel
theorem d_41_17 : decode (mB 41) 17 = .ok (.ixor, 1) := by decide +kernel
theorem d_41_18 : decode (mB 41) 18 = .ok (.iand, 1) := by decide +kernel
theorem d_41_19 : decode (mB 41) 19 = .ok (.putfield 44, 3) := by decide +kernel
theorem d_41_22 : decode (mB 41) 22 = .ok (.iload_n 2, 1) := by decide +kernel
theorem d_41_23 : decode (mB 41) 23 = .ok (.ifCond .ne 18, 3) := by decide +kernel
theorem d_41_26 : decode (mB 41) 26 = .ok (.aload_n 0, 1) := by decide +kernel
theorem d_41_27 : decode (mB 41) 27 = .ok (.dup, 1) := by decide +kernel
theorem d_41_28 : decode (mB 41) 28 = .ok (.getfield 44, 3) := by decide +kernel
theorem d_41_31 : decode (mB 41) 31 = .ok (.iconst 1, 1) := by decide +kernel
theorem d_41_32 : decode (mB 41) 32 = .ok (.aload_n 1, 1) := by decide +kernel
theorem d_41_33 : decode (mB 41) 33 = .ok (.getfield 50, 3) := by decide +kernel
theorem d_41_36 : decode (mB 41) 36 = .ok (.ishl, 1) := by decide +kernel
theorem d_41_37 : decode (mB 41) 37 = .ok (.ior, 1) := by decide +kernel
theorem d_41_38 : decode (mB 41) 38 = .ok (.putfield 44, 3) := by decide +kernel
theorem d_41_41 : decode (mB 41) 41 = .ok (.return_, 1) := by decide +kernel
theorem d_42_0 : decode (mB 42) 0 = .ok (.aload_n 0, 1) := by decide +kernel
theorem d_42_1 : decode (mB 42) 1 = .ok (.getfield 44, 3) := by decide +kernel
theorem d_42_4 : decode (mB 42) 4 = .ok (.iload_n 1, 1) := by decide +kernel
theorem d_42_5 : decode (mB 42) 5 = .ok (.ishr, 1) := by decide +kernel
theorem d_42_6 : decode (mB 42) 6 = .ok (.iconst 1, 1) := by decide +kernel
theorem d_42_7 : decode (mB 42) 7 = .ok (.iand, 1) := by decide +kernel
theorem d_42_8 : decode (mB 42) 8 = .ok (.iconst 1, 1) := by decide +kernel
theorem d_42_9 : decode (mB 42) 9 = .ok (.if_icmp .ne 7, 3) := by decide +kernel
theorem d_42_12 : decode (mB 42) 12 = .ok (.iconst 1, 1) := by decide +kernel
theorem d_42_13 : decode (mB 42) 13 = .ok (.goto 4, 3) := by decide +kernel
theorem d_42_16 : decode (mB 42) 16 = .ok (.iconst 0, 1) := by decide +kernel
theorem d_42_17 : decode (mB 42) 17 = .ok (.ireturn, 1) := by decide +kernel
theorem d_43_0 : decode (mB 43) 0 = .ok (.aload_n 1, 1) := by decide +kernel
theorem d_43_1 : decode (mB 43) 1 = .ok (.getfield 53, 3) := by decide +kernel
theorem d_43_4 : decode (mB 43) 4 = .ok (.aload_n 0, 1) := by decide +kernel
theorem d_43_5 : decode (mB 43) 5 = .ok (.getfield 44, 3) := by decide +kernel
theorem d_43_8 : decode (mB 43) 8 = .ok (.iconst (-1), 1) := by decide +kernel
theorem d_43_9 : decode (mB 43) 9 = .ok (.ixor, 1) := by decide +kernel
theorem d_43_10 : decode (mB 43) 10 = .ok (.iand, 1) := by decide +kernel
theorem d_43_11 : decode (mB 43) 11 = .ok (.ifCond .ne 7, 3) := by decide +kernel
theorem d_43_14 : decode (mB 43) 14 = .ok (.iconst 1, 1) := by decide +kernel
theorem d_43_15 : decode (mB 43) 15 = .ok (.goto 4, 3) := by decide +kernel
theorem d_43_18 : decode (mB 43) 18 = .ok (.iconst 0, 1) := by decide +kernel
theorem d_43_19 : decode (mB 43) 19 = .ok (.ireturn, 1) := by decide +kernel
theorem d_44_0 : decode (mB 44) 0 = .ok (.bipush 7, 2) := by decide +kernel
theorem d_44_2 : decode (mB 44) 2 = .ok (.iload_n 1, 1) := by decide +kernel
theorem d_44_3 : decode (mB 44) 3 = .ok (.imul, 1) := by decide +kernel
theorem d_44_4 : decode (mB 44) 4 = .ok (.iconst 3, 1) := by decide +kernel
theorem d_44_5 : decode (mB 44) 5 = .ok (.aload_n 2, 1) := by decide +kernel
theorem d_44_6 : decode (mB 44) 6 = .ok (.getfield 50, 3) := by decide +kernel
theorem d_44_9 : decode (mB 44) 9 = .ok (.imul, 1) := by decide +kernel
theorem d_44_10 : decode (mB 44) 10 = .ok (.iadd, 1) := by decide +kernel
theorem d_44_11 : decode (mB 44) 11 = .ok (.iload_n 3, 1) := by decide +kernel
theorem d_44_12 : decode (mB 44) 12 = .ok (.iadd, 1) := by decide +kernel
theorem d_44_13 : decode (mB 44) 13 = .ok (.aload_n 0, 1) := by decide +kernel
theorem d_44_14 : decode (mB 44) 14 = .ok (.getfield 37, 3) := by decide +kernel
theorem d_44_17 : decode (mB 44) 17 = .ok (.arraylength, 1) := by decide +kernel
theorem d_44_18 : decode (mB 44) 18 = .ok (.irem, 1) := by decide +kernel
theorem d_44_19 : decode (mB 44) 19 = .ok (.ireturn, 1) := by decide +kernel
theorem d_45_0 : decode (mB 45) 0 = .ok (.aload_n 1, 1) := by decide +kernel
theorem d_45_1 : decode (mB 45) 1 = .ok (.getfield 58, 3) := by decide +kernel
theorem d_45_4 : decode (mB 45) 4 = .ok (.getfield 62, 3) := by decide +kernel
theorem d_45_7 : decode (mB 45) 7 = .ok (.astore 4, 2) := by decide +kernel
theorem d_45_9 : decode (mB 45) 9 = .ok (.aload 4, 2) := by decide +kernel
theorem d_45_11 : decode (mB 45) 11 = .ok (.ifnull 28, 3) := by decide +kernel
theorem d_45_14 : decode (mB 45) 14 = .ok (.aload_n 0, 1) := by decide +kernel
theorem d_45_15 : decode (mB 45) 15 = .ok (.aload 4, 2) := by decide +kernel
theorem d_45_17 : decode (mB 45) 17 = .ok (.invokevirtual 68, 3) := by decide +kernel
theorem d_45_20 : decode (mB 45) 20 = .ok (.ifCond .eq 19, 3) := by decide +kernel
theorem d_45_23 : decode (mB 45) 23 = .ok (.aload 4, 2) := by decide +kernel
theorem d_45_25 : decode (mB 45) 25 = .ok (.getfield 72, 3) := by decide +kernel
theorem d_45_28 : decode (mB 45) 28 = .ok (.iload_n 2, 1) := by decide +kernel
theorem d_45_29 : decode (mB 45) 29 = .ok (.iadd, 1) := by decide +kernel
theorem d_45_30 : decode (mB 45) 30 = .ok (.aload_n 0, 1) := by decide +kernel
theorem d_45_31 : decode (mB 45) 31 = .ok (.getfield 29, 3) := by decide +kernel
theorem d_45_34 : decode (mB 45) 34 = .ok (.if_icmp .gt 5, 3) := by decide +kernel
theorem d_45_37 : decode (mB 45) 37 = .ok (.iconst 1, 1) := by decide +kernel
theorem d_45_38 : decode (mB 45) 38 = .ok (.ireturn, 1) := by decide +kernel
theorem d_45_39 : decode (mB 45) 39 = .ok (.aload_n 0, 1) := by decide +kernel
theorem d_45_40 : decode (mB 45) 40 = .ok (.aload_n 1, 1) := by decide +kernel
theorem d_45_41 : decode (mB 45) 41 = .ok (.iload_n 3, 1) := by decide +kernel
theorem d_45_42 : decode (mB 45) 42 = .ok (.invokevirtual 73, 3) := by decide +kernel
theorem d_45_45 : decode (mB 45) 45 = .ok (.ireturn, 1) := by decide +kernel
theorem d_46_0 : decode (mB 46) 0 = .ok (.aload_n 0, 1) := by decide +kernel
theorem d_46_1 : decode (mB 46) 1 = .ok (.getfield 77, 3) := by decide +kernel
theorem d_46_4 : decode (mB 46) 4 = .ok (.ifCond .ne 26, 3) := by decide +kernel
theorem d_46_7 : decode (mB 46) 7 = .ok (.aload_n 0, 1) := by decide +kernel
theorem d_46_8 : decode (mB 46) 8 = .ok (.getfield 44, 3) := by decide +kernel
theorem d_46_11 : decode (mB 46) 11 = .ok (.iconst 1, 1) := by decide +kernel
theorem d_46_12 : decode (mB 46) 12 = .ok (.aload_n 1, 1) := by decide +kernel
theorem d_46_13 : decode (mB 46) 13 = .ok (.getfield 50, 3) := by decide +kernel
theorem d_46_16 : decode (mB 46) 16 = .ok (.ishl, 1) := by decide +kernel
theorem d_46_17 : decode (mB 46) 17 = .ok (.iconst (-1), 1) := by decide +kernel
theorem d_46_18 : decode (mB 46) 18 = .ok (.ixor, 1) := by decide +kernel
theorem d_46_19 : decode (mB 46) 19 = .ok (.iand, 1) := by decide +kernel
theorem d_46_20 : decode (mB 46) 20 = .ok (.invokestatic 81, 3) := by decide +kernel
theorem d_46_23 : decode (mB 46) 23 = .ok (.aload_n 0, 1) := by decide +kernel
theorem d_46_24 : decode (mB 46) 24 = .ok (.getfield 25, 3) := by decide +kernel
theorem d_46_27 : decode (mB 46) 27 = .ok (.if_icmp .ge 5, 3) := by decide +kernel
theorem d_46_30 : decode (mB 46) 30 = .ok (.iconst 0, 1) := by decide +kernel
theorem d_46_31 : decode (mB 46) 31 = .ok (.ireturn, 1) := by decide +kernel
theorem d_46_32 : decode (mB 46) 32 = .ok (.aload_n 1, 1) := by decide +kernel
theorem d_46_33 : decode (mB 46) 33 = .ok (.getfield 58, 3) := by decide +kernel
theorem d_46_36 : decode (mB 46) 36 = .ok (.astore_n 3, 1) := by decide +kernel
theorem d_46_37 : decode (mB 46) 37 = .ok (.aload_n 3, 1) := by decide +kernel
theorem d_46_38 : decode (mB 46) 38 = .ok (.aconst_null, 1) := by decide +kernel
theorem d_46_39 : decode (mB 46) 39 = .ok (.putfield 62, 3) := by decide +kernel
theorem d_46_42 : decode (mB 46) 42 = .ok (.aload_n 3, 1) := by decide +kernel
theorem d_46_43 : decode (mB 46) 43 = .ok (.getfield 87, 3) := by decide +kernel
theorem d_46_46 : decode (mB 46) 46 = .ok (.invokevirtual 90, 3) := by decide +kernel
theorem d_46_49 : decode (mB 46) 49 = .ok (.aload_n 0, 1) := by decide +kernel
theorem d_46_50 : decode (mB 46) 50 = .ok (.getfield 32, 3) := by decide +kernel
theorem d_46_53 : decode (mB 46) 53 = .ok (.iconst 1, 1) := by decide +kernel
theorem d_46_54 : decode (mB 46) 54 = .ok (.isub, 1) := by decide +kernel
theorem d_46_55 : decode (mB 46) 55 = .ok (.if_icmp .lt 8, 3) := by decide +kernel
theorem d_46_58 : decode (mB 46) 58 = .ok (.aload_n 0, 1) := by decide +kernel
theorem d_46_59 : decode (mB 46) 59 = .ok (.aload_n 1, 1) := by decide +kernel
theorem d_46_60 : decode (mB 46) 60 = .ok (.invokevirtual 94, 3) := by decide +kernel
theorem d_46_63 : decode (mB 46) 63 = .ok (.iload_n 2, 1) := by decide +kernel
theorem d_46_64 : decode (mB 46) 64 = .ok (.ifCond .eq 19, 3) := by decide +kernel
theorem d_46_67 : decode (mB 46) 67 = .ok (.aload_n 3, 1) := by decide +kernel
theorem d_46_68 : decode (mB 46) 68 = .ok (.getfield 87, 3) := by decide +kernel
theorem d_46_71 : decode (mB 46) 71 = .ok (.invokevirtual 90, 3) := by decide +kernel
theorem d_46_74 : decode (mB 46) 74 = .ok (.aload_n 0, 1) := by decide +kernel
theorem d_46_75 : decode (mB 46) 75 = .ok (.getfield 32, 3) := by decide +kernel
theorem d_46_78 : decode (mB 46) 78 = .ok (.if_icmp .lt 5, 3) := by decide +kernel
theorem d_46_81 : decode (mB 46) 81 = .ok (.iconst 0, 1) := by decide +kernel
theorem d_46_82 : decode (mB 46) 82 = .ok (.ireturn, 1) := by decide +kernel
theorem d_46_83 : decode (mB 46) 83 = .ok (.aload_n 0, 1) := by decide +kernel
theorem d_46_84 : decode (mB 46) 84 = .ok (.aload_n 1, 1) := by decide +kernel
theorem d_46_85 : decode (mB 46) 85 = .ok (.invokevirtual 98, 3) := by decide +kernel
theorem d_46_88 : decode (mB 46) 88 = .ok (.astore 4, 2) := by decide +kernel
theorem d_46_90 : decode (mB 46) 90 = .ok (.aload 4, 2) := by decide +kernel
theorem d_46_92 : decode (mB 46) 92 = .ok (.aconst_null, 1) := by decide +kernel
theorem d_46_93 : decode (mB 46) 93 = .ok (.aload_n 1, 1) := by decide +kernel
theorem d_46_94 : decode (mB 46) 94 = .ok (.getfield 102, 3) := by decide +kernel
theorem d_46_97 : decode (mB 46) 97 = .ok (.invokestatic 105, 3) := by decide +kernel
theorem d_46_100 : decode (mB 46) 100 = .ok (.aload 4, 2) := by decide +kernel
theorem d_46_102 : decode (mB 46) 102 = .ok (.getfield 111, 3) := by decide +kernel
theorem d_46_105 : decode (mB 46) 105 = .ok (.invokevirtual 114, 3) := by decide +kernel
theorem d_46_108 : decode (mB 46) 108 = .ok (.aload_n 3, 1) := by decide +kernel
theorem d_46_109 : decode (mB 46) 109 = .ok (.getfield 87, 3) := by decide +kernel
theorem d_46_112 : decode (mB 46) 112 = .ok (.aload 4, 2) := by decide +kernel
theorem d_46_114 : decode (mB 46) 114 = .ok (.invokevirtual 118, 3) := by decide +kernel
theorem d_46_117 : decode (mB 46) 117 = .ok (.pop, 1) := by decide +kernel
theorem d_46_118 : decode (mB 46) 118 = .ok (.aload_n 3, 1) := by decide +kernel
theorem d_46_119 : decode (mB 46) 119 = .ok (.aload 4, 2) := by decide +kernel
theorem d_46_121 : decode (mB 46) 121 = .ok (.putfield 62, 3) := by decide +kernel
theorem d_46_124 : decode (mB 46) 124 = .ok (.aload_n 3, 1) := by decide +kernel
theorem d_46_125 : decode (mB 46) 125 = .ok (.aload 4, 2) := by decide +kernel
theorem d_46_127 : decode (mB 46) 127 = .ok (.putfield 122, 3) := by decide +kernel
theorem d_46_130 : decode (mB 46) 130 = .ok (.iconst 1, 1) := by decide +kernel
theorem d_46_131 : decode (mB 46) 131 = .ok (.ireturn, 1) := by decide +kernel
theorem d_47_0 : decode (mB 47) 0 = .ok (.new 54, 3) := by decide +kernel
theorem d_47_3 : decode (mB 47) 3 = .ok (.dup, 1) := by decide +kernel
theorem d_47_4 : decode (mB 47) 4 = .ok (.aload_n 0, 1) := by decide +kernel
theorem d_47_5 : decode (mB 47) 5 = .ok (.getfield 125, 3) := by decide +kernel
theorem d_47_8 : decode (mB 47) 8 = .ok (.aload_n 0, 1) := by decide +kernel
theorem d_47_9 : decode (mB 47) 9 = .ok (.getfield 29, 3) := by decide +kernel
theorem d_47_12 : decode (mB 47) 12 = .ok (.aload_n 0, 1) := by decide +kernel
theorem d_47_13 : decode (mB 47) 13 = .ok (.getfield 37, 3) := by decide +kernel
theorem d_47_16 : decode (mB 47) 16 = .ok (.arraylength, 1) := by decide +kernel
theorem d_47_17 : decode (mB 47) 17 = .ok (.invokespecial 128, 3) := by decide +kernel
theorem d_47_20 : decode (mB 47) 20 = .ok (.astore_n 2, 1) := by decide +kernel
theorem d_47_21 : decode (mB 47) 21 = .ok (.aload_n 0, 1) := by decide +kernel
theorem d_47_22 : decode (mB 47) 22 = .ok (.dup, 1) := by decide +kernel
theorem d_47_23 : decode (mB 47) 23 = .ok (.getfield 125, 3) := by decide +kernel
theorem d_47_26 : decode (mB 47) 26 = .ok (.iconst 1, 1) := by decide +kernel
theorem d_47_27 : decode (mB 47) 27 = .ok (.iadd, 1) := by decide +kernel
theorem d_47_28 : decode (mB 47) 28 = .ok (.putfield 125, 3) := by decide +kernel
theorem d_47_31 : decode (mB 47) 31 = .ok (.iconst 0, 1) := by decide +kernel
theorem d_47_32 : decode (mB 47) 32 = .ok (.istore_n 3, 1) := by decide +kernel
theorem d_47_33 : decode (mB 47) 33 = .ok (.iload_n 3, 1) := by decide +kernel
theorem d_47_34 : decode (mB 47) 34 = .ok (.aload_n 0, 1) := by decide +kernel
theorem d_47_35 : decode (mB 47) 35 = .ok (.getfield 37, 3) := by decide +kernel
theorem d_47_38 : decode (mB 47) 38 = .ok (.arraylength, 1) := by decide +kernel
theorem d_47_39 : decode (mB 47) 39 = .ok (.if_icmp .ge 56, 3) := by decide +kernel
theorem d_47_42 : decode (mB 47) 42 = .ok (.aload_n 2, 1) := by decide +kernel
theorem d_47_43 : decode (mB 47) 43 = .ok (.getfield 111, 3) := by decide +kernel
theorem d_47_46 : decode (mB 47) 46 = .ok (.aload_n 0, 1) := by decide +kernel
theorem d_47_47 : decode (mB 47) 47 = .ok (.getfield 25, 3) := by decide +kernel
theorem d_47_50 : decode (mB 47) 50 = .ok (.if_icmp .ge 45, 3) := by decide +kernel
theorem d_47_53 : decode (mB 47) 53 = .ok (.aload_n 0, 1) := by decide +kernel
theorem d_47_54 : decode (mB 47) 54 = .ok (.aload_n 2, 1) := by decide +kernel
theorem d_47_55 : decode (mB 47) 55 = .ok (.getfield 131, 3) := by decide +kernel
theorem d_47_58 : decode (mB 47) 58 = .ok (.aload_n 1, 1) := by decide +kernel
theorem d_47_59 : decode (mB 47) 59 = .ok (.iload_n 3, 1) := by decide +kernel
theorem d_47_60 : decode (mB 47) 60 = .ok (.invokevirtual 134, 3) := by decide +kernel
theorem d_47_63 : decode (mB 47) 63 = .ok (.istore 4, 2) := by decide +kernel
theorem d_47_65 : decode (mB 47) 65 = .ok (.iload 4, 2) := by decide +kernel
theorem d_47_67 : decode (mB 47) 67 = .ok (.aload_n 1, 1) := by decide +kernel
theorem d_47_68 : decode (mB 47) 68 = .ok (.getfield 50, 3) := by decide +kernel
theorem d_47_71 : decode (mB 47) 71 = .ok (.if_icmp .eq 18, 3) := by decide +kernel
theorem d_47_74 : decode (mB 47) 74 = .ok (.aload_n 0, 1) := by decide +kernel
theorem d_47_75 : decode (mB 47) 75 = .ok (.iload 4, 2) := by decide +kernel
theorem d_47_77 : decode (mB 47) 77 = .ok (.invokevirtual 138, 3) := by decide +kernel
theorem d_47_80 : decode (mB 47) 80 = .ok (.ifCond .eq 9, 3) := by decide +kernel
theorem d_47_83 : decode (mB 47) 83 = .ok (.aload_n 2, 1) := by decide +kernel
theorem d_47_84 : decode (mB 47) 84 = .ok (.iload 4, 2) := by decide +kernel
theorem d_47_86 : decode (mB 47) 86 = .ok (.invokevirtual 142, 3) := by decide +kernel
theorem d_47_89 : decode (mB 47) 89 = .ok (.iinc 3 1, 3) := by decide +kernel
theorem d_47_92 : decode (mB 47) 92 = .ok (.goto (-59), 3) := by decide +kernel
theorem d_47_95 : decode (mB 47) 95 = .ok (.aload_n 2, 1) := by decide +kernel
theorem d_47_96 : decode (mB 47) 96 = .ok (.areturn, 1) := by decide +kernel
theorem d_48_0 : decode (mB 48) 0 = .ok (.aload_n 1, 1) := by decide +kernel
theorem d_48_1 : decode (mB 48) 1 = .ok (.getfield 58, 3) := by decide +kernel
theorem d_48_4 : decode (mB 48) 4 = .ok (.astore_n 2, 1) := by decide +kernel
theorem d_48_5 : decode (mB 48) 5 = .ok (.aload_n 0, 1) := by decide +kernel
theorem d_48_6 : decode (mB 48) 6 = .ok (.getfield 12, 3) := by decide +kernel
theorem d_48_9 : decode (mB 48) 9 = .ok (.aload_n 2, 1) := by decide +kernel
theorem d_48_10 : decode (mB 48) 10 = .ok (.invokevirtual 145, 3) := by decide +kernel
theorem d_48_13 : decode (mB 48) 13 = .ok (.aload_n 0, 1) := by decide +kernel
theorem d_48_14 : decode (mB 48) 14 = .ok (.aload_n 2, 1) := by decide +kernel
theorem d_48_15 : decode (mB 48) 15 = .ok (.invokevirtual 149, 3) := by decide +kernel
theorem d_48_18 : decode (mB 48) 18 = .ok (.iconst 0, 1) := by decide +kernel
theorem d_48_19 : decode (mB 48) 19 = .ok (.istore_n 3, 1) := by decide +kernel
theorem d_48_20 : decode (mB 48) 20 = .ok (.iload_n 3, 1) := by decide +kernel
theorem d_48_21 : decode (mB 48) 21 = .ok (.aload_n 0, 1) := by decide +kernel
theorem d_48_22 : decode (mB 48) 22 = .ok (.getfield 21, 3) := by decide +kernel
theorem d_48_25 : decode (mB 48) 25 = .ok (.invokevirtual 90, 3) := by decide +kernel
theorem d_48_28 : decode (mB 48) 28 = .ok (.if_icmp .ge 41, 3) := by decide +kernel
theorem d_48_31 : decode (mB 48) 31 = .ok (.aload_n 0, 1) := by decide +kernel
theorem d_48_32 : decode (mB 48) 32 = .ok (.getfield 21, 3) := by decide +kernel
theorem d_48_35 : decode (mB 48) 35 = .ok (.iload_n 3, 1) := by decide +kernel
theorem d_48_36 : decode (mB 48) 36 = .ok (.invokevirtual 152, 3) := by decide +kernel
theorem d_48_39 : decode (mB 48) 39 = .ok (.checkcast 54, 3) := by decide +kernel
theorem d_48_42 : decode (mB 48) 42 = .ok (.getfield 156, 3) := by decide +kernel
theorem d_48_45 : decode (mB 48) 45 = .ok (.ifCond .ne 24, 3) := by decide +kernel
theorem d_48_48 : decode (mB 48) 48 = .ok (.aload_n 2, 1) := by decide +kernel
theorem d_48_49 : decode (mB 48) 49 = .ok (.aload_n 0, 1) := by decide +kernel
theorem d_48_50 : decode (mB 48) 50 = .ok (.getfield 21, 3) := by decide +kernel
theorem d_48_53 : decode (mB 48) 53 = .ok (.iload_n 3, 1) := by decide +kernel
theorem d_48_54 : decode (mB 48) 54 = .ok (.invokevirtual 152, 3) := by decide +kernel
theorem d_48_57 : decode (mB 48) 57 = .ok (.checkcast 54, 3) := by decide +kernel
theorem d_48_60 : decode (mB 48) 60 = .ok (.invokevirtual 159, 3) := by decide +kernel
theorem d_48_63 : decode (mB 48) 63 = .ok (.iinc 3 1, 3) := by decide +kernel
theorem d_48_66 : decode (mB 48) 66 = .ok (.goto (-46), 3) := by decide +kernel
theorem d_48_69 : decode (mB 48) 69 = .ok (.aload_n 0, 1) := by decide +kernel
theorem d_48_70 : decode (mB 48) 70 = .ok (.iload_n 3, 1) := by decide +kernel
theorem d_48_71 : decode (mB 48) 71 = .ok (.invokevirtual 163, 3) := by decide +kernel
theorem d_48_74 : decode (mB 48) 74 = .ok (.istore 4, 2) := by decide +kernel
theorem d_48_76 : decode (mB 48) 76 = .ok (.iload 4, 2) := by decide +kernel
theorem d_48_78 : decode (mB 48) 78 = .ok (.iload_n 3, 1) := by decide +kernel
theorem d_48_79 : decode (mB 48) 79 = .ok (.isub, 1) := by decide +kernel
theorem d_48_80 : decode (mB 48) 80 = .ok (.iconst 2, 1) := by decide +kernel
theorem d_48_81 : decode (mB 48) 81 = .ok (.if_icmp .lt 7, 3) := by decide +kernel
theorem d_48_84 : decode (mB 48) 84 = .ok (.iconst 1, 1) := by decide +kernel
theorem d_48_85 : decode (mB 48) 85 = .ok (.goto 4, 3) := by decide +kernel
theorem d_48_88 : decode (mB 48) 88 = .ok (.iconst 0, 1) := by decide +kernel
theorem d_48_89 : decode (mB 48) 89 = .ok (.istore 5, 2) := by decide +kernel
theorem d_48_91 : decode (mB 48) 91 = .ok (.iload 5, 2) := by decide +kernel
theorem d_48_93 : decode (mB 48) 93 = .ok (.ifCond .eq 81, 3) := by decide +kernel
theorem d_48_96 : decode (mB 48) 96 = .ok (.aload_n 0, 1) := by decide +kernel
theorem d_48_97 : decode (mB 48) 97 = .ok (.aload_n 1, 1) := by decide +kernel
theorem d_48_98 : decode (mB 48) 98 = .ok (.invokevirtual 98, 3) := by decide +kernel
theorem d_48_101 : decode (mB 48) 101 = .ok (.astore 6, 2) := by decide +kernel
theorem d_48_103 : decode (mB 48) 103 = .ok (.iload_n 3, 1) := by decide +kernel
theorem d_48_104 : decode (mB 48) 104 = .ok (.istore 7, 2) := by decide +kernel
theorem d_48_106 : decode (mB 48) 106 = .ok (.iload 7, 2) := by decide +kernel
theorem d_48_108 : decode (mB 48) 108 = .ok (.iload 4, 2) := by decide +kernel
theorem d_48_110 : decode (mB 48) 110 = .ok (.if_icmp .ge 54, 3) := by decide +kernel
theorem d_48_113 : decode (mB 48) 113 = .ok (.iload 7, 2) := by decide +kernel
theorem d_48_115 : decode (mB 48) 115 = .ok (.aload_n 0, 1) := by decide +kernel
theorem d_48_116 : decode (mB 48) 116 = .ok (.getfield 21, 3) := by decide +kernel
theorem d_48_119 : decode (mB 48) 119 = .ok (.invokevirtual 90, 3) := by decide +kernel
theorem d_48_122 : decode (mB 48) 122 = .ok (.if_icmp .ge 42, 3) := by decide +kernel
theorem d_48_125 : decode (mB 48) 125 = .ok (.aload_n 0, 1) := by decide +kernel
theorem d_48_126 : decode (mB 48) 126 = .ok (.getfield 21, 3) := by decide +kernel
theorem d_48_129 : decode (mB 48) 129 = .ok (.iload 7, 2) := by decide +kernel
theorem d_48_131 : decode (mB 48) 131 = .ok (.invokevirtual 152, 3) := by decide +kernel
theorem d_48_134 : decode (mB 48) 134 = .ok (.checkcast 54, 3) := by decide +kernel
theorem d_48_137 : decode (mB 48) 137 = .ok (.aload 6, 2) := by decide +kernel
theorem d_48_139 : decode (mB 48) 139 = .ok (.invokestatic 166, 3) := by decide +kernel
theorem d_48_142 : decode (mB 48) 142 = .ok (.aload_n 2, 1) := by decide +kernel
theorem d_48_143 : decode (mB 48) 143 = .ok (.aload_n 0, 1) := by decide +kernel
theorem d_48_144 : decode (mB 48) 144 = .ok (.getfield 21, 3) := by decide +kernel
theorem d_48_147 : decode (mB 48) 147 = .ok (.iload 7, 2) := by decide +kernel
theorem d_48_149 : decode (mB 48) 149 = .ok (.invokevirtual 152, 3) := by decide +kernel
theorem d_48_152 : decode (mB 48) 152 = .ok (.checkcast 54, 3) := by decide +kernel
theorem d_48_155 : decode (mB 48) 155 = .ok (.invokevirtual 159, 3) := by decide +kernel
theorem d_48_158 : decode (mB 48) 158 = .ok (.iinc 7 1, 3) := by decide +kernel
theorem d_48_161 : decode (mB 48) 161 = .ok (.goto (-55), 3) := by decide +kernel
theorem d_48_164 : decode (mB 48) 164 = .ok (.aload_n 2, 1) := by decide +kernel
theorem d_48_165 : decode (mB 48) 165 = .ok (.getfield 87, 3) := by decide +kernel
theorem d_48_168 : decode (mB 48) 168 = .ok (.aload 6, 2) := by decide +kernel
theorem d_48_170 : decode (mB 48) 170 = .ok (.invokevirtual 118, 3) := by decide +kernel
theorem d_48_173 : decode (mB 48) 173 = .ok (.pop, 1) := by decide +kernel
theorem d_48_174 : decode (mB 48) 174 = .ok (.iload_n 3, 1) := by decide +kernel
theorem d_48_175 : decode (mB 48) 175 = .ok (.ifCond .gt 8, 3) := by decide +kernel
theorem d_48_178 : decode (mB 48) 178 = .ok (.iload 5, 2) := by decide +kernel
theorem d_48_180 : decode (mB 48) 180 = .ok (.ifCond .eq 13, 3) := by decide +kernel
theorem d_48_183 : decode (mB 48) 183 = .ok (.aload_n 0, 1) := by decide +kernel
theorem d_48_184 : decode (mB 48) 184 = .ok (.dup, 1) := by decide +kernel
theorem d_48_185 : decode (mB 48) 185 = .ok (.getfield 170, 3) := by decide +kernel
theorem d_48_188 : decode (mB 48) 188 = .ok (.iconst 1, 1) := by decide +kernel
theorem d_48_189 : decode (mB 48) 189 = .ok (.iadd, 1) := by decide +kernel
theorem d_48_190 : decode (mB 48) 190 = .ok (.putfield 170, 3) := by decide +kernel
theorem d_48_193 : decode (mB 48) 193 = .ok (.aload_n 0, 1) := by decide +kernel
theorem d_48_194 : decode (mB 48) 194 = .ok (.getfield 21, 3) := by decide +kernel
theorem d_48_197 : decode (mB 48) 197 = .ok (.invokevirtual 173, 3) := by decide +kernel
theorem d_48_200 : decode (mB 48) 200 = .ok (.return_, 1) := by decide +kernel
theorem d_49_0 : decode (mB 49) 0 = .ok (.aload_n 0, 1) := by decide +kernel
theorem d_49_1 : decode (mB 49) 1 = .ok (.getfield 21, 3) := by decide +kernel
theorem d_49_4 : decode (mB 49) 4 = .ok (.invokevirtual 173, 3) := by decide +kernel
theorem d_49_7 : decode (mB 49) 7 = .ok (.iconst 0, 1) := by decide +kernel
theorem d_49_8 : decode (mB 49) 8 = .ok (.istore_n 2, 1) := by decide +kernel
theorem d_49_9 : decode (mB 49) 9 = .ok (.iload_n 2, 1) := by decide +kernel
theorem d_49_10 : decode (mB 49) 10 = .ok (.aload_n 1, 1) := by decide +kernel
theorem d_49_11 : decode (mB 49) 11 = .ok (.getfield 87, 3) := by decide +kernel
theorem d_49_14 : decode (mB 49) 14 = .ok (.invokevirtual 90, 3) := by decide +kernel
theorem d_49_17 : decode (mB 49) 17 = .ok (.if_icmp .ge 83, 3) := by decide +kernel
theorem d_49_20 : decode (mB 49) 20 = .ok (.aload_n 1, 1) := by decide +kernel
theorem d_49_21 : decode (mB 49) 21 = .ok (.getfield 87, 3) := by decide +kernel
theorem d_49_24 : decode (mB 49) 24 = .ok (.iload_n 2, 1) := by decide +kernel
theorem d_49_25 : decode (mB 49) 25 = .ok (.invokevirtual 152, 3) := by decide +kernel
theorem d_49_28 : decode (mB 49) 28 = .ok (.checkcast 54, 3) := by decide +kernel
theorem d_49_31 : decode (mB 49) 31 = .ok (.astore_n 3, 1) := by decide +kernel
theorem d_49_32 : decode (mB 49) 32 = .ok (.aload_n 3, 1) := by decide +kernel
theorem d_49_33 : decode (mB 49) 33 = .ok (.aload_n 1, 1) := by decide +kernel
theorem d_49_34 : decode (mB 49) 34 = .ok (.getfield 122, 3) := by decide +kernel
theorem d_49_37 : decode (mB 49) 37 = .ok (.if_acmp .eq 57, 3) := by decide +kernel
theorem d_49_40 : decode (mB 49) 40 = .ok (.aload_n 0, 1) := by decide +kernel
theorem d_49_41 : decode (mB 49) 41 = .ok (.getfield 21, 3) := by decide +kernel
theorem d_49_44 : decode (mB 49) 44 = .ok (.invokevirtual 90, 3) := by decide +kernel
theorem d_49_47 : decode (mB 49) 47 = .ok (.istore 4, 2) := by decide +kernel
theorem d_49_49 : decode (mB 49) 49 = .ok (.iload 4, 2) := by decide +kernel
theorem d_49_51 : decode (mB 49) 51 = .ok (.ifCond .le 33, 3) := by decide +kernel
theorem d_49_54 : decode (mB 49) 54 = .ok (.aload_n 0, 1) := by decide +kernel
theorem d_49_55 : decode (mB 49) 55 = .ok (.getfield 21, 3) := by decide +kernel
theorem d_49_58 : decode (mB 49) 58 = .ok (.iload 4, 2) := by decide +kernel
theorem d_49_60 : decode (mB 49) 60 = .ok (.iconst 1, 1) := by decide +kernel
theorem d_49_61 : decode (mB 49) 61 = .ok (.isub, 1) := by decide +kernel
theorem d_49_62 : decode (mB 49) 62 = .ok (.invokevirtual 152, 3) := by decide +kernel
theorem d_49_65 : decode (mB 49) 65 = .ok (.checkcast 54, 3) := by decide +kernel
theorem d_49_68 : decode (mB 49) 68 = .ok (.getfield 156, 3) := by decide +kernel
theorem d_49_71 : decode (mB 49) 71 = .ok (.aload_n 3, 1) := by decide +kernel
theorem d_49_72 : decode (mB 49) 72 = .ok (.getfield 156, 3) := by decide +kernel
theorem d_49_75 : decode (mB 49) 75 = .ok (.if_icmp .le 9, 3) := by decide +kernel
theorem d_49_78 : decode (mB 49) 78 = .ok (.iinc 4 (-1), 3) := by decide +kernel
theorem d_49_81 : decode (mB 49) 81 = .ok (.goto (-32), 3) := by decide +kernel
theorem d_49_84 : decode (mB 49) 84 = .ok (.aload_n 0, 1) := by decide +kernel
theorem d_49_85 : decode (mB 49) 85 = .ok (.getfield 21, 3) := by decide +kernel
theorem d_49_88 : decode (mB 49) 88 = .ok (.iload 4, 2) := by decide +kernel
theorem d_49_90 : decode (mB 49) 90 = .ok (.aload_n 3, 1) := by decide +kernel
theorem d_49_91 : decode (mB 49) 91 = .ok (.invokevirtual 176, 3) := by decide +kernel
theorem d_49_94 : decode (mB 49) 94 = .ok (.iinc 2 1, 3) := by decide +kernel
theorem d_49_97 : decode (mB 49) 97 = .ok (.goto (-88), 3) := by decide +kernel
theorem d_49_100 : decode (mB 49) 100 = .ok (.return_, 1) := by decide +kernel
theorem d_50_0 : decode (mB 50) 0 = .ok (.iconst 0, 1) := by decide +kernel
theorem d_50_1 : decode (mB 50) 1 = .ok (.istore_n 2, 1) := by decide +kernel
theorem d_50_2 : decode (mB 50) 2 = .ok (.iload_n 1, 1) := by decide +kernel
theorem d_50_3 : decode (mB 50) 3 = .ok (.istore_n 3, 1) := by decide +kernel
theorem d_50_4 : decode (mB 50) 4 = .ok (.iload_n 3, 1) := by decide +kernel
theorem d_50_5 : decode (mB 50) 5 = .ok (.aload_n 0, 1) := by decide +kernel
theorem d_50_6 : decode (mB 50) 6 = .ok (.getfield 21, 3) := by decide +kernel
theorem d_50_9 : decode (mB 50) 9 = .ok (.invokevirtual 90, 3) := by decide +kernel
theorem d_50_12 : decode (mB 50) 12 = .ok (.if_icmp .ge 36, 3) := by decide +kernel
theorem d_50_15 : decode (mB 50) 15 = .ok (.iload_n 2, 1) := by decide +kernel
theorem d_50_16 : decode (mB 50) 16 = .ok (.aload_n 0, 1) := by decide +kernel
theorem d_50_17 : decode (mB 50) 17 = .ok (.getfield 21, 3) := by decide +kernel
theorem d_50_20 : decode (mB 50) 20 = .ok (.iload_n 3, 1) := by decide +kernel
theorem d_50_21 : decode (mB 50) 21 = .ok (.invokevirtual 152, 3) := by decide +kernel
theorem d_50_24 : decode (mB 50) 24 = .ok (.checkcast 54, 3) := by decide +kernel
theorem d_50_27 : decode (mB 50) 27 = .ok (.getfield 156, 3) := by decide +kernel
theorem d_50_30 : decode (mB 50) 30 = .ok (.iadd, 1) := by decide +kernel
theorem d_50_31 : decode (mB 50) 31 = .ok (.istore_n 2, 1) := by decide +kernel
theorem d_50_32 : decode (mB 50) 32 = .ok (.iload_n 2, 1) := by decide +kernel
theorem d_50_33 : decode (mB 50) 33 = .ok (.aload_n 0, 1) := by decide +kernel
theorem d_50_34 : decode (mB 50) 34 = .ok (.getfield 29, 3) := by decide +kernel
theorem d_50_37 : decode (mB 50) 37 = .ok (.if_icmp .le 5, 3) := by decide +kernel
theorem d_50_40 : decode (mB 50) 40 = .ok (.iload_n 3, 1) := by decide +kernel
theorem d_50_41 : decode (mB 50) 41 = .ok (.ireturn, 1) := by decide +kernel
theorem d_50_42 : decode (mB 50) 42 = .ok (.iinc 3 1, 3) := by decide +kernel
theorem d_50_45 : decode (mB 50) 45 = .ok (.goto (-41), 3) := by decide +kernel
theorem d_50_48 : decode (mB 50) 48 = .ok (.aload_n 0, 1) := by decide +kernel
theorem d_50_49 : decode (mB 50) 49 = .ok (.getfield 21, 3) := by decide +kernel
theorem d_50_52 : decode (mB 50) 52 = .ok (.invokevirtual 90, 3) := by decide +kernel
theorem d_50_55 : decode (mB 50) 55 = .ok (.ireturn, 1) := by decide +kernel
theorem d_51_0 : decode (mB 51) 0 = .ok (.iconst 0, 1) := by decide +kernel
theorem d_51_1 : decode (mB 51) 1 = .ok (.istore_n 2, 1) := by decide +kernel
theorem d_51_2 : decode (mB 51) 2 = .ok (.iload_n 2, 1) := by decide +kernel
theorem d_51_3 : decode (mB 51) 3 = .ok (.aload_n 0, 1) := by decide +kernel
theorem d_51_4 : decode (mB 51) 4 = .ok (.getfield 179, 3) := by decide +kernel
theorem d_51_7 : decode (mB 51) 7 = .ok (.if_icmp .ge 33, 3) := by decide +kernel
theorem d_51_10 : decode (mB 51) 10 = .ok (.aload_n 0, 1) := by decide +kernel
theorem d_51_11 : decode (mB 51) 11 = .ok (.getfield 182, 3) := by decide +kernel
theorem d_51_14 : decode (mB 51) 14 = .ok (.iload_n 2, 1) := by decide +kernel
theorem d_51_15 : decode (mB 51) 15 = .ok (.baload, 1) := by decide +kernel
theorem d_51_16 : decode (mB 51) 16 = .ok (.ifCond .eq 18, 3) := by decide +kernel
theorem d_51_19 : decode (mB 51) 19 = .ok (.aload_n 1, 1) := by decide +kernel
theorem d_51_20 : decode (mB 51) 20 = .ok (.aconst_null, 1) := by decide +kernel
theorem d_51_21 : decode (mB 51) 21 = .ok (.aload_n 0, 1) := by decide +kernel
theorem d_51_22 : decode (mB 51) 22 = .ok (.getfield 186, 3) := by decide +kernel
theorem d_51_25 : decode (mB 51) 25 = .ok (.iload_n 2, 1) := by decide +kernel
theorem d_51_26 : decode (mB 51) 26 = .ok (.aaload, 1) := by decide +kernel
theorem d_51_27 : decode (mB 51) 27 = .ok (.aload_n 1, 1) := by decide +kernel
theorem d_51_28 : decode (mB 51) 28 = .ok (.getfield 111, 3) := by decide +kernel
theorem d_51_31 : decode (mB 51) 31 = .ok (.invokevirtual 114, 3) := by decide +kernel
theorem d_51_34 : decode (mB 51) 34 = .ok (.iinc 2 1, 3) := by decide +kernel
theorem d_51_37 : decode (mB 51) 37 = .ok (.goto (-35), 3) := by decide +kernel
theorem d_51_40 : decode (mB 51) 40 = .ok (.return_, 1) := by decide +kernel
theorem d_52_0 : decode (mB 52) 0 = .ok (.aload_n 1, 1) := by decide +kernel
theorem d_52_1 : decode (mB 52) 1 = .ok (.getfield 58, 3) := by decide +kernel
theorem d_52_4 : decode (mB 52) 4 = .ok (.getfield 62, 3) := by decide +kernel
theorem d_52_7 : decode (mB 52) 7 = .ok (.astore 5, 2) := by decide +kernel
theorem d_52_9 : decode (mB 52) 9 = .ok (.aload 5, 2) := by decide +kernel
theorem d_52_11 : decode (mB 52) 11 = .ok (.ifnull 36, 3) := by decide +kernel
theorem d_52_14 : decode (mB 52) 14 = .ok (.aload 5, 2) := by decide +kernel
theorem d_52_16 : decode (mB 52) 16 = .ok (.aload_n 2, 1) := by decide +kernel
theorem d_52_17 : decode (mB 52) 17 = .ok (.aload_n 3, 1) := by decide +kernel
theorem d_52_18 : decode (mB 52) 18 = .ok (.iload 4, 2) := by decide +kernel
theorem d_52_20 : decode (mB 52) 20 = .ok (.iconst (-1), 1) := by decide +kernel
theorem d_52_21 : decode (mB 52) 21 = .ok (.if_icmp .ne 11, 3) := by decide +kernel
theorem d_52_24 : decode (mB 52) 24 = .ok (.aload 5, 2) := by decide +kernel
theorem d_52_26 : decode (mB 52) 26 = .ok (.getfield 111, 3) := by decide +kernel
theorem d_52_29 : decode (mB 52) 29 = .ok (.goto 5, 3) := by decide +kernel
theorem d_52_32 : decode (mB 52) 32 = .ok (.iload 4, 2) := by decide +kernel
theorem d_52_34 : decode (mB 52) 34 = .ok (.invokevirtual 114, 3) := by decide +kernel
theorem d_52_37 : decode (mB 52) 37 = .ok (.aload_n 0, 1) := by decide +kernel
theorem d_52_38 : decode (mB 52) 38 = .ok (.dup, 1) := by decide +kernel
theorem d_52_39 : decode (mB 52) 39 = .ok (.getfield 190, 3) := by decide +kernel
theorem d_52_42 : decode (mB 52) 42 = .ok (.iconst 1, 1) := by decide +kernel
theorem d_52_43 : decode (mB 52) 43 = .ok (.iadd, 1) := by decide +kernel
theorem d_52_44 : decode (mB 52) 44 = .ok (.putfield 190, 3) := by decide +kernel
theorem d_52_47 : decode (mB 52) 47 = .ok (.return_, 1) := by decide +kernel
theorem d_53_0 : decode (mB 53) 0 = .ok (.iconst 0, 1) := by decide +kernel
theorem d_53_1 : decode (mB 53) 1 = .ok (.istore_n 2, 1) := by decide +kernel
theorem d_53_2 : decode (mB 53) 2 = .ok (.iload_n 2, 1) := by decide +kernel
theorem d_53_3 : decode (mB 53) 3 = .ok (.aload_n 1, 1) := by decide +kernel
theorem d_53_4 : decode (mB 53) 4 = .ok (.getfield 58, 3) := by decide +kernel
theorem d_53_7 : decode (mB 53) 7 = .ok (.getfield 87, 3) := by decide +kernel
theorem d_53_10 : decode (mB 53) 10 = .ok (.invokevirtual 90, 3) := by decide +kernel
theorem d_53_13 : decode (mB 53) 13 = .ok (.if_icmp .ge 74, 3) := by decide +kernel
theorem d_53_16 : decode (mB 53) 16 = .ok (.aload_n 1, 1) := by decide +kernel
theorem d_53_17 : decode (mB 53) 17 = .ok (.getfield 58, 3) := by decide +kernel
theorem d_53_20 : decode (mB 53) 20 = .ok (.getfield 87, 3) := by decide +kernel
theorem d_53_23 : decode (mB 53) 23 = .ok (.iload_n 2, 1) := by decide +kernel
theorem d_53_24 : decode (mB 53) 24 = .ok (.invokevirtual 152, 3) := by decide +kernel
theorem d_53_27 : decode (mB 53) 27 = .ok (.checkcast 54, 3) := by decide +kernel
theorem d_53_30 : decode (mB 53) 30 = .ok (.astore_n 3, 1) := by decide +kernel
theorem d_53_31 : decode (mB 53) 31 = .ok (.aload_n 3, 1) := by decide +kernel
theorem d_53_32 : decode (mB 53) 32 = .ok (.getfield 53, 3) := by decide +kernel
theorem d_53_35 : decode (mB 53) 35 = .ok (.aload_n 0, 1) := by decide +kernel
theorem d_53_36 : decode (mB 53) 36 = .ok (.getfield 44, 3) := by decide +kernel
theorem d_53_39 : decode (mB 53) 39 = .ok (.iand, 1) := by decide +kernel
theorem d_53_40 : decode (mB 53) 40 = .ok (.invokestatic 81, 3) := by decide +kernel
theorem d_53_43 : decode (mB 53) 43 = .ok (.aload_n 0, 1) := by decide +kernel
theorem d_53_44 : decode (mB 53) 44 = .ok (.getfield 25, 3) := by decide +kernel
theorem d_53_47 : decode (mB 53) 47 = .ok (.if_icmp .ge 34, 3) := by decide +kernel
theorem d_53_50 : decode (mB 53) 50 = .ok (.aload_n 0, 1) := by decide +kernel
theorem d_53_51 : decode (mB 53) 51 = .ok (.aload_n 3, 1) := by decide +kernel
theorem d_53_52 : decode (mB 53) 52 = .ok (.aload_n 1, 1) := by decide +kernel
theorem d_53_53 : decode (mB 53) 53 = .ok (.invokevirtual 193, 3) := by decide +kernel
theorem d_53_56 : decode (mB 53) 56 = .ok (.istore 4, 2) := by decide +kernel
theorem d_53_58 : decode (mB 53) 58 = .ok (.iload 4, 2) := by decide +kernel
theorem d_53_60 : decode (mB 53) 60 = .ok (.iconst (-1), 1) := by decide +kernel
theorem d_53_61 : decode (mB 53) 61 = .ok (.if_icmp .eq 20, 3) := by decide +kernel
theorem d_53_64 : decode (mB 53) 64 = .ok (.aload_n 3, 1) := by decide +kernel
theorem d_53_65 : decode (mB 53) 65 = .ok (.iload 4, 2) := by decide +kernel
theorem d_53_67 : decode (mB 53) 67 = .ok (.invokevirtual 142, 3) := by decide +kernel
theorem d_53_70 : decode (mB 53) 70 = .ok (.aload_n 0, 1) := by decide +kernel
theorem d_53_71 : decode (mB 53) 71 = .ok (.dup, 1) := by decide +kernel
theorem d_53_72 : decode (mB 53) 72 = .ok (.getfield 197, 3) := by decide +kernel
theorem d_53_75 : decode (mB 53) 75 = .ok (.iconst 1, 1) := by decide +kernel
theorem d_53_76 : decode (mB 53) 76 = .ok (.iadd, 1) := by decide +kernel
theorem d_53_77 : decode (mB 53) 77 = .ok (.putfield 197, 3) := by decide +kernel
theorem d_53_80 : decode (mB 53) 80 = .ok (.return_, 1) := by decide +kernel
theorem d_53_81 : decode (mB 53) 81 = .ok (.iinc 2 1, 3) := by decide +kernel
theorem d_53_84 : decode (mB 53) 84 = .ok (.goto (-82), 3) := by decide +kernel
theorem d_53_87 : decode (mB 53) 87 = .ok (.return_, 1) := by decide +kernel
theorem d_54_0 : decode (mB 54) 0 = .ok (.iconst 0, 1) := by decide +kernel
theorem d_54_1 : decode (mB 54) 1 = .ok (.istore_n 3, 1) := by decide +kernel
theorem d_54_2 : decode (mB 54) 2 = .ok (.iload_n 3, 1) := by decide +kernel
theorem d_54_3 : decode (mB 54) 3 = .ok (.aload_n 0, 1) := by decide +kernel
theorem d_54_4 : decode (mB 54) 4 = .ok (.getfield 37, 3) := by decide +kernel
theorem d_54_7 : decode (mB 54) 7 = .ok (.arraylength, 1) := by decide +kernel
theorem d_54_8 : decode (mB 54) 8 = .ok (.if_icmp .ge 54, 3) := by decide +kernel
theorem d_54_11 : decode (mB 54) 11 = .ok (.aload_n 0, 1) := by decide +kernel
theorem d_54_12 : decode (mB 54) 12 = .ok (.aload_n 1, 1) := by decide +kernel
theorem d_54_13 : decode (mB 54) 13 = .ok (.getfield 131, 3) := by decide +kernel
theorem d_54_16 : decode (mB 54) 16 = .ok (.aload_n 2, 1) := by decide +kernel
theorem d_54_17 : decode (mB 54) 17 = .ok (.iload_n 3, 1) := by decide +kernel
theorem d_54_18 : decode (mB 54) 18 = .ok (.invokevirtual 134, 3) := by decide +kernel
theorem d_54_21 : decode (mB 54) 21 = .ok (.istore 4, 2) := by decide +kernel
theorem d_54_23 : decode (mB 54) 23 = .ok (.iload 4, 2) := by decide +kernel
theorem d_54_25 : decode (mB 54) 25 = .ok (.aload_n 2, 1) := by decide +kernel
theorem d_54_26 : decode (mB 54) 26 = .ok (.getfield 50, 3) := by decide +kernel
theorem d_54_29 : decode (mB 54) 29 = .ok (.if_icmp .eq 27, 3) := by decide +kernel
theorem d_54_32 : decode (mB 54) 32 = .ok (.aload_n 0, 1) := by decide +kernel
theorem d_54_33 : decode (mB 54) 33 = .ok (.iload 4, 2) := by decide +kernel
theorem d_54_35 : decode (mB 54) 35 = .ok (.invokevirtual 138, 3) := by decide +kernel
theorem d_54_38 : decode (mB 54) 38 = .ok (.ifCond .eq 18, 3) := by decide +kernel
theorem d_54_41 : decode (mB 54) 41 = .ok (.aload_n 1, 1) := by decide +kernel
theorem d_54_42 : decode (mB 54) 42 = .ok (.getfield 53, 3) := by decide +kernel
theorem d_54_45 : decode (mB 54) 45 = .ok (.iload 4, 2) := by decide +kernel
theorem d_54_47 : decode (mB 54) 47 = .ok (.ishr, 1) := by decide +kernel
theorem d_54_48 : decode (mB 54) 48 = .ok (.iconst 1, 1) := by decide +kernel
theorem d_54_49 : decode (mB 54) 49 = .ok (.iand, 1) := by decide +kernel
theorem d_54_50 : decode (mB 54) 50 = .ok (.ifCond .ne 6, 3) := by decide +kernel
theorem d_54_53 : decode (mB 54) 53 = .ok (.iload 4, 2) := by decide +kernel
theorem d_54_55 : decode (mB 54) 55 = .ok (.ireturn, 1) := by decide +kernel
theorem d_54_56 : decode (mB 54) 56 = .ok (.iinc 3 1, 3) := by decide +kernel
theorem d_54_59 : decode (mB 54) 59 = .ok (.goto (-57), 3) := by decide +kernel
theorem d_54_62 : decode (mB 54) 62 = .ok (.iconst (-1), 1) := by decide +kernel
theorem d_54_63 : decode (mB 54) 63 = .ok (.ireturn, 1) := by decide +kernel
theorem d_55_0 : decode (mB 55) 0 = .ok (.aload_n 0, 1) := by decide +kernel
theorem d_55_1 : decode (mB 55) 1 = .ok (.getfield 44, 3) := by decide +kernel
theorem d_55_4 : decode (mB 55) 4 = .ok (.invokestatic 81, 3) := by decide +kernel
theorem d_55_7 : decode (mB 55) 7 = .ok (.aload_n 0, 1) := by decide +kernel
theorem d_55_8 : decode (mB 55) 8 = .ok (.getfield 25, 3) := by decide +kernel
theorem d_55_11 : decode (mB 55) 11 = .ok (.iconst 1, 1) := by decide +kernel
theorem d_55_12 : decode (mB 55) 12 = .ok (.iadd, 1) := by decide +kernel
theorem d_55_13 : decode (mB 55) 13 = .ok (.if_icmp .ge 5, 3) := by decide +kernel
theorem d_55_16 : decode (mB 55) 16 = .ok (.iconst 0, 1) := by decide +kernel
theorem d_55_17 : decode (mB 55) 17 = .ok (.ireturn, 1) := by decide +kernel
theorem d_55_18 : decode (mB 55) 18 = .ok (.iconst 0, 1) := by decide +kernel
theorem d_55_19 : decode (mB 55) 19 = .ok (.istore_n 2, 1) := by decide +kernel
theorem d_55_20 : decode (mB 55) 20 = .ok (.iload_n 2, 1) := by decide +kernel
theorem d_55_21 : decode (mB 55) 21 = .ok (.aload_n 1, 1) := by decide +kernel
theorem d_55_22 : decode (mB 55) 22 = .ok (.getfield 87, 3) := by decide +kernel
theorem d_55_25 : decode (mB 55) 25 = .ok (.invokevirtual 90, 3) := by decide +kernel
theorem d_55_28 : decode (mB 55) 28 = .ok (.if_icmp .ge 33, 3) := by decide +kernel
theorem d_55_31 : decode (mB 55) 31 = .ok (.aload_n 1, 1) := by decide +kernel
theorem d_55_32 : decode (mB 55) 32 = .ok (.getfield 87, 3) := by decide +kernel
theorem d_55_35 : decode (mB 55) 35 = .ok (.iload_n 2, 1) := by decide +kernel
theorem d_55_36 : decode (mB 55) 36 = .ok (.invokevirtual 152, 3) := by decide +kernel
theorem d_55_39 : decode (mB 55) 39 = .ok (.checkcast 54, 3) := by decide +kernel
theorem d_55_42 : decode (mB 55) 42 = .ok (.getfield 53, 3) := by decide +kernel
theorem d_55_45 : decode (mB 55) 45 = .ok (.aload_n 0, 1) := by decide +kernel
theorem d_55_46 : decode (mB 55) 46 = .ok (.getfield 44, 3) := by decide +kernel
theorem d_55_49 : decode (mB 55) 49 = .ok (.iand, 1) := by decide +kernel
theorem d_55_50 : decode (mB 55) 50 = .ok (.ifCond .ne 5, 3) := by decide +kernel
theorem d_55_53 : decode (mB 55) 53 = .ok (.iconst 0, 1) := by decide +kernel
theorem d_55_54 : decode (mB 55) 54 = .ok (.ireturn, 1) := by decide +kernel
theorem d_55_55 : decode (mB 55) 55 = .ok (.iinc 2 1, 3) := by decide +kernel
theorem d_55_58 : decode (mB 55) 58 = .ok (.goto (-38), 3) := by decide +kernel
theorem d_55_61 : decode (mB 55) 61 = .ok (.iconst 1, 1) := by decide +kernel
theorem d_55_62 : decode (mB 55) 62 = .ok (.ireturn, 1) := by decide +kernel
theorem d_56_0 : decode (mB 56) 0 = .ok (.aload_n 0, 1) := by decide +kernel
theorem d_56_1 : decode (mB 56) 1 = .ok (.invokespecial 3, 3) := by decide +kernel
theorem d_56_4 : decode (mB 56) 4 = .ok (.aload_n 0, 1) := by decide +kernel
theorem d_56_5 : decode (mB 56) 5 = .ok (.bipush 6, 2) := by decide +kernel
theorem d_56_7 : decode (mB 56) 7 = .ok (.newarray .int, 2) := by decide +kernel
theorem d_56_9 : decode (mB 56) 9 = .ok (.putfield 9, 3) := by decide +kernel
theorem d_56_12 : decode (mB 56) 12 = .ok (.aload_n 0, 1) := by decide +kernel
theorem d_56_13 : decode (mB 56) 13 = .ok (.bipush 6, 2) := by decide +kernel
theorem d_56_15 : decode (mB 56) 15 = .ok (.newarray .boolean, 2) := by decide +kernel
theorem d_56_17 : decode (mB 56) 17 = .ok (.putfield 15, 3) := by decide +kernel
theorem d_56_20 : decode (mB 56) 20 = .ok (.aload_n 0, 1) := by decide +kernel
theorem d_56_21 : decode (mB 56) 21 = .ok (.bipush 64, 2) := by decide +kernel
theorem d_56_23 : decode (mB 56) 23 = .ok (.newarray .int, 2) := by decide +kernel
theorem d_56_25 : decode (mB 56) 25 = .ok (.putfield 19, 3) := by decide +kernel
theorem d_56_28 : decode (mB 56) 28 = .ok (.aload_n 0, 1) := by decide +kernel
theorem d_56_29 : decode (mB 56) 29 = .ok (.bipush 64, 2) := by decide +kernel
theorem d_56_31 : decode (mB 56) 31 = .ok (.anewarray 22, 3) := by decide +kernel
theorem d_56_34 : decode (mB 56) 34 = .ok (.putfield 24, 3) := by decide +kernel
theorem d_56_37 : decode (mB 56) 37 = .ok (.aload_n 0, 1) := by decide +kernel
theorem d_56_38 : decode (mB 56) 38 = .ok (.sipush 240, 3) := by decide +kernel
theorem d_56_41 : decode (mB 56) 41 = .ok (.anewarray 22, 3) := by decide +kernel
theorem d_56_44 : decode (mB 56) 44 = .ok (.putfield 28, 3) := by decide +kernel
theorem d_56_47 : decode (mB 56) 47 = .ok (.return_, 1) := by decide +kernel
theorem d_57_0 : decode (mB 57) 0 = .ok (.aload_n 0, 1) := by decide +kernel
theorem d_57_1 : decode (mB 57) 1 = .ok (.iconst 0, 1) := by decide +kernel
theorem d_57_2 : decode (mB 57) 2 = .ok (.putfield 31, 3) := by decide +kernel
theorem d_57_5 : decode (mB 57) 5 = .ok (.iconst 0, 1) := by decide +kernel
theorem d_57_6 : decode (mB 57) 6 = .ok (.istore_n 1, 1) := by decide +kernel
theorem d_57_7 : decode (mB 57) 7 = .ok (.iload_n 1, 1) := by decide +kernel
theorem d_57_8 : decode (mB 57) 8 = .ok (.aload_n 0, 1) := by decide +kernel
theorem d_57_9 : decode (mB 57) 9 = .ok (.getfield 9, 3) := by decide +kernel
theorem d_57_12 : decode (mB 57) 12 = .ok (.arraylength, 1) := by decide +kernel
theorem d_57_13 : decode (mB 57) 13 = .ok (.if_icmp .ge 23, 3) := by decide +kernel
theorem d_57_16 : decode (mB 57) 16 = .ok (.aload_n 0, 1) := by decide +kernel
theorem d_57_17 : decode (mB 57) 17 = .ok (.getfield 9, 3) := by decide +kernel
theorem d_57_20 : decode (mB 57) 20 = .ok (.iload_n 1, 1) := by decide +kernel
theorem d_57_21 : decode (mB 57) 21 = .ok (.iconst 1, 1) := by decide +kernel
theorem d_57_22 : decode (mB 57) 22 = .ok (.iastore, 1) := by decide +kernel
theorem d_57_23 : decode (mB 57) 23 = .ok (.aload_n 0, 1) := by decide +kernel
theorem d_57_24 : decode (mB 57) 24 = .ok (.getfield 15, 3) := by decide +kernel
theorem d_57_27 : decode (mB 57) 27 = .ok (.iload_n 1, 1) := by decide +kernel
theorem d_57_28 : decode (mB 57) 28 = .ok (.iconst 0, 1) := by decide +kernel
theorem d_57_29 : decode (mB 57) 29 = .ok (.bastore, 1) := by decide +kernel
theorem d_57_30 : decode (mB 57) 30 = .ok (.iinc 1 1, 3) := by decide +kernel
theorem d_57_33 : decode (mB 57) 33 = .ok (.goto (-26), 3) := by decide +kernel
theorem d_57_36 : decode (mB 57) 36 = .ok (.iconst 0, 1) := by decide +kernel
theorem d_57_37 : decode (mB 57) 37 = .ok (.istore_n 1, 1) := by decide +kernel
theorem d_57_38 : decode (mB 57) 38 = .ok (.iload_n 1, 1) := by decide +kernel
theorem d_57_39 : decode (mB 57) 39 = .ok (.aload_n 0, 1) := by decide +kernel
theorem d_57_40 : decode (mB 57) 40 = .ok (.getfield 19, 3) := by decide +kernel
theorem d_57_43 : decode (mB 57) 43 = .ok (.arraylength, 1) := by decide +kernel
theorem d_57_44 : decode (mB 57) 44 = .ok (.if_icmp .ge 23, 3) := by decide +kernel
theorem d_57_47 : decode (mB 57) 47 = .ok (.aload_n 0, 1) := by decide +kernel
theorem d_57_48 : decode (mB 57) 48 = .ok (.getfield 19, 3) := by decide +kernel
theorem d_57_51 : decode (mB 57) 51 = .ok (.iload_n 1, 1) := by decide +kernel
theorem d_57_52 : decode (mB 57) 52 = .ok (.iconst 0, 1) := by decide +kernel
theorem d_57_53 : decode (mB 57) 53 = .ok (.iastore, 1) := by decide +kernel
theorem d_57_54 : decode (mB 57) 54 = .ok (.aload_n 0, 1) := by decide +kernel
theorem d_57_55 : decode (mB 57) 55 = .ok (.getfield 24, 3) := by decide +kernel
theorem d_57_58 : decode (mB 57) 58 = .ok (.iload_n 1, 1) := by decide +kernel
theorem d_57_59 : decode (mB 57) 59 = .ok (.aconst_null, 1) := by decide +kernel
theorem d_57_60 : decode (mB 57) 60 = .ok (.aastore, 1) := by decide +kernel
theorem d_57_61 : decode (mB 57) 61 = .ok (.iinc 1 1, 3) := by decide +kernel
theorem d_57_64 : decode (mB 57) 64 = .ok (.goto (-26), 3) := by decide +kernel
theorem d_57_67 : decode (mB 57) 67 = .ok (.return_, 1) := by decide +kernel
theorem d_58_0 : decode (mB 58) 0 = .ok (.aload_n 1, 1) := by decide +kernel
theorem d_58_1 : decode (mB 58) 1 = .ok (.getfield 35, 3) := by decide +kernel
theorem d_58_4 : decode (mB 58) 4 = .ok (.aload_n 0, 1) := by decide +kernel
theorem d_58_5 : decode (mB 58) 5 = .ok (.getfield 31, 3) := by decide +kernel
theorem d_58_8 : decode (mB 58) 8 = .ok (.if_icmp .le 11, 3) := by decide +kernel
theorem d_58_11 : decode (mB 58) 11 = .ok (.aload_n 0, 1) := by decide +kernel
theorem d_58_12 : decode (mB 58) 12 = .ok (.aload_n 1, 1) := by decide +kernel
theorem d_58_13 : decode (mB 58) 13 = .ok (.getfield 35, 3) := by decide +kernel
theorem d_58_16 : decode (mB 58) 16 = .ok (.putfield 31, 3) := by decide +kernel
theorem d_58_19 : decode (mB 58) 19 = .ok (.aload_n 1, 1) := by decide +kernel
theorem d_58_20 : decode (mB 58) 20 = .ok (.getfield 38, 3) := by decide +kernel
theorem d_58_23 : decode (mB 58) 23 = .ok (.ifCond .eq 42, 3) := by decide +kernel
theorem d_58_26 : decode (mB 58) 26 = .ok (.aload_n 1, 1) := by decide +kernel
theorem d_58_27 : decode (mB 58) 27 = .ok (.getfield 42, 3) := by decide +kernel
theorem d_58_30 : decode (mB 58) 30 = .ok (.aload_n 0, 1) := by decide +kernel
theorem d_58_31 : decode (mB 58) 31 = .ok (.getfield 9, 3) := by decide +kernel
theorem d_58_34 : decode (mB 58) 34 = .ok (.aload_n 1, 1) := by decide +kernel
theorem d_58_35 : decode (mB 58) 35 = .ok (.getfield 44, 3) := by decide +kernel
theorem d_58_38 : decode (mB 58) 38 = .ok (.iaload, 1) := by decide +kernel
theorem d_58_39 : decode (mB 58) 39 = .ok (.if_icmp .le 26, 3) := by decide +kernel
theorem d_58_42 : decode (mB 58) 42 = .ok (.aload_n 0, 1) := by decide +kernel
theorem d_58_43 : decode (mB 58) 43 = .ok (.getfield 9, 3) := by decide +kernel
theorem d_58_46 : decode (mB 58) 46 = .ok (.aload_n 1, 1) := by decide +kernel
theorem d_58_47 : decode (mB 58) 47 = .ok (.getfield 44, 3) := by decide +kernel
theorem d_58_50 : decode (mB 58) 50 = .ok (.aload_n 1, 1) := by decide +kernel
theorem d_58_51 : decode (mB 58) 51 = .ok (.getfield 42, 3) := by decide +kernel
theorem d_58_54 : decode (mB 58) 54 = .ok (.iastore, 1) := by decide +kernel
theorem d_58_55 : decode (mB 58) 55 = .ok (.aload_n 0, 1) := by decide +kernel
theorem d_58_56 : decode (mB 58) 56 = .ok (.getfield 15, 3) := by decide +kernel
theorem d_58_59 : decode (mB 58) 59 = .ok (.aload_n 1, 1) := by decide +kernel
theorem d_58_60 : decode (mB 58) 60 = .ok (.getfield 44, 3) := by decide +kernel
theorem d_58_63 : decode (mB 58) 63 = .ok (.iconst 0, 1) := by decide +kernel
theorem d_58_64 : decode (mB 58) 64 = .ok (.bastore, 1) := by decide +kernel
theorem d_58_65 : decode (mB 58) 65 = .ok (.aload_n 1, 1) := by decide +kernel
theorem d_58_66 : decode (mB 58) 66 = .ok (.getfield 47, 3) := by decide +kernel
theorem d_58_69 : decode (mB 58) 69 = .ok (.iconst 4, 1) := by decide +kernel
theorem d_58_70 : decode (mB 58) 70 = .ok (.if_icmp .ne 29, 3) := by decide +kernel
theorem d_58_73 : decode (mB 58) 73 = .ok (.aload_n 1, 1) := by decide +kernel
theorem d_58_74 : decode (mB 58) 74 = .ok (.getfield 42, 3) := by decide +kernel
theorem d_58_77 : decode (mB 58) 77 = .ok (.aload_n 0, 1) := by decide +kernel
theorem d_58_78 : decode (mB 58) 78 = .ok (.getfield 9, 3) := by decide +kernel
theorem d_58_81 : decode (mB 58) 81 = .ok (.aload_n 1, 1) := by decide +kernel
theorem d_58_82 : decode (mB 58) 82 = .ok (.getfield 44, 3) := by decide +kernel
theorem d_58_85 : decode (mB 58) 85 = .ok (.iaload, 1) := by decide +kernel
theorem d_58_86 : decode (mB 58) 86 = .ok (.if_icmp .ne 13, 3) := by decide +kernel
theorem d_58_89 : decode (mB 58) 89 = .ok (.aload_n 0, 1) := by decide +kernel
theorem d_58_90 : decode (mB 58) 90 = .ok (.getfield 15, 3) := by decide +kernel
theorem d_58_93 : decode (mB 58) 93 = .ok (.aload_n 1, 1) := by decide +kernel
theorem d_58_94 : decode (mB 58) 94 = .ok (.getfield 44, 3) := by decide +kernel
theorem d_58_97 : decode (mB 58) 97 = .ok (.iconst 1, 1) := by decide +kernel
theorem d_58_98 : decode (mB 58) 98 = .ok (.bastore, 1) := by decide +kernel
theorem d_58_99 : decode (mB 58) 99 = .ok (.aload_n 1, 1) := by decide +kernel
theorem d_58_100 : decode (mB 58) 100 = .ok (.getfield 50, 3) := by decide +kernel
theorem d_58_103 : decode (mB 58) 103 = .ok (.ifCond .eq 54, 3) := by decide +kernel
theorem d_58_106 : decode (mB 58) 106 = .ok (.aload_n 1, 1) := by decide +kernel
theorem d_58_107 : decode (mB 58) 107 = .ok (.getfield 35, 3) := by decide +kernel
theorem d_58_110 : decode (mB 58) 110 = .ok (.aload_n 0, 1) := by decide +kernel
theorem d_58_111 : decode (mB 58) 111 = .ok (.getfield 19, 3) := by decide +kernel
theorem d_58_114 : decode (mB 58) 114 = .ok (.aload_n 1, 1) := by decide +kernel
theorem d_58_115 : decode (mB 58) 115 = .ok (.getfield 53, 3) := by decide +kernel
theorem d_58_118 : decode (mB 58) 118 = .ok (.iaload, 1) := by decide +kernel
theorem d_58_119 : decode (mB 58) 119 = .ok (.if_icmp .le 38, 3) := by decide +kernel
theorem d_58_122 : decode (mB 58) 122 = .ok (.aload_n 0, 1) := by decide +kernel
theorem d_58_123 : decode (mB 58) 123 = .ok (.getfield 19, 3) := by decide +kernel
theorem d_58_126 : decode (mB 58) 126 = .ok (.aload_n 1, 1) := by decide +kernel
theorem d_58_127 : decode (mB 58) 127 = .ok (.getfield 53, 3) := by decide +kernel
theorem d_58_130 : decode (mB 58) 130 = .ok (.aload_n 1, 1) := by decide +kernel
theorem d_58_131 : decode (mB 58) 131 = .ok (.getfield 35, 3) := by decide +kernel
theorem d_58_134 : decode (mB 58) 134 = .ok (.iastore, 1) := by decide +kernel
theorem d_58_135 : decode (mB 58) 135 = .ok (.aload_n 0, 1) := by decide +kernel
theorem d_58_136 : decode (mB 58) 136 = .ok (.getfield 24, 3) := by decide +kernel
theorem d_58_139 : decode (mB 58) 139 = .ok (.aload_n 1, 1) := by decide +kernel
theorem d_58_140 : decode (mB 58) 140 = .ok (.getfield 53, 3) := by decide +kernel
theorem d_58_143 : decode (mB 58) 143 = .ok (.aload_n 1, 1) := by decide +kernel
theorem d_58_144 : decode (mB 58) 144 = .ok (.getfield 47, 3) := by decide +kernel
theorem d_58_147 : decode (mB 58) 147 = .ok (.iconst 2, 1) := by decide +kernel
theorem d_58_148 : decode (mB 58) 148 = .ok (.if_icmp .ne 7, 3) := by decide +kernel
theorem d_58_151 : decode (mB 58) 151 = .ok (.aload_n 1, 1) := by decide +kernel
theorem d_58_152 : decode (mB 58) 152 = .ok (.goto 4, 3) := by decide +kernel
theorem d_58_155 : decode (mB 58) 155 = .ok (.aconst_null, 1) := by decide +kernel
theorem d_58_156 : decode (mB 58) 156 = .ok (.aastore, 1) := by decide +kernel
theorem d_58_157 : decode (mB 58) 157 = .ok (.return_, 1) := by decide +kernel
theorem d_59_0 : decode (mB 59) 0 = .ok (.aload_n 0, 1) := by decide +kernel
theorem d_59_1 : decode (mB 59) 1 = .ok (.invokevirtual 56, 3) := by decide +kernel
theorem d_59_4 : decode (mB 59) 4 = .ok (.iconst 0, 1) := by decide +kernel
theorem d_59_5 : decode (mB 59) 5 = .ok (.istore_n 2, 1) := by decide +kernel
theorem d_59_6 : decode (mB 59) 6 = .ok (.iload_n 2, 1) := by decide +kernel
theorem d_59_7 : decode (mB 59) 7 = .ok (.aload_n 1, 1) := by decide +kernel
theorem d_59_8 : decode (mB 59) 8 = .ok (.getfield 59, 3) := by decide +kernel
theorem d_59_11 : decode (mB 59) 11 = .ok (.invokevirtual 65, 3) := by decide +kernel
theorem d_59_14 : decode (mB 59) 14 = .ok (.if_icmp .ge 50, 3) := by decide +kernel
theorem d_59_17 : decode (mB 59) 17 = .ok (.aload_n 1, 1) := by decide +kernel
theorem d_59_18 : decode (mB 59) 18 = .ok (.getfield 59, 3) := by decide +kernel
theorem d_59_21 : decode (mB 59) 21 = .ok (.iload_n 2, 1) := by decide +kernel
theorem d_59_22 : decode (mB 59) 22 = .ok (.invokevirtual 71, 3) := by decide +kernel
theorem d_59_25 : decode (mB 59) 25 = .ok (.checkcast 75, 3) := by decide +kernel
theorem d_59_28 : decode (mB 59) 28 = .ok (.astore_n 3, 1) := by decide +kernel
theorem d_59_29 : decode (mB 59) 29 = .ok (.iconst 0, 1) := by decide +kernel
theorem d_59_30 : decode (mB 59) 30 = .ok (.istore 4, 2) := by decide +kernel
theorem d_59_32 : decode (mB 59) 32 = .ok (.iload 4, 2) := by decide +kernel
theorem d_59_34 : decode (mB 59) 34 = .ok (.aload_n 3, 1) := by decide +kernel
theorem d_59_35 : decode (mB 59) 35 = .ok (.getfield 77, 3) := by decide +kernel
theorem d_59_38 : decode (mB 59) 38 = .ok (.if_icmp .ge 20, 3) := by decide +kernel
theorem d_59_41 : decode (mB 59) 41 = .ok (.aload_n 0, 1) := by decide +kernel
theorem d_59_42 : decode (mB 59) 42 = .ok (.aload_n 3, 1) := by decide +kernel
theorem d_59_43 : decode (mB 59) 43 = .ok (.getfield 80, 3) := by decide +kernel
theorem d_59_46 : decode (mB 59) 46 = .ok (.iload 4, 2) := by decide +kernel
theorem d_59_48 : decode (mB 59) 48 = .ok (.aaload, 1) := by decide +kernel
theorem d_59_49 : decode (mB 59) 49 = .ok (.invokevirtual 83, 3) := by decide +kernel
theorem d_59_52 : decode (mB 59) 52 = .ok (.iinc 4 1, 3) := by decide +kernel
theorem d_59_55 : decode (mB 59) 55 = .ok (.goto (-23), 3) := by decide +kernel
theorem d_59_58 : decode (mB 59) 58 = .ok (.iinc 2 1, 3) := by decide +kernel
theorem d_59_61 : decode (mB 59) 61 = .ok (.goto (-55), 3) := by decide +kernel
theorem d_59_64 : decode (mB 59) 64 = .ok (.iconst 0, 1) := by decide +kernel
theorem d_59_65 : decode (mB 59) 65 = .ok (.istore_n 2, 1) := by decide +kernel
theorem d_59_66 : decode (mB 59) 66 = .ok (.iload_n 2, 1) := by decide +kernel
theorem d_59_67 : decode (mB 59) 67 = .ok (.aload_n 1, 1) := by decide +kernel
theorem d_59_68 : decode (mB 59) 68 = .ok (.getfield 59, 3) := by decide +kernel
theorem d_59_71 : decode (mB 59) 71 = .ok (.invokevirtual 65, 3) := by decide +kernel
theorem d_59_74 : decode (mB 59) 74 = .ok (.if_icmp .ge 95, 3) := by decide +kernel
theorem d_59_77 : decode (mB 59) 77 = .ok (.aload_n 1, 1) := by decide +kernel
theorem d_59_78 : decode (mB 59) 78 = .ok (.getfield 59, 3) := by decide +kernel
theorem d_59_81 : decode (mB 59) 81 = .ok (.iload_n 2, 1) := by decide +kernel
theorem d_59_82 : decode (mB 59) 82 = .ok (.invokevirtual 71, 3) := by decide +kernel
theorem d_59_85 : decode (mB 59) 85 = .ok (.checkcast 75, 3) := by decide +kernel
theorem d_59_88 : decode (mB 59) 88 = .ok (.astore_n 3, 1) := by decide +kernel
theorem d_59_89 : decode (mB 59) 89 = .ok (.aload_n 3, 1) := by decide +kernel
theorem d_59_90 : decode (mB 59) 90 = .ok (.iconst 0, 1) := by decide +kernel
theorem d_59_91 : decode (mB 59) 91 = .ok (.putfield 87, 3) := by decide +kernel
theorem d_59_94 : decode (mB 59) 94 = .ok (.iconst 0, 1) := by decide +kernel
theorem d_59_95 : decode (mB 59) 95 = .ok (.istore 4, 2) := by decide +kernel
theorem d_59_97 : decode (mB 59) 97 = .ok (.iload 4, 2) := by decide +kernel
theorem d_59_99 : decode (mB 59) 99 = .ok (.aload_n 3, 1) := by decide +kernel
theorem d_59_100 : decode (mB 59) 100 = .ok (.getfield 77, 3) := by decide +kernel
theorem d_59_103 : decode (mB 59) 103 = .ok (.if_icmp .ge 60, 3) := by decide +kernel
theorem d_59_106 : decode (mB 59) 106 = .ok (.aload_n 3, 1) := by decide +kernel
theorem d_59_107 : decode (mB 59) 107 = .ok (.getfield 90, 3) := by decide +kernel
theorem d_59_110 : decode (mB 59) 110 = .ok (.iload 4, 2) := by decide +kernel
theorem d_59_112 : decode (mB 59) 112 = .ok (.aload_n 0, 1) := by decide +kernel
theorem d_59_113 : decode (mB 59) 113 = .ok (.aload_n 3, 1) := by decide +kernel
theorem d_59_114 : decode (mB 59) 114 = .ok (.getfield 80, 3) := by decide +kernel
theorem d_59_117 : decode (mB 59) 117 = .ok (.iload 4, 2) := by decide +kernel
theorem d_59_119 : decode (mB 59) 119 = .ok (.aaload, 1) := by decide +kernel
theorem d_59_120 : decode (mB 59) 120 = .ok (.invokevirtual 93, 3) := by decide +kernel
theorem d_59_123 : decode (mB 59) 123 = .ok (.bastore, 1) := by decide +kernel
theorem d_59_124 : decode (mB 59) 124 = .ok (.aload_n 3, 1) := by decide +kernel
theorem d_59_125 : decode (mB 59) 125 = .ok (.dup, 1) := by decide +kernel
theorem d_59_126 : decode (mB 59) 126 = .ok (.getfield 87, 3) := by decide +kernel
theorem d_59_129 : decode (mB 59) 129 = .ok (.aload_n 3, 1) := by decide +kernel
theorem d_59_130 : decode (mB 59) 130 = .ok (.getfield 90, 3) := by decide +kernel
theorem d_59_133 : decode (mB 59) 133 = .ok (.iload 4, 2) := by decide +kernel
theorem d_59_135 : decode (mB 59) 135 = .ok (.baload, 1) := by decide +kernel
theorem d_59_136 : decode (mB 59) 136 = .ok (.ifCond .eq 16, 3) := by decide +kernel
theorem d_59_139 : decode (mB 59) 139 = .ok (.aload_n 3, 1) := by decide +kernel
theorem d_59_140 : decode (mB 59) 140 = .ok (.getfield 80, 3) := by decide +kernel
theorem d_59_143 : decode (mB 59) 143 = .ok (.iload 4, 2) := by decide +kernel
theorem d_59_145 : decode (mB 59) 145 = .ok (.aaload, 1) := by decide +kernel
theorem d_59_146 : decode (mB 59) 146 = .ok (.getfield 97, 3) := by decide +kernel
theorem d_59_149 : decode (mB 59) 149 = .ok (.goto 4, 3) := by decide +kernel
theorem d_59_152 : decode (mB 59) 152 = .ok (.iconst 0, 1) := by decide +kernel
theorem d_59_153 : decode (mB 59) 153 = .ok (.iadd, 1) := by decide +kernel
theorem d_59_154 : decode (mB 59) 154 = .ok (.putfield 87, 3) := by decide +kernel
theorem d_59_157 : decode (mB 59) 157 = .ok (.iinc 4 1, 3) := by decide +kernel
theorem d_59_160 : decode (mB 59) 160 = .ok (.goto (-63), 3) := by decide +kernel
theorem d_59_163 : decode (mB 59) 163 = .ok (.iinc 2 1, 3) := by decide +kernel
theorem d_59_166 : decode (mB 59) 166 = .ok (.goto (-100), 3) := by decide +kernel
theorem d_59_169 : decode (mB 59) 169 = .ok (.return_, 1) := by decide +kernel
theorem d_60_0 : decode (mB 60) 0 = .ok (.aload_n 1, 1) := by decide +kernel
theorem d_60_1 : decode (mB 60) 1 = .ok (.getfield 47, 3) := by decide +kernel
theorem d_60_4 : decode (mB 60) 4 = .ok (.iconst 2, 1) := by decide +kernel
theorem d_60_5 : decode (mB 60) 5 = .ok (.if_icmp .ne 25, 3) := by decide +kernel
theorem d_60_8 : decode (mB 60) 8 = .ok (.aload_n 1, 1) := by decide +kernel
theorem d_60_9 : decode (mB 60) 9 = .ok (.getfield 35, 3) := by decide +kernel
theorem d_60_12 : decode (mB 60) 12 = .ok (.aload_n 0, 1) := by decide +kernel
theorem d_60_13 : decode (mB 60) 13 = .ok (.getfield 19, 3) := by decide +kernel
theorem d_60_16 : decode (mB 60) 16 = .ok (.aload_n 1, 1) := by decide +kernel
theorem d_60_17 : decode (mB 60) 17 = .ok (.getfield 53, 3) := by decide +kernel
theorem d_60_20 : decode (mB 60) 20 = .ok (.iaload, 1) := by decide +kernel
theorem d_60_21 : decode (mB 60) 21 = .ok (.if_icmp .ne 7, 3) := by decide +kernel
theorem d_60_24 : decode (mB 60) 24 = .ok (.iconst 1, 1) := by decide +kernel
theorem d_60_25 : decode (mB 60) 25 = .ok (.goto 4, 3) := by decide +kernel
theorem d_60_28 : decode (mB 60) 28 = .ok (.iconst 0, 1) := by decide +kernel
theorem d_60_29 : decode (mB 60) 29 = .ok (.ireturn, 1) := by decide +kernel
theorem d_60_30 : decode (mB 60) 30 = .ok (.aload_n 1, 1) := by decide +kernel
theorem d_60_31 : decode (mB 60) 31 = .ok (.getfield 47, 3) := by decide +kernel
theorem d_60_34 : decode (mB 60) 34 = .ok (.iconst 3, 1) := by decide +kernel
theorem d_60_35 : decode (mB 60) 35 = .ok (.if_icmp .ne 26, 3) := by decide +kernel
theorem d_60_38 : decode (mB 60) 38 = .ok (.aload_n 1, 1) := by decide +kernel
theorem d_60_39 : decode (mB 60) 39 = .ok (.getfield 100, 3) := by decide +kernel
theorem d_60_42 : decode (mB 60) 42 = .ok (.ifnull 17, 3) := by decide +kernel
theorem d_60_45 : decode (mB 60) 45 = .ok (.aload_n 1, 1) := by decide +kernel
theorem d_60_46 : decode (mB 60) 46 = .ok (.getfield 100, 3) := by decide +kernel
theorem d_60_49 : decode (mB 60) 49 = .ok (.getfield 104, 3) := by decide +kernel
theorem d_60_52 : decode (mB 60) 52 = .ok (.ifCond .ne 7, 3) := by decide +kernel
theorem d_60_55 : decode (mB 60) 55 = .ok (.iconst 1, 1) := by decide +kernel
theorem d_60_56 : decode (mB 60) 56 = .ok (.goto 4, 3) := by decide +kernel
theorem d_60_59 : decode (mB 60) 59 = .ok (.iconst 0, 1) := by decide +kernel
theorem d_60_60 : decode (mB 60) 60 = .ok (.ireturn, 1) := by decide +kernel
theorem d_60_61 : decode (mB 60) 61 = .ok (.aload_n 1, 1) := by decide +kernel
theorem d_60_62 : decode (mB 60) 62 = .ok (.getfield 47, 3) := by decide +kernel
theorem d_60_65 : decode (mB 60) 65 = .ok (.iconst 4, 1) := by decide +kernel
theorem d_60_66 : decode (mB 60) 66 = .ok (.if_icmp .ne 25, 3) := by decide +kernel
theorem d_60_69 : decode (mB 60) 69 = .ok (.aload_n 1, 1) := by decide +kernel
theorem d_60_70 : decode (mB 60) 70 = .ok (.getfield 107, 3) := by decide +kernel
theorem d_60_73 : decode (mB 60) 73 = .ok (.aload_n 0, 1) := by decide +kernel
theorem d_60_74 : decode (mB 60) 74 = .ok (.getfield 9, 3) := by decide +kernel
theorem d_60_77 : decode (mB 60) 77 = .ok (.aload_n 1, 1) := by decide +kernel
theorem d_60_78 : decode (mB 60) 78 = .ok (.getfield 44, 3) := by decide +kernel
theorem d_60_81 : decode (mB 60) 81 = .ok (.iaload, 1) := by decide +kernel
theorem d_60_82 : decode (mB 60) 82 = .ok (.if_icmp .lt 7, 3) := by decide +kernel
theorem d_60_85 : decode (mB 60) 85 = .ok (.iconst 1, 1) := by decide +kernel
theorem d_60_86 : decode (mB 60) 86 = .ok (.goto 4, 3) := by decide +kernel
theorem d_60_89 : decode (mB 60) 89 = .ok (.iconst 0, 1) := by decide +kernel
theorem d_60_90 : decode (mB 60) 90 = .ok (.ireturn, 1) := by decide +kernel
theorem d_60_91 : decode (mB 60) 91 = .ok (.aload_n 1, 1) := by decide +kernel
theorem d_60_92 : decode (mB 60) 92 = .ok (.getfield 47, 3) := by decide +kernel
theorem d_60_95 : decode (mB 60) 95 = .ok (.iconst 1, 1) := by decide +kernel
theorem d_60_96 : decode (mB 60) 96 = .ok (.if_icmp .ne 31, 3) := by decide +kernel
theorem d_60_99 : decode (mB 60) 99 = .ok (.aload_n 1, 1) := by decide +kernel
theorem d_60_100 : decode (mB 60) 100 = .ok (.getfield 42, 3) := by decide +kernel
theorem d_60_103 : decode (mB 60) 103 = .ok (.aload_n 0, 1) := by decide +kernel
theorem d_60_104 : decode (mB 60) 104 = .ok (.getfield 9, 3) := by decide +kernel
theorem d_60_107 : decode (mB 60) 107 = .ok (.aload_n 1, 1) := by decide +kernel
theorem d_60_108 : decode (mB 60) 108 = .ok (.getfield 44, 3) := by decide +kernel
theorem d_60_111 : decode (mB 60) 111 = .ok (.iaload, 1) := by decide +kernel
theorem d_60_112 : decode (mB 60) 112 = .ok (.if_icmp .ne 15, 3) := by decide +kernel
theorem d_60_115 : decode (mB 60) 115 = .ok (.aload_n 0, 1) := by decide +kernel
theorem d_60_116 : decode (mB 60) 116 = .ok (.getfield 15, 3) := by decide +kernel
theorem d_60_119 : decode (mB 60) 119 = .ok (.aload_n 1, 1) := by decide +kernel
theorem d_60_120 : decode (mB 60) 120 = .ok (.getfield 44, 3) := by decide +kernel
theorem d_60_123 : decode (mB 60) 123 = .ok (.baload, 1) := by decide +kernel
theorem d_60_124 : decode (mB 60) 124 = .ok (.ifCond .eq 5, 3) := by decide +kernel
theorem d_60_127 : decode (mB 60) 127 = .ok (.iconst 0, 1) := by decide +kernel
theorem d_60_128 : decode (mB 60) 128 = .ok (.ireturn, 1) := by decide +kernel
theorem d_60_129 : decode (mB 60) 129 = .ok (.aload_n 0, 1) := by decide +kernel
theorem d_60_130 : decode (mB 60) 130 = .ok (.getfield 15, 3) := by decide +kernel
theorem d_60_133 : decode (mB 60) 133 = .ok (.aload_n 1, 1) := by decide +kernel
theorem d_60_134 : decode (mB 60) 134 = .ok (.getfield 44, 3) := by decide +kernel
theorem d_60_137 : decode (mB 60) 137 = .ok (.iconst 1, 1) := by decide +kernel
theorem d_60_138 : decode (mB 60) 138 = .ok (.bastore, 1) := by decide +kernel
theorem d_60_139 : decode (mB 60) 139 = .ok (.iconst 1, 1) := by decide +kernel
theorem d_60_140 : decode (mB 60) 140 = .ok (.ireturn, 1) := by decide +kernel
theorem d_61_0 : decode (mB 61) 0 = .ok (.aload_n 0, 1) := by decide +kernel
theorem d_61_1 : decode (mB 61) 1 = .ok (.invokevirtual 56, 3) := by decide +kernel
theorem d_61_4 : decode (mB 61) 4 = .ok (.iconst 0, 1) := by decide +kernel
theorem d_61_5 : decode (mB 61) 5 = .ok (.istore_n 3, 1) := by decide +kernel
theorem d_61_6 : decode (mB 61) 6 = .ok (.iload_n 3, 1) := by decide +kernel
theorem d_61_7 : decode (mB 61) 7 = .ok (.aload_n 0, 1) := by decide +kernel
theorem d_61_8 : decode (mB 61) 8 = .ok (.getfield 28, 3) := by decide +kernel
theorem d_61_11 : decode (mB 61) 11 = .ok (.arraylength, 1) := by decide +kernel
theorem d_61_12 : decode (mB 61) 12 = .ok (.if_icmp .ge 16, 3) := by decide +kernel
theorem d_61_15 : decode (mB 61) 15 = .ok (.aload_n 0, 1) := by decide +kernel
theorem d_61_16 : decode (mB 61) 16 = .ok (.getfield 28, 3) := by decide +kernel
theorem d_61_19 : decode (mB 61) 19 = .ok (.iload_n 3, 1) := by decide +kernel
theorem d_61_20 : decode (mB 61) 20 = .ok (.aconst_null, 1) := by decide +kernel
theorem d_61_21 : decode (mB 61) 21 = .ok (.aastore, 1) := by decide +kernel
theorem d_61_22 : decode (mB 61) 22 = .ok (.iinc 3 1, 3) := by decide +kernel
theorem d_61_25 : decode (mB 61) 25 = .ok (.goto (-19), 3) := by decide +kernel
theorem d_61_28 : decode (mB 61) 28 = .ok (.iconst 0, 1) := by decide +kernel
theorem d_61_29 : decode (mB 61) 29 = .ok (.istore_n 3, 1) := by decide +kernel
theorem d_61_30 : decode (mB 61) 30 = .ok (.iload_n 3, 1) := by decide +kernel
theorem d_61_31 : decode (mB 61) 31 = .ok (.aload_n 1, 1) := by decide +kernel
theorem d_61_32 : decode (mB 61) 32 = .ok (.getfield 59, 3) := by decide +kernel
theorem d_61_35 : decode (mB 61) 35 = .ok (.invokevirtual 65, 3) := by decide +kernel
theorem d_61_38 : decode (mB 61) 38 = .ok (.if_icmp .ge 94, 3) := by decide +kernel
theorem d_61_41 : decode (mB 61) 41 = .ok (.aload_n 1, 1) := by decide +kernel
theorem d_61_42 : decode (mB 61) 42 = .ok (.getfield 59, 3) := by decide +kernel
theorem d_61_45 : decode (mB 61) 45 = .ok (.iload_n 3, 1) := by decide +kernel
theorem d_61_46 : decode (mB 61) 46 = .ok (.invokevirtual 71, 3) := by decide +kernel
theorem d_61_49 : decode (mB 61) 49 = .ok (.checkcast 75, 3) := by decide +kernel
theorem d_61_52 : decode (mB 61) 52 = .ok (.astore 4, 2) := by decide +kernel
theorem d_61_54 : decode (mB 61) 54 = .ok (.aload 4, 2) := by decide +kernel
theorem d_61_56 : decode (mB 61) 56 = .ok (.iload_n 2, 1) := by decide +kernel
theorem d_61_57 : decode (mB 61) 57 = .ok (.invokevirtual 110, 3) := by decide +kernel
theorem d_61_60 : decode (mB 61) 60 = .ok (.istore 5, 2) := by decide +kernel
theorem d_61_62 : decode (mB 61) 62 = .ok (.iconst 0, 1) := by decide +kernel
theorem d_61_63 : decode (mB 61) 63 = .ok (.istore 6, 2) := by decide +kernel
theorem d_61_65 : decode (mB 61) 65 = .ok (.iload 6, 2) := by decide +kernel
theorem d_61_67 : decode (mB 61) 67 = .ok (.iload 5, 2) := by decide +kernel
theorem d_61_69 : decode (mB 61) 69 = .ok (.if_icmp .ge 57, 3) := by decide +kernel
theorem d_61_72 : decode (mB 61) 72 = .ok (.aload 4, 2) := by decide +kernel
theorem d_61_74 : decode (mB 61) 74 = .ok (.getfield 80, 3) := by decide +kernel
theorem d_61_77 : decode (mB 61) 77 = .ok (.iload 6, 2) := by decide +kernel
theorem d_61_79 : decode (mB 61) 79 = .ok (.aaload, 1) := by decide +kernel
theorem d_61_80 : decode (mB 61) 80 = .ok (.astore 7, 2) := by decide +kernel
theorem d_61_82 : decode (mB 61) 82 = .ok (.aload_n 0, 1) := by decide +kernel
theorem d_61_83 : decode (mB 61) 83 = .ok (.aload 7, 2) := by decide +kernel
theorem d_61_85 : decode (mB 61) 85 = .ok (.invokevirtual 83, 3) := by decide +kernel
theorem d_61_88 : decode (mB 61) 88 = .ok (.aload 7, 2) := by decide +kernel
theorem d_61_90 : decode (mB 61) 90 = .ok (.getfield 47, 3) := by decide +kernel
theorem d_61_93 : decode (mB 61) 93 = .ok (.iconst 4, 1) := by decide +kernel
theorem d_61_94 : decode (mB 61) 94 = .ok (.if_icmp .ne 26, 3) := by decide +kernel
theorem d_61_97 : decode (mB 61) 97 = .ok (.aload_n 0, 1) := by decide +kernel
theorem d_61_98 : decode (mB 61) 98 = .ok (.getfield 28, 3) := by decide +kernel
theorem d_61_101 : decode (mB 61) 101 = .ok (.aload 7, 2) := by decide +kernel
theorem d_61_103 : decode (mB 61) 103 = .ok (.getfield 44, 3) := by decide +kernel
theorem d_61_106 : decode (mB 61) 106 = .ok (.bipush 40, 2) := by decide +kernel
theorem d_61_108 : decode (mB 61) 108 = .ok (.imul, 1) := by decide +kernel
theorem d_61_109 : decode (mB 61) 109 = .ok (.aload 7, 2) := by decide +kernel
theorem d_61_111 : decode (mB 61) 111 = .ok (.getfield 107, 3) := by decide +kernel
theorem d_61_114 : decode (mB 61) 114 = .ok (.iadd, 1) := by decide +kernel
theorem d_61_115 : decode (mB 61) 115 = .ok (.iconst 1, 1) := by decide +kernel
theorem d_61_116 : decode (mB 61) 116 = .ok (.isub, 1) := by decide +kernel
theorem d_61_117 : decode (mB 61) 117 = .ok (.aload 7, 2) := by decide +kernel
theorem d_61_119 : decode (mB 61) 119 = .ok (.aastore, 1) := by decide +kernel
theorem d_61_120 : decode (mB 61) 120 = .ok (.iinc 6 1, 3) := by decide +kernel
theorem d_61_123 : decode (mB 61) 123 = .ok (.goto (-58), 3) := by decide +kernel
theorem d_61_126 : decode (mB 61) 126 = .ok (.iinc 3 1, 3) := by decide +kernel
theorem d_61_129 : decode (mB 61) 129 = .ok (.goto (-99), 3) := by decide +kernel
theorem d_61_132 : decode (mB 61) 132 = .ok (.return_, 1) := by decide +kernel
