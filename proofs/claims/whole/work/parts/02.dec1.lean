theorem dX0_init_0 : decode cX0_init 0 = .ok (.aload_n 0, 1) := by decide +kernel
theorem dX0_init_1 : decode cX0_init 1 = .ok (.invokespecial 1, 3) := by decide +kernel
theorem dX0_init_4 : decode cX0_init 4 = .ok (.aload_n 0, 1) := by decide +kernel
theorem dX0_init_5 : decode cX0_init 5 = .ok (.iload_n 1, 1) := by decide +kernel
theorem dX0_init_6 : decode cX0_init 6 = .ok (.putfield 7, 3) := by decide +kernel
theorem dX0_init_9 : decode cX0_init 9 = .ok (.aload_n 0, 1) := by decide +kernel
theorem dX0_init_10 : decode cX0_init 10 = .ok (.iload_n 2, 1) := by decide +kernel
theorem dX0_init_11 : decode cX0_init 11 = .ok (.putfield 13, 3) := by decide +kernel
theorem dX0_init_14 : decode cX0_init 14 = .ok (.aload_n 0, 1) := by decide +kernel
theorem dX0_init_15 : decode cX0_init 15 = .ok (.iload_n 3, 1) := by decide +kernel
theorem dX0_init_16 : decode cX0_init 16 = .ok (.putfield 16, 3) := by decide +kernel
theorem dX0_init_19 : decode cX0_init 19 = .ok (.return_, 1) := by decide +kernel
theorem dX1_init_0 : decode cX1_init 0 = .ok (.aload_n 0, 1) := by decide +kernel
theorem dX1_init_1 : decode cX1_init 1 = .ok (.invokespecial 3, 3) := by decide +kernel
theorem dX1_init_4 : decode cX1_init 4 = .ok (.aload_n 0, 1) := by decide +kernel
theorem dX1_init_5 : decode cX1_init 5 = .ok (.bipush 40, 2) := by decide +kernel
theorem dX1_init_7 : decode cX1_init 7 = .ok (.anewarray 9, 3) := by decide +kernel
theorem dX1_init_10 : decode cX1_init 10 = .ok (.putfield 11, 3) := by decide +kernel
theorem dX1_init_13 : decode cX1_init 13 = .ok (.aload_n 0, 1) := by decide +kernel
theorem dX1_init_14 : decode cX1_init 14 = .ok (.bipush 40, 2) := by decide +kernel
theorem dX1_init_16 : decode cX1_init 16 = .ok (.anewarray 17, 3) := by decide +kernel
theorem dX1_init_19 : decode cX1_init 19 = .ok (.putfield 19, 3) := by decide +kernel
theorem dX1_init_22 : decode cX1_init 22 = .ok (.return_, 1) := by decide +kernel
theorem dX1_keep_0 : decode cX1_keep 0 = .ok (.aload_n 0, 1) := by decide +kernel
theorem dX1_keep_1 : decode cX1_keep 1 = .ok (.getfield 23, 3) := by decide +kernel
theorem dX1_keep_4 : decode cX1_keep 4 = .ok (.aload_n 0, 1) := by decide +kernel
theorem dX1_keep_5 : decode cX1_keep 5 = .ok (.getfield 11, 3) := by decide +kernel
theorem dX1_keep_8 : decode cX1_keep 8 = .ok (.arraylength, 1) := by decide +kernel
theorem dX1_keep_9 : decode cX1_keep 9 = .ok (.if_icmp .ge 23, 3) := by decide +kernel
theorem dX1_keep_12 : decode cX1_keep 12 = .ok (.aload_n 0, 1) := by decide +kernel
theorem dX1_keep_13 : decode cX1_keep 13 = .ok (.getfield 11, 3) := by decide +kernel
theorem dX1_keep_16 : decode cX1_keep 16 = .ok (.aload_n 0, 1) := by decide +kernel
theorem dX1_keep_17 : decode cX1_keep 17 = .ok (.getfield 23, 3) := by decide +kernel
theorem dX1_keep_20 : decode cX1_keep 20 = .ok (.aload_n 1, 1) := by decide +kernel
theorem dX1_keep_21 : decode cX1_keep 21 = .ok (.aastore, 1) := by decide +kernel
theorem dX1_keep_22 : decode cX1_keep 22 = .ok (.aload_n 0, 1) := by decide +kernel
theorem dX1_keep_23 : decode cX1_keep 23 = .ok (.dup, 1) := by decide +kernel
theorem dX1_keep_24 : decode cX1_keep 24 = .ok (.getfield 23, 3) := by decide +kernel
theorem dX1_keep_27 : decode cX1_keep 27 = .ok (.iconst 1, 1) := by decide +kernel
theorem dX1_keep_28 : decode cX1_keep 28 = .ok (.iadd, 1) := by decide +kernel
theorem dX1_keep_29 : decode cX1_keep 29 = .ok (.putfield 23, 3) := by decide +kernel
theorem dX1_keep_32 : decode cX1_keep 32 = .ok (.return_, 1) := by decide +kernel
theorem dX1_take_0 : decode cX1_take 0 = .ok (.aload_n 2, 1) := by decide +kernel
theorem dX1_take_1 : decode cX1_take 1 = .ok (.getfield 27, 3) := by decide +kernel
theorem dX1_take_4 : decode cX1_take 4 = .ok (.iconst 3, 1) := by decide +kernel
theorem dX1_take_5 : decode cX1_take 5 = .ok (.if_icmp .eq 11, 3) := by decide +kernel
theorem dX1_take_8 : decode cX1_take 8 = .ok (.aload_n 2, 1) := by decide +kernel
theorem dX1_take_9 : decode cX1_take 9 = .ok (.getfield 27, 3) := by decide +kernel
theorem dX1_take_12 : decode cX1_take 12 = .ok (.iconst 4, 1) := by decide +kernel
theorem dX1_take_13 : decode cX1_take 13 = .ok (.if_icmp .ne 6, 3) := by decide +kernel
theorem dX1_take_16 : decode cX1_take 16 = .ok (.bipush 6, 2) := by decide +kernel
theorem dX1_take_18 : decode cX1_take 18 = .ok (.ireturn, 1) := by decide +kernel
theorem dX1_take_19 : decode cX1_take 19 = .ok (.iload_n 1, 1) := by decide +kernel
theorem dX1_take_20 : decode cX1_take 20 = .ok (.iconst 1, 1) := by decide +kernel
theorem dX1_take_21 : decode cX1_take 21 = .ok (.if_icmp .lt 23, 3) := by decide +kernel
theorem dX1_take_24 : decode cX1_take 24 = .ok (.iload_n 1, 1) := by decide +kernel
theorem dX1_take_25 : decode cX1_take 25 = .ok (.aload_n 0, 1) := by decide +kernel
theorem dX1_take_26 : decode cX1_take 26 = .ok (.getfield 19, 3) := by decide +kernel
theorem dX1_take_29 : decode cX1_take 29 = .ok (.arraylength, 1) := by decide +kernel
theorem dX1_take_30 : decode cX1_take 30 = .ok (.if_icmp .gt 14, 3) := by decide +kernel
theorem dX1_take_33 : decode cX1_take 33 = .ok (.aload_n 0, 1) := by decide +kernel
theorem dX1_take_34 : decode cX1_take 34 = .ok (.getfield 19, 3) := by decide +kernel
theorem dX1_take_37 : decode cX1_take 37 = .ok (.iload_n 1, 1) := by decide +kernel
theorem dX1_take_38 : decode cX1_take 38 = .ok (.iconst 1, 1) := by decide +kernel
theorem dX1_take_39 : decode cX1_take 39 = .ok (.isub, 1) := by decide +kernel
theorem dX1_take_40 : decode cX1_take 40 = .ok (.aaload, 1) := by decide +kernel
theorem dX1_take_41 : decode cX1_take 41 = .ok (.ifnull 5, 3) := by decide +kernel
theorem dX1_take_44 : decode cX1_take 44 = .ok (.iconst 5, 1) := by decide +kernel
theorem dX1_take_45 : decode cX1_take 45 = .ok (.ireturn, 1) := by decide +kernel
theorem dX1_take_46 : decode cX1_take 46 = .ok (.aload_n 0, 1) := by decide +kernel
theorem dX1_take_47 : decode cX1_take 47 = .ok (.getfield 19, 3) := by decide +kernel
theorem dX1_take_50 : decode cX1_take 50 = .ok (.iload_n 1, 1) := by decide +kernel
theorem dX1_take_51 : decode cX1_take 51 = .ok (.iconst 1, 1) := by decide +kernel
theorem dX1_take_52 : decode cX1_take 52 = .ok (.isub, 1) := by decide +kernel
theorem dX1_take_53 : decode cX1_take 53 = .ok (.aload_n 2, 1) := by decide +kernel
theorem dX1_take_54 : decode cX1_take 54 = .ok (.aastore, 1) := by decide +kernel
theorem dX1_take_55 : decode cX1_take 55 = .ok (.iconst 4, 1) := by decide +kernel
theorem dX1_take_56 : decode cX1_take 56 = .ok (.ireturn, 1) := by decide +kernel
theorem dX1_leastOpen_0 : decode cX1_leastOpen 0 = .ok (.iconst 0, 1) := by decide +kernel
theorem dX1_leastOpen_1 : decode cX1_leastOpen 1 = .ok (.istore_n 1, 1) := by decide +kernel
theorem dX1_leastOpen_2 : decode cX1_leastOpen 2 = .ok (.iload_n 1, 1) := by decide +kernel
theorem dX1_leastOpen_3 : decode cX1_leastOpen 3 = .ok (.aload_n 0, 1) := by decide +kernel
theorem dX1_leastOpen_4 : decode cX1_leastOpen 4 = .ok (.getfield 23, 3) := by decide +kernel
theorem dX1_leastOpen_7 : decode cX1_leastOpen 7 = .ok (.if_icmp .ge 22, 3) := by decide +kernel
theorem dX1_leastOpen_10 : decode cX1_leastOpen 10 = .ok (.aload_n 0, 1) := by decide +kernel
theorem dX1_leastOpen_11 : decode cX1_leastOpen 11 = .ok (.getfield 19, 3) := by decide +kernel
theorem dX1_leastOpen_14 : decode cX1_leastOpen 14 = .ok (.iload_n 1, 1) := by decide +kernel
theorem dX1_leastOpen_15 : decode cX1_leastOpen 15 = .ok (.aaload, 1) := by decide +kernel
theorem dX1_leastOpen_16 : decode cX1_leastOpen 16 = .ok (.ifnonnull 7, 3) := by decide +kernel
theorem dX1_leastOpen_19 : decode cX1_leastOpen 19 = .ok (.iload_n 1, 1) := by decide +kernel
theorem dX1_leastOpen_20 : decode cX1_leastOpen 20 = .ok (.iconst 1, 1) := by decide +kernel
theorem dX1_leastOpen_21 : decode cX1_leastOpen 21 = .ok (.iadd, 1) := by decide +kernel
theorem dX1_leastOpen_22 : decode cX1_leastOpen 22 = .ok (.ireturn, 1) := by decide +kernel
theorem dX1_leastOpen_23 : decode cX1_leastOpen 23 = .ok (.iinc 1 1, 3) := by decide +kernel
theorem dX1_leastOpen_26 : decode cX1_leastOpen 26 = .ok (.goto (-24), 3) := by decide +kernel
theorem dX1_leastOpen_29 : decode cX1_leastOpen 29 = .ok (.aload_n 0, 1) := by decide +kernel
theorem dX1_leastOpen_30 : decode cX1_leastOpen 30 = .ok (.getfield 23, 3) := by decide +kernel
theorem dX1_leastOpen_33 : decode cX1_leastOpen 33 = .ok (.iconst 1, 1) := by decide +kernel
theorem dX1_leastOpen_34 : decode cX1_leastOpen 34 = .ok (.iadd, 1) := by decide +kernel
theorem dX1_leastOpen_35 : decode cX1_leastOpen 35 = .ok (.ireturn, 1) := by decide +kernel
theorem dX2_init_0 : decode cX2_init 0 = .ok (.aload_n 0, 1) := by decide +kernel
theorem dX2_init_1 : decode cX2_init 1 = .ok (.invokespecial 3, 3) := by decide +kernel
theorem dX2_init_4 : decode cX2_init 4 = .ok (.aload_n 0, 1) := by decide +kernel
theorem dX2_init_5 : decode cX2_init 5 = .ok (.bipush 8, 2) := by decide +kernel
theorem dX2_init_7 : decode cX2_init 7 = .ok (.newarray .int, 2) := by decide +kernel
theorem dX2_init_9 : decode cX2_init 9 = .ok (.putfield 9, 3) := by decide +kernel
theorem dX2_init_12 : decode cX2_init 12 = .ok (.aload_n 0, 1) := by decide +kernel
theorem dX2_init_13 : decode cX2_init 13 = .ok (.new 15, 3) := by decide +kernel
theorem dX2_init_16 : decode cX2_init 16 = .ok (.dup, 1) := by decide +kernel
theorem dX2_init_17 : decode cX2_init 17 = .ok (.invokespecial 17, 3) := by decide +kernel
theorem dX2_init_20 : decode cX2_init 20 = .ok (.putfield 18, 3) := by decide +kernel
theorem dX2_init_23 : decode cX2_init 23 = .ok (.aload_n 0, 1) := by decide +kernel
theorem dX2_init_24 : decode cX2_init 24 = .ok (.new 22, 3) := by decide +kernel
theorem dX2_init_27 : decode cX2_init 27 = .ok (.dup, 1) := by decide +kernel
theorem dX2_init_28 : decode cX2_init 28 = .ok (.invokespecial 24, 3) := by decide +kernel
theorem dX2_init_31 : decode cX2_init 31 = .ok (.putfield 25, 3) := by decide +kernel
theorem dX2_init_34 : decode cX2_init 34 = .ok (.aload_n 0, 1) := by decide +kernel
theorem dX2_init_35 : decode cX2_init 35 = .ok (.new 15, 3) := by decide +kernel
theorem dX2_init_38 : decode cX2_init 38 = .ok (.dup, 1) := by decide +kernel
theorem dX2_init_39 : decode cX2_init 39 = .ok (.invokespecial 17, 3) := by decide +kernel
theorem dX2_init_42 : decode cX2_init 42 = .ok (.putfield 29, 3) := by decide +kernel
theorem dX2_init_45 : decode cX2_init 45 = .ok (.aload_n 0, 1) := by decide +kernel
theorem dX2_init_46 : decode cX2_init 46 = .ok (.aload_n 1, 1) := by decide +kernel
theorem dX2_init_47 : decode cX2_init 47 = .ok (.putfield 32, 3) := by decide +kernel
theorem dX2_init_50 : decode cX2_init 50 = .ok (.iconst 0, 1) := by decide +kernel
theorem dX2_init_51 : decode cX2_init 51 = .ok (.istore_n 2, 1) := by decide +kernel
theorem dX2_init_52 : decode cX2_init 52 = .ok (.iload_n 2, 1) := by decide +kernel
theorem dX2_init_53 : decode cX2_init 53 = .ok (.aload_n 0, 1) := by decide +kernel
theorem dX2_init_54 : decode cX2_init 54 = .ok (.getfield 9, 3) := by decide +kernel
theorem dX2_init_57 : decode cX2_init 57 = .ok (.arraylength, 1) := by decide +kernel
theorem dX2_init_58 : decode cX2_init 58 = .ok (.if_icmp .ge 41, 3) := by decide +kernel
theorem dX2_init_61 : decode cX2_init 61 = .ok (.iload_n 2, 1) := by decide +kernel
theorem dX2_init_62 : decode cX2_init 62 = .ok (.aload_n 1, 1) := by decide +kernel
theorem dX2_init_63 : decode cX2_init 63 = .ok (.getfield 36, 3) := by decide +kernel
theorem dX2_init_66 : decode cX2_init 66 = .ok (.arraylength, 1) := by decide +kernel
theorem dX2_init_67 : decode cX2_init 67 = .ok (.irem, 1) := by decide +kernel
theorem dX2_init_68 : decode cX2_init 68 = .ok (.istore_n 3, 1) := by decide +kernel
theorem dX2_init_69 : decode cX2_init 69 = .ok (.aload_n 0, 1) := by decide +kernel
theorem dX2_init_70 : decode cX2_init 70 = .ok (.getfield 9, 3) := by decide +kernel
theorem dX2_init_73 : decode cX2_init 73 = .ok (.iload_n 2, 1) := by decide +kernel
theorem dX2_init_74 : decode cX2_init 74 = .ok (.iload_n 3, 1) := by decide +kernel
theorem dX2_init_75 : decode cX2_init 75 = .ok (.iastore, 1) := by decide +kernel
theorem dX2_init_76 : decode cX2_init 76 = .ok (.aload_n 1, 1) := by decide +kernel
theorem dX2_init_77 : decode cX2_init 77 = .ok (.getfield 36, 3) := by decide +kernel
theorem dX2_init_80 : decode cX2_init 80 = .ok (.iload_n 3, 1) := by decide +kernel
theorem dX2_init_81 : decode cX2_init 81 = .ok (.aaload, 1) := by decide +kernel
theorem dX2_init_82 : decode cX2_init 82 = .ok (.dup, 1) := by decide +kernel
theorem dX2_init_83 : decode cX2_init 83 = .ok (.getfield 42, 3) := by decide +kernel
theorem dX2_init_86 : decode cX2_init 86 = .ok (.iconst 1, 1) := by decide +kernel
theorem dX2_init_87 : decode cX2_init 87 = .ok (.iload_n 2, 1) := by decide +kernel
theorem dX2_init_88 : decode cX2_init 88 = .ok (.ishl, 1) := by decide +kernel
theorem dX2_init_89 : decode cX2_init 89 = .ok (.ior, 1) := by decide +kernel
theorem dX2_init_90 : decode cX2_init 90 = .ok (.putfield 42, 3) := by decide +kernel
theorem dX2_init_93 : decode cX2_init 93 = .ok (.iinc 2 1, 3) := by decide +kernel
theorem dX2_init_96 : decode cX2_init 96 = .ok (.goto (-44), 3) := by decide +kernel
theorem dX2_init_99 : decode cX2_init 99 = .ok (.return_, 1) := by decide +kernel
theorem dX2_tabletsOf_0 : decode cX2_tabletsOf 0 = .ok (.iconst 0, 1) := by decide +kernel
theorem dX2_tabletsOf_1 : decode cX2_tabletsOf 1 = .ok (.istore_n 2, 1) := by decide +kernel
theorem dX2_tabletsOf_2 : decode cX2_tabletsOf 2 = .ok (.iconst 0, 1) := by decide +kernel
theorem dX2_tabletsOf_3 : decode cX2_tabletsOf 3 = .ok (.istore_n 3, 1) := by decide +kernel
theorem dX2_tabletsOf_4 : decode cX2_tabletsOf 4 = .ok (.iload_n 3, 1) := by decide +kernel
theorem dX2_tabletsOf_5 : decode cX2_tabletsOf 5 = .ok (.aload_n 0, 1) := by decide +kernel
theorem dX2_tabletsOf_6 : decode cX2_tabletsOf 6 = .ok (.getfield 9, 3) := by decide +kernel
theorem dX2_tabletsOf_9 : decode cX2_tabletsOf 9 = .ok (.arraylength, 1) := by decide +kernel
theorem dX2_tabletsOf_10 : decode cX2_tabletsOf 10 = .ok (.if_icmp .ge 22, 3) := by decide +kernel
theorem dX2_tabletsOf_13 : decode cX2_tabletsOf 13 = .ok (.aload_n 0, 1) := by decide +kernel
theorem dX2_tabletsOf_14 : decode cX2_tabletsOf 14 = .ok (.getfield 9, 3) := by decide +kernel
theorem dX2_tabletsOf_17 : decode cX2_tabletsOf 17 = .ok (.iload_n 3, 1) := by decide +kernel
theorem dX2_tabletsOf_18 : decode cX2_tabletsOf 18 = .ok (.iaload, 1) := by decide +kernel
theorem dX2_tabletsOf_19 : decode cX2_tabletsOf 19 = .ok (.iload_n 1, 1) := by decide +kernel
theorem dX2_tabletsOf_20 : decode cX2_tabletsOf 20 = .ok (.if_icmp .ne 6, 3) := by decide +kernel
theorem dX2_tabletsOf_23 : decode cX2_tabletsOf 23 = .ok (.iinc 2 1, 3) := by decide +kernel
theorem dX2_tabletsOf_26 : decode cX2_tabletsOf 26 = .ok (.iinc 3 1, 3) := by decide +kernel
theorem dX2_tabletsOf_29 : decode cX2_tabletsOf 29 = .ok (.goto (-25), 3) := by decide +kernel
theorem dX2_tabletsOf_32 : decode cX2_tabletsOf 32 = .ok (.iload_n 2, 1) := by decide +kernel
theorem dX2_tabletsOf_33 : decode cX2_tabletsOf 33 = .ok (.ireturn, 1) := by decide +kernel
theorem dX2_bringDown_0 : decode cX2_bringDown 0 = .ok (.aload_n 1, 1) := by decide +kernel
theorem dX2_bringDown_1 : decode cX2_bringDown 1 = .ok (.getfield 48, 3) := by decide +kernel
theorem dX2_bringDown_4 : decode cX2_bringDown 4 = .ok (.ifCond .ne 27, 3) := by decide +kernel
theorem dX2_bringDown_7 : decode cX2_bringDown 7 = .ok (.aload_n 0, 1) := by decide +kernel
theorem dX2_bringDown_8 : decode cX2_bringDown 8 = .ok (.aload_n 1, 1) := by decide +kernel
theorem dX2_bringDown_9 : decode cX2_bringDown 9 = .ok (.getfield 52, 3) := by decide +kernel
theorem dX2_bringDown_12 : decode cX2_bringDown 12 = .ok (.invokevirtual 55, 3) := by decide +kernel
theorem dX2_bringDown_15 : decode cX2_bringDown 15 = .ok (.ifCond .le 16, 3) := by decide +kernel
theorem dX2_bringDown_18 : decode cX2_bringDown 18 = .ok (.aload_n 1, 1) := by decide +kernel
theorem dX2_bringDown_19 : decode cX2_bringDown 19 = .ok (.iconst 1, 1) := by decide +kernel
theorem dX2_bringDown_20 : decode cX2_bringDown 20 = .ok (.putfield 48, 3) := by decide +kernel
theorem dX2_bringDown_23 : decode cX2_bringDown 23 = .ok (.aload_n 1, 1) := by decide +kernel
theorem dX2_bringDown_24 : decode cX2_bringDown 24 = .ok (.aload_n 1, 1) := by decide +kernel
theorem dX2_bringDown_25 : decode cX2_bringDown 25 = .ok (.getfield 59, 3) := by decide +kernel
theorem dX2_bringDown_28 : decode cX2_bringDown 28 = .ok (.putfield 63, 3) := by decide +kernel
theorem dX2_bringDown_31 : decode cX2_bringDown 31 = .ok (.aload_n 1, 1) := by decide +kernel
theorem dX2_bringDown_32 : decode cX2_bringDown 32 = .ok (.invokevirtual 66, 3) := by decide +kernel
theorem dX2_bringDown_35 : decode cX2_bringDown 35 = .ok (.aload_n 0, 1) := by decide +kernel
theorem dX2_bringDown_36 : decode cX2_bringDown 36 = .ok (.getfield 32, 3) := by decide +kernel
theorem dX2_bringDown_39 : decode cX2_bringDown 39 = .ok (.aload_n 1, 1) := by decide +kernel
theorem dX2_bringDown_40 : decode cX2_bringDown 40 = .ok (.iconst 2, 1) := by decide +kernel
theorem dX2_bringDown_41 : decode cX2_bringDown 41 = .ok (.invokevirtual 69, 3) := by decide +kernel
theorem dX2_bringDown_44 : decode cX2_bringDown 44 = .ok (.return_, 1) := by decide +kernel
theorem dX2_forget_0 : decode cX2_forget 0 = .ok (.aload_n 1, 1) := by decide +kernel
theorem dX2_forget_1 : decode cX2_forget 1 = .ok (.invokevirtual 66, 3) := by decide +kernel
theorem dX2_forget_4 : decode cX2_forget 4 = .ok (.aload_n 0, 1) := by decide +kernel
theorem dX2_forget_5 : decode cX2_forget 5 = .ok (.dup, 1) := by decide +kernel
theorem dX2_forget_6 : decode cX2_forget 6 = .ok (.getfield 73, 3) := by decide +kernel
theorem dX2_forget_9 : decode cX2_forget 9 = .ok (.iconst 1, 1) := by decide +kernel
theorem dX2_forget_10 : decode cX2_forget 10 = .ok (.iadd, 1) := by decide +kernel
theorem dX2_forget_11 : decode cX2_forget 11 = .ok (.putfield 73, 3) := by decide +kernel
theorem dX2_forget_14 : decode cX2_forget 14 = .ok (.return_, 1) := by decide +kernel
theorem dX2_copiesAt_0 : decode cX2_copiesAt 0 = .ok (.iconst 0, 1) := by decide +kernel
theorem dX2_copiesAt_1 : decode cX2_copiesAt 1 = .ok (.istore_n 2, 1) := by decide +kernel
theorem dX2_copiesAt_2 : decode cX2_copiesAt 2 = .ok (.iconst 0, 1) := by decide +kernel
theorem dX2_copiesAt_3 : decode cX2_copiesAt 3 = .ok (.istore_n 3, 1) := by decide +kernel
theorem dX2_copiesAt_4 : decode cX2_copiesAt 4 = .ok (.iload_n 3, 1) := by decide +kernel
theorem dX2_copiesAt_5 : decode cX2_copiesAt 5 = .ok (.aload_n 0, 1) := by decide +kernel
theorem dX2_copiesAt_6 : decode cX2_copiesAt 6 = .ok (.getfield 32, 3) := by decide +kernel
theorem dX2_copiesAt_9 : decode cX2_copiesAt 9 = .ok (.getfield 36, 3) := by decide +kernel
theorem dX2_copiesAt_12 : decode cX2_copiesAt 12 = .ok (.arraylength, 1) := by decide +kernel
theorem dX2_copiesAt_13 : decode cX2_copiesAt 13 = .ok (.if_icmp .ge 56, 3) := by decide +kernel
theorem dX2_copiesAt_16 : decode cX2_copiesAt 16 = .ok (.aload_n 0, 1) := by decide +kernel
theorem dX2_copiesAt_17 : decode cX2_copiesAt 17 = .ok (.getfield 32, 3) := by decide +kernel
theorem dX2_copiesAt_20 : decode cX2_copiesAt 20 = .ok (.getfield 36, 3) := by decide +kernel
theorem dX2_copiesAt_23 : decode cX2_copiesAt 23 = .ok (.iload_n 3, 1) := by decide +kernel
theorem dX2_copiesAt_24 : decode cX2_copiesAt 24 = .ok (.aaload, 1) := by decide +kernel
theorem dX2_copiesAt_25 : decode cX2_copiesAt 25 = .ok (.astore 4, 2) := by decide +kernel
theorem dX2_copiesAt_27 : decode cX2_copiesAt 27 = .ok (.iload_n 2, 1) := by decide +kernel
theorem dX2_copiesAt_28 : decode cX2_copiesAt 28 = .ok (.aload 4, 2) := by decide +kernel
theorem dX2_copiesAt_30 : decode cX2_copiesAt 30 = .ok (.getfield 59, 3) := by decide +kernel
theorem dX2_copiesAt_33 : decode cX2_copiesAt 33 = .ok (.iload_n 1, 1) := by decide +kernel
theorem dX2_copiesAt_34 : decode cX2_copiesAt 34 = .ok (.invokevirtual 76, 3) := by decide +kernel
theorem dX2_copiesAt_37 : decode cX2_copiesAt 37 = .ok (.iadd, 1) := by decide +kernel
theorem dX2_copiesAt_38 : decode cX2_copiesAt 38 = .ok (.istore_n 2, 1) := by decide +kernel
theorem dX2_copiesAt_39 : decode cX2_copiesAt 39 = .ok (.iload_n 2, 1) := by decide +kernel
theorem dX2_copiesAt_40 : decode cX2_copiesAt 40 = .ok (.aload 4, 2) := by decide +kernel
theorem dX2_copiesAt_42 : decode cX2_copiesAt 42 = .ok (.getfield 63, 3) := by decide +kernel
theorem dX2_copiesAt_45 : decode cX2_copiesAt 45 = .ok (.ifnonnull 7, 3) := by decide +kernel
theorem dX2_copiesAt_48 : decode cX2_copiesAt 48 = .ok (.iconst 0, 1) := by decide +kernel
theorem dX2_copiesAt_49 : decode cX2_copiesAt 49 = .ok (.goto 12, 3) := by decide +kernel
theorem dX2_copiesAt_52 : decode cX2_copiesAt 52 = .ok (.aload 4, 2) := by decide +kernel
theorem dX2_copiesAt_54 : decode cX2_copiesAt 54 = .ok (.getfield 63, 3) := by decide +kernel
theorem dX2_copiesAt_57 : decode cX2_copiesAt 57 = .ok (.iload_n 1, 1) := by decide +kernel
theorem dX2_copiesAt_58 : decode cX2_copiesAt 58 = .ok (.invokevirtual 76, 3) := by decide +kernel
theorem dX2_copiesAt_61 : decode cX2_copiesAt 61 = .ok (.iadd, 1) := by decide +kernel
theorem dX2_copiesAt_62 : decode cX2_copiesAt 62 = .ok (.istore_n 2, 1) := by decide +kernel
theorem dX2_copiesAt_63 : decode cX2_copiesAt 63 = .ok (.iinc 3 1, 3) := by decide +kernel
theorem dX2_copiesAt_66 : decode cX2_copiesAt 66 = .ok (.goto (-62), 3) := by decide +kernel
theorem dX2_copiesAt_69 : decode cX2_copiesAt 69 = .ok (.iconst 0, 1) := by decide +kernel
theorem dX2_copiesAt_70 : decode cX2_copiesAt 70 = .ok (.istore_n 3, 1) := by decide +kernel
theorem dX2_copiesAt_71 : decode cX2_copiesAt 71 = .ok (.iload_n 3, 1) := by decide +kernel
theorem dX2_copiesAt_72 : decode cX2_copiesAt 72 = .ok (.aload_n 0, 1) := by decide +kernel
theorem dX2_copiesAt_73 : decode cX2_copiesAt 73 = .ok (.getfield 18, 3) := by decide +kernel
theorem dX2_copiesAt_76 : decode cX2_copiesAt 76 = .ok (.invokevirtual 81, 3) := by decide +kernel
theorem dX2_copiesAt_79 : decode cX2_copiesAt 79 = .ok (.if_icmp .ge 27, 3) := by decide +kernel
theorem dX2_copiesAt_82 : decode cX2_copiesAt 82 = .ok (.iload_n 2, 1) := by decide +kernel
theorem dX2_copiesAt_83 : decode cX2_copiesAt 83 = .ok (.aload_n 0, 1) := by decide +kernel
theorem dX2_copiesAt_84 : decode cX2_copiesAt 84 = .ok (.getfield 18, 3) := by decide +kernel
theorem dX2_copiesAt_87 : decode cX2_copiesAt 87 = .ok (.iload_n 3, 1) := by decide +kernel
theorem dX2_copiesAt_88 : decode cX2_copiesAt 88 = .ok (.invokevirtual 85, 3) := by decide +kernel
theorem dX2_copiesAt_91 : decode cX2_copiesAt 91 = .ok (.checkcast 77, 3) := by decide +kernel
theorem dX2_copiesAt_94 : decode cX2_copiesAt 94 = .ok (.iload_n 1, 1) := by decide +kernel
theorem dX2_copiesAt_95 : decode cX2_copiesAt 95 = .ok (.invokevirtual 76, 3) := by decide +kernel
theorem dX2_copiesAt_98 : decode cX2_copiesAt 98 = .ok (.iadd, 1) := by decide +kernel
theorem dX2_copiesAt_99 : decode cX2_copiesAt 99 = .ok (.istore_n 2, 1) := by decide +kernel
theorem dX2_copiesAt_100 : decode cX2_copiesAt 100 = .ok (.iinc 3 1, 3) := by decide +kernel
theorem dX2_copiesAt_103 : decode cX2_copiesAt 103 = .ok (.goto (-32), 3) := by decide +kernel
theorem dX2_copiesAt_106 : decode cX2_copiesAt 106 = .ok (.iload_n 2, 1) := by decide +kernel
theorem dX2_copiesAt_107 : decode cX2_copiesAt 107 = .ok (.ireturn, 1) := by decide +kernel
theorem dX2_tendServers_0 : decode cX2_tendServers 0 = .ok (.iconst 0, 1) := by decide +kernel
theorem dX2_tendServers_1 : decode cX2_tendServers 1 = .ok (.istore_n 1, 1) := by decide +kernel
theorem dX2_tendServers_2 : decode cX2_tendServers 2 = .ok (.iload_n 1, 1) := by decide +kernel
theorem dX2_tendServers_3 : decode cX2_tendServers 3 = .ok (.aload_n 0, 1) := by decide +kernel
theorem dX2_tendServers_4 : decode cX2_tendServers 4 = .ok (.getfield 32, 3) := by decide +kernel
theorem dX2_tendServers_7 : decode cX2_tendServers 7 = .ok (.getfield 36, 3) := by decide +kernel
theorem dX2_tendServers_10 : decode cX2_tendServers 10 = .ok (.arraylength, 1) := by decide +kernel
theorem dX2_tendServers_11 : decode cX2_tendServers 11 = .ok (.if_icmp .ge 87, 3) := by decide +kernel
theorem dX2_tendServers_14 : decode cX2_tendServers 14 = .ok (.aload_n 0, 1) := by decide +kernel
theorem dX2_tendServers_15 : decode cX2_tendServers 15 = .ok (.getfield 32, 3) := by decide +kernel
theorem dX2_tendServers_18 : decode cX2_tendServers 18 = .ok (.getfield 36, 3) := by decide +kernel
theorem dX2_tendServers_21 : decode cX2_tendServers 21 = .ok (.iload_n 1, 1) := by decide +kernel
theorem dX2_tendServers_22 : decode cX2_tendServers 22 = .ok (.aaload, 1) := by decide +kernel
theorem dX2_tendServers_23 : decode cX2_tendServers 23 = .ok (.astore_n 2, 1) := by decide +kernel
theorem dX2_tendServers_24 : decode cX2_tendServers 24 = .ok (.aload_n 2, 1) := by decide +kernel
theorem dX2_tendServers_25 : decode cX2_tendServers 25 = .ok (.getfield 89, 3) := by decide +kernel
theorem dX2_tendServers_28 : decode cX2_tendServers 28 = .ok (.ifCond .ne 18, 3) := by decide +kernel
theorem dX2_tendServers_31 : decode cX2_tendServers 31 = .ok (.aload_n 2, 1) := by decide +kernel
theorem dX2_tendServers_32 : decode cX2_tendServers 32 = .ok (.getfield 92, 3) := by decide +kernel
theorem dX2_tendServers_35 : decode cX2_tendServers 35 = .ok (.ifCond .eq 11, 3) := by decide +kernel
theorem dX2_tendServers_38 : decode cX2_tendServers 38 = .ok (.aload_n 0, 1) := by decide +kernel
theorem dX2_tendServers_39 : decode cX2_tendServers 39 = .ok (.aload_n 2, 1) := by decide +kernel
theorem dX2_tendServers_40 : decode cX2_tendServers 40 = .ok (.invokevirtual 95, 3) := by decide +kernel
theorem dX2_tendServers_43 : decode cX2_tendServers 43 = .ok (.goto 49, 3) := by decide +kernel
theorem dX2_tendServers_46 : decode cX2_tendServers 46 = .ok (.aload_n 2, 1) := by decide +kernel
theorem dX2_tendServers_47 : decode cX2_tendServers 47 = .ok (.getfield 89, 3) := by decide +kernel
theorem dX2_tendServers_50 : decode cX2_tendServers 50 = .ok (.ifCond .ne 42, 3) := by decide +kernel
theorem dX2_tendServers_53 : decode cX2_tendServers 53 = .ok (.aload_n 2, 1) := by decide +kernel
theorem dX2_tendServers_54 : decode cX2_tendServers 54 = .ok (.getfield 59, 3) := by decide +kernel
theorem dX2_tendServers_57 : decode cX2_tendServers 57 = .ok (.astore_n 3, 1) := by decide +kernel
theorem dX2_tendServers_58 : decode cX2_tendServers 58 = .ok (.aload_n 3, 1) := by decide +kernel
theorem dX2_tendServers_59 : decode cX2_tendServers 59 = .ok (.getfield 99, 3) := by decide +kernel
theorem dX2_tendServers_62 : decode cX2_tendServers 62 = .ok (.ifnull 22, 3) := by decide +kernel
theorem dX2_tendServers_65 : decode cX2_tendServers 65 = .ok (.aload_n 0, 1) := by decide +kernel
theorem dX2_tendServers_66 : decode cX2_tendServers 66 = .ok (.getfield 32, 3) := by decide +kernel
theorem dX2_tendServers_69 : decode cX2_tendServers 69 = .ok (.aload_n 3, 1) := by decide +kernel
theorem dX2_tendServers_70 : decode cX2_tendServers 70 = .ok (.getfield 99, 3) := by decide +kernel
theorem dX2_tendServers_73 : decode cX2_tendServers 73 = .ok (.invokevirtual 103, 3) := by decide +kernel
theorem dX2_tendServers_76 : decode cX2_tendServers 76 = .ok (.ifCond .ne 8, 3) := by decide +kernel
theorem dX2_tendServers_79 : decode cX2_tendServers 79 = .ok (.aload_n 3, 1) := by decide +kernel
theorem dX2_tendServers_80 : decode cX2_tendServers 80 = .ok (.aconst_null, 1) := by decide +kernel
theorem dX2_tendServers_81 : decode cX2_tendServers 81 = .ok (.putfield 99, 3) := by decide +kernel
theorem dX2_tendServers_84 : decode cX2_tendServers 84 = .ok (.aload_n 0, 1) := by decide +kernel
theorem dX2_tendServers_85 : decode cX2_tendServers 85 = .ok (.getfield 32, 3) := by decide +kernel
theorem dX2_tendServers_88 : decode cX2_tendServers 88 = .ok (.aload_n 2, 1) := by decide +kernel
theorem dX2_tendServers_89 : decode cX2_tendServers 89 = .ok (.invokevirtual 107, 3) := by decide +kernel
theorem dX2_tendServers_92 : decode cX2_tendServers 92 = .ok (.iinc 1 1, 3) := by decide +kernel
theorem dX2_tendServers_95 : decode cX2_tendServers 95 = .ok (.goto (-93), 3) := by decide +kernel
theorem dX2_tendServers_98 : decode cX2_tendServers 98 = .ok (.return_, 1) := by decide +kernel
theorem dX2_lookForDead_0 : decode cX2_lookForDead 0 = .ok (.iconst 0, 1) := by decide +kernel
theorem dX2_lookForDead_1 : decode cX2_lookForDead 1 = .ok (.istore_n 1, 1) := by decide +kernel
theorem dX2_lookForDead_2 : decode cX2_lookForDead 2 = .ok (.iload_n 1, 1) := by decide +kernel
theorem dX2_lookForDead_3 : decode cX2_lookForDead 3 = .ok (.aload_n 0, 1) := by decide +kernel
theorem dX2_lookForDead_4 : decode cX2_lookForDead 4 = .ok (.getfield 32, 3) := by decide +kernel
theorem dX2_lookForDead_7 : decode cX2_lookForDead 7 = .ok (.getfield 36, 3) := by decide +kernel
theorem dX2_lookForDead_10 : decode cX2_lookForDead 10 = .ok (.arraylength, 1) := by decide +kernel
theorem dX2_lookForDead_11 : decode cX2_lookForDead 11 = .ok (.if_icmp .ge 97, 3) := by decide +kernel
theorem dX2_lookForDead_14 : decode cX2_lookForDead 14 = .ok (.aload_n 0, 1) := by decide +kernel
theorem dX2_lookForDead_15 : decode cX2_lookForDead 15 = .ok (.getfield 32, 3) := by decide +kernel
theorem dX2_lookForDead_18 : decode cX2_lookForDead 18 = .ok (.getfield 36, 3) := by decide +kernel
theorem dX2_lookForDead_21 : decode cX2_lookForDead 21 = .ok (.iload_n 1, 1) := by decide +kernel
theorem dX2_lookForDead_22 : decode cX2_lookForDead 22 = .ok (.aaload, 1) := by decide +kernel
theorem dX2_lookForDead_23 : decode cX2_lookForDead 23 = .ok (.astore_n 2, 1) := by decide +kernel
theorem dX2_lookForDead_24 : decode cX2_lookForDead 24 = .ok (.aload_n 2, 1) := by decide +kernel
theorem dX2_lookForDead_25 : decode cX2_lookForDead 25 = .ok (.aload_n 2, 1) := by decide +kernel
theorem dX2_lookForDead_26 : decode cX2_lookForDead 26 = .ok (.getfield 89, 3) := by decide +kernel
theorem dX2_lookForDead_29 : decode cX2_lookForDead 29 = .ok (.ifCond .ne 7, 3) := by decide +kernel
theorem dX2_lookForDead_32 : decode cX2_lookForDead 32 = .ok (.iconst 0, 1) := by decide +kernel
theorem dX2_lookForDead_33 : decode cX2_lookForDead 33 = .ok (.goto 9, 3) := by decide +kernel
theorem dX2_lookForDead_36 : decode cX2_lookForDead 36 = .ok (.aload_n 2, 1) := by decide +kernel
theorem dX2_lookForDead_37 : decode cX2_lookForDead 37 = .ok (.getfield 110, 3) := by decide +kernel
theorem dX2_lookForDead_40 : decode cX2_lookForDead 40 = .ok (.iconst 1, 1) := by decide +kernel
theorem dX2_lookForDead_41 : decode cX2_lookForDead 41 = .ok (.iadd, 1) := by decide +kernel
theorem dX2_lookForDead_42 : decode cX2_lookForDead 42 = .ok (.putfield 110, 3) := by decide +kernel
theorem dX2_lookForDead_45 : decode cX2_lookForDead 45 = .ok (.aload_n 2, 1) := by decide +kernel
theorem dX2_lookForDead_46 : decode cX2_lookForDead 46 = .ok (.getfield 110, 3) := by decide +kernel
theorem dX2_lookForDead_49 : decode cX2_lookForDead 49 = .ok (.iconst 3, 1) := by decide +kernel
theorem dX2_lookForDead_50 : decode cX2_lookForDead 50 = .ok (.if_icmp .ge 17, 3) := by decide +kernel
theorem dX2_lookForDead_53 : decode cX2_lookForDead 53 = .ok (.aload_n 2, 1) := by decide +kernel
theorem dX2_lookForDead_54 : decode cX2_lookForDead 54 = .ok (.getfield 89, 3) := by decide +kernel
theorem dX2_lookForDead_57 : decode cX2_lookForDead 57 = .ok (.ifCond .ne 14, 3) := by decide +kernel
theorem dX2_lookForDead_60 : decode cX2_lookForDead 60 = .ok (.aload_n 2, 1) := by decide +kernel
theorem dX2_lookForDead_61 : decode cX2_lookForDead 61 = .ok (.getfield 48, 3) := by decide +kernel
theorem dX2_lookForDead_64 : decode cX2_lookForDead 64 = .ok (.ifCond .eq 7, 3) := by decide +kernel
theorem dX2_lookForDead_67 : decode cX2_lookForDead 67 = .ok (.iconst 1, 1) := by decide +kernel
theorem dX2_lookForDead_68 : decode cX2_lookForDead 68 = .ok (.goto 4, 3) := by decide +kernel
theorem dX2_lookForDead_71 : decode cX2_lookForDead 71 = .ok (.iconst 0, 1) := by decide +kernel
theorem dX2_lookForDead_72 : decode cX2_lookForDead 72 = .ok (.istore_n 3, 1) := by decide +kernel
theorem dX2_lookForDead_73 : decode cX2_lookForDead 73 = .ok (.iload_n 3, 1) := by decide +kernel
theorem dX2_lookForDead_74 : decode cX2_lookForDead 74 = .ok (.ifCond .eq 28, 3) := by decide +kernel
theorem dX2_lookForDead_77 : decode cX2_lookForDead 77 = .ok (.aload_n 0, 1) := by decide +kernel
theorem dX2_lookForDead_78 : decode cX2_lookForDead 78 = .ok (.getfield 18, 3) := by decide +kernel
theorem dX2_lookForDead_81 : decode cX2_lookForDead 81 = .ok (.invokevirtual 81, 3) := by decide +kernel
theorem dX2_lookForDead_84 : decode cX2_lookForDead 84 = .ok (.bipush 16, 2) := by decide +kernel
theorem dX2_lookForDead_86 : decode cX2_lookForDead 86 = .ok (.if_icmp .ge 16, 3) := by decide +kernel
theorem dX2_lookForDead_89 : decode cX2_lookForDead 89 = .ok (.aload_n 0, 1) := by decide +kernel
theorem dX2_lookForDead_90 : decode cX2_lookForDead 90 = .ok (.iload_n 1, 1) := by decide +kernel
theorem dX2_lookForDead_91 : decode cX2_lookForDead 91 = .ok (.invokevirtual 55, 3) := by decide +kernel
theorem dX2_lookForDead_94 : decode cX2_lookForDead 94 = .ok (.ifCond .le 8, 3) := by decide +kernel
theorem dX2_lookForDead_97 : decode cX2_lookForDead 97 = .ok (.aload_n 0, 1) := by decide +kernel
theorem dX2_lookForDead_98 : decode cX2_lookForDead 98 = .ok (.aload_n 2, 1) := by decide +kernel
theorem dX2_lookForDead_99 : decode cX2_lookForDead 99 = .ok (.invokevirtual 113, 3) := by decide +kernel
theorem dX2_lookForDead_102 : decode cX2_lookForDead 102 = .ok (.iinc 1 1, 3) := by decide +kernel
theorem dX2_lookForDead_105 : decode cX2_lookForDead 105 = .ok (.goto (-103), 3) := by decide +kernel
theorem dX2_lookForDead_108 : decode cX2_lookForDead 108 = .ok (.return_, 1) := by decide +kernel
theorem dX2_declareDead_0 : decode cX2_declareDead 0 = .ok (.aload_n 1, 1) := by decide +kernel
theorem dX2_declareDead_1 : decode cX2_declareDead 1 = .ok (.getfield 59, 3) := by decide +kernel
theorem dX2_declareDead_4 : decode cX2_declareDead 4 = .ok (.astore_n 2, 1) := by decide +kernel
theorem dX2_declareDead_5 : decode cX2_declareDead 5 = .ok (.aload_n 1, 1) := by decide +kernel
theorem dX2_declareDead_6 : decode cX2_declareDead 6 = .ok (.getfield 48, 3) := by decide +kernel
theorem dX2_declareDead_9 : decode cX2_declareDead 9 = .ok (.ifCond .eq 28, 3) := by decide +kernel
theorem dX2_declareDead_12 : decode cX2_declareDead 12 = .ok (.aload_n 1, 1) := by decide +kernel
theorem dX2_declareDead_13 : decode cX2_declareDead 13 = .ok (.getfield 63, 3) := by decide +kernel
theorem dX2_declareDead_16 : decode cX2_declareDead 16 = .ok (.ifnull 21, 3) := by decide +kernel
theorem dX2_declareDead_19 : decode cX2_declareDead 19 = .ok (.aload_n 1, 1) := by decide +kernel
theorem dX2_declareDead_20 : decode cX2_declareDead 20 = .ok (.getfield 63, 3) := by decide +kernel
theorem dX2_declareDead_23 : decode cX2_declareDead 23 = .ok (.astore_n 2, 1) := by decide +kernel
theorem dX2_declareDead_24 : decode cX2_declareDead 24 = .ok (.aload_n 1, 1) := by decide +kernel
theorem dX2_declareDead_25 : decode cX2_declareDead 25 = .ok (.aconst_null, 1) := by decide +kernel
theorem dX2_declareDead_26 : decode cX2_declareDead 26 = .ok (.putfield 63, 3) := by decide +kernel
theorem dX2_declareDead_29 : decode cX2_declareDead 29 = .ok (.aload_n 1, 1) := by decide +kernel
theorem dX2_declareDead_30 : decode cX2_declareDead 30 = .ok (.iconst 0, 1) := by decide +kernel
theorem dX2_declareDead_31 : decode cX2_declareDead 31 = .ok (.putfield 48, 3) := by decide +kernel
theorem dX2_declareDead_34 : decode cX2_declareDead 34 = .ok (.goto 19, 3) := by decide +kernel
theorem dX2_declareDead_37 : decode cX2_declareDead 37 = .ok (.aload_n 1, 1) := by decide +kernel
theorem dX2_declareDead_38 : decode cX2_declareDead 38 = .ok (.iconst 1, 1) := by decide +kernel
theorem dX2_declareDead_39 : decode cX2_declareDead 39 = .ok (.putfield 92, 3) := by decide +kernel
theorem dX2_declareDead_42 : decode cX2_declareDead 42 = .ok (.aload_n 1, 1) := by decide +kernel
theorem dX2_declareDead_43 : decode cX2_declareDead 43 = .ok (.new 77, 3) := by decide +kernel
theorem dX2_declareDead_46 : decode cX2_declareDead 46 = .ok (.dup, 1) := by decide +kernel
theorem dX2_declareDead_47 : decode cX2_declareDead 47 = .ok (.invokespecial 116, 3) := by decide +kernel
theorem dX2_declareDead_50 : decode cX2_declareDead 50 = .ok (.putfield 59, 3) := by decide +kernel
theorem dX2_declareDead_53 : decode cX2_declareDead 53 = .ok (.iconst 0, 1) := by decide +kernel
theorem dX2_declareDead_54 : decode cX2_declareDead 54 = .ok (.istore_n 3, 1) := by decide +kernel
theorem dX2_declareDead_55 : decode cX2_declareDead 55 = .ok (.iload_n 3, 1) := by decide +kernel
theorem dX2_declareDead_56 : decode cX2_declareDead 56 = .ok (.aload_n 0, 1) := by decide +kernel
theorem dX2_declareDead_57 : decode cX2_declareDead 57 = .ok (.getfield 9, 3) := by decide +kernel
theorem dX2_declareDead_60 : decode cX2_declareDead 60 = .ok (.arraylength, 1) := by decide +kernel
theorem dX2_declareDead_61 : decode cX2_declareDead 61 = .ok (.if_icmp .ge 41, 3) := by decide +kernel
theorem dX2_declareDead_64 : decode cX2_declareDead 64 = .ok (.aload_n 0, 1) := by decide +kernel
theorem dX2_declareDead_65 : decode cX2_declareDead 65 = .ok (.getfield 9, 3) := by decide +kernel
theorem dX2_declareDead_68 : decode cX2_declareDead 68 = .ok (.iload_n 3, 1) := by decide +kernel
theorem dX2_declareDead_69 : decode cX2_declareDead 69 = .ok (.iaload, 1) := by decide +kernel
theorem dX2_declareDead_70 : decode cX2_declareDead 70 = .ok (.aload_n 1, 1) := by decide +kernel
theorem dX2_declareDead_71 : decode cX2_declareDead 71 = .ok (.getfield 52, 3) := by decide +kernel
theorem dX2_declareDead_74 : decode cX2_declareDead 74 = .ok (.if_icmp .ne 22, 3) := by decide +kernel
theorem dX2_declareDead_77 : decode cX2_declareDead 77 = .ok (.aload_n 0, 1) := by decide +kernel
theorem dX2_declareDead_78 : decode cX2_declareDead 78 = .ok (.getfield 9, 3) := by decide +kernel
theorem dX2_declareDead_81 : decode cX2_declareDead 81 = .ok (.iload_n 3, 1) := by decide +kernel
theorem dX2_declareDead_82 : decode cX2_declareDead 82 = .ok (.iconst (-1), 1) := by decide +kernel
theorem dX2_declareDead_83 : decode cX2_declareDead 83 = .ok (.iastore, 1) := by decide +kernel
theorem dX2_declareDead_84 : decode cX2_declareDead 84 = .ok (.aload_n 2, 1) := by decide +kernel
theorem dX2_declareDead_85 : decode cX2_declareDead 85 = .ok (.dup, 1) := by decide +kernel
theorem dX2_declareDead_86 : decode cX2_declareDead 86 = .ok (.getfield 117, 3) := by decide +kernel
theorem dX2_declareDead_89 : decode cX2_declareDead 89 = .ok (.iconst 1, 1) := by decide +kernel
theorem dX2_declareDead_90 : decode cX2_declareDead 90 = .ok (.iload_n 3, 1) := by decide +kernel
theorem dX2_declareDead_91 : decode cX2_declareDead 91 = .ok (.ishl, 1) := by decide +kernel
theorem dX2_declareDead_92 : decode cX2_declareDead 92 = .ok (.ior, 1) := by decide +kernel
theorem dX2_declareDead_93 : decode cX2_declareDead 93 = .ok (.putfield 117, 3) := by decide +kernel
theorem dX2_declareDead_96 : decode cX2_declareDead 96 = .ok (.iinc 3 1, 3) := by decide +kernel
theorem dX2_declareDead_99 : decode cX2_declareDead 99 = .ok (.goto (-44), 3) := by decide +kernel
theorem dX2_declareDead_102 : decode cX2_declareDead 102 = .ok (.aload_n 0, 1) := by decide +kernel
theorem dX2_declareDead_103 : decode cX2_declareDead 103 = .ok (.getfield 18, 3) := by decide +kernel
theorem dX2_declareDead_106 : decode cX2_declareDead 106 = .ok (.aload_n 2, 1) := by decide +kernel
theorem dX2_declareDead_107 : decode cX2_declareDead 107 = .ok (.invokevirtual 118, 3) := by decide +kernel
theorem dX2_declareDead_110 : decode cX2_declareDead 110 = .ok (.pop, 1) := by decide +kernel
theorem dX2_declareDead_111 : decode cX2_declareDead 111 = .ok (.aload_n 0, 1) := by decide +kernel
theorem dX2_declareDead_112 : decode cX2_declareDead 112 = .ok (.dup, 1) := by decide +kernel
theorem dX2_declareDead_113 : decode cX2_declareDead 113 = .ok (.getfield 122, 3) := by decide +kernel
theorem dX2_declareDead_116 : decode cX2_declareDead 116 = .ok (.iconst 1, 1) := by decide +kernel
theorem dX2_declareDead_117 : decode cX2_declareDead 117 = .ok (.iadd, 1) := by decide +kernel
theorem dX2_declareDead_118 : decode cX2_declareDead 118 = .ok (.putfield 122, 3) := by decide +kernel
theorem dX2_declareDead_121 : decode cX2_declareDead 121 = .ok (.return_, 1) := by decide +kernel
theorem dX2_recoverDead_0 : decode cX2_recoverDead 0 = .ok (.iconst 0, 1) := by decide +kernel
theorem dX2_recoverDead_1 : decode cX2_recoverDead 1 = .ok (.istore_n 1, 1) := by decide +kernel
theorem dX2_recoverDead_2 : decode cX2_recoverDead 2 = .ok (.iconst 0, 1) := by decide +kernel
theorem dX2_recoverDead_3 : decode cX2_recoverDead 3 = .ok (.istore_n 2, 1) := by decide +kernel
theorem dX2_recoverDead_4 : decode cX2_recoverDead 4 = .ok (.aload_n 0, 1) := by decide +kernel
theorem dX2_recoverDead_5 : decode cX2_recoverDead 5 = .ok (.getfield 18, 3) := by decide +kernel
theorem dX2_recoverDead_8 : decode cX2_recoverDead 8 = .ok (.invokevirtual 81, 3) := by decide +kernel
theorem dX2_recoverDead_11 : decode cX2_recoverDead 11 = .ok (.istore_n 3, 1) := by decide +kernel
theorem dX2_recoverDead_12 : decode cX2_recoverDead 12 = .ok (.iload_n 3, 1) := by decide +kernel
theorem dX2_recoverDead_13 : decode cX2_recoverDead 13 = .ok (.ifCond .le 156, 3) := by decide +kernel
theorem dX2_recoverDead_16 : decode cX2_recoverDead 16 = .ok (.iload_n 2, 1) := by decide +kernel
theorem dX2_recoverDead_17 : decode cX2_recoverDead 17 = .ok (.aload_n 0, 1) := by decide +kernel
theorem dX2_recoverDead_18 : decode cX2_recoverDead 18 = .ok (.getfield 18, 3) := by decide +kernel
theorem dX2_recoverDead_21 : decode cX2_recoverDead 21 = .ok (.invokevirtual 81, 3) := by decide +kernel
theorem dX2_recoverDead_24 : decode cX2_recoverDead 24 = .ok (.if_icmp .ge 145, 3) := by decide +kernel
theorem dX2_recoverDead_27 : decode cX2_recoverDead 27 = .ok (.aload_n 0, 1) := by decide +kernel
theorem dX2_recoverDead_28 : decode cX2_recoverDead 28 = .ok (.getfield 18, 3) := by decide +kernel
theorem dX2_recoverDead_31 : decode cX2_recoverDead 31 = .ok (.iload_n 2, 1) := by decide +kernel
theorem dX2_recoverDead_32 : decode cX2_recoverDead 32 = .ok (.invokevirtual 85, 3) := by decide +kernel
theorem dX2_recoverDead_35 : decode cX2_recoverDead 35 = .ok (.checkcast 77, 3) := by decide +kernel
theorem dX2_recoverDead_38 : decode cX2_recoverDead 38 = .ok (.astore 4, 2) := by decide +kernel
theorem dX2_recoverDead_40 : decode cX2_recoverDead 40 = .ok (.aload_n 0, 1) := by decide +kernel
theorem dX2_recoverDead_41 : decode cX2_recoverDead 41 = .ok (.getfield 32, 3) := by decide +kernel
theorem dX2_recoverDead_44 : decode cX2_recoverDead 44 = .ok (.aload 4, 2) := by decide +kernel
theorem dX2_recoverDead_46 : decode cX2_recoverDead 46 = .ok (.invokevirtual 125, 3) := by decide +kernel
theorem dX2_recoverDead_49 : decode cX2_recoverDead 49 = .ok (.ifCond .eq 88, 3) := by decide +kernel
theorem dX2_recoverDead_52 : decode cX2_recoverDead 52 = .ok (.aload_n 0, 1) := by decide +kernel
theorem dX2_recoverDead_53 : decode cX2_recoverDead 53 = .ok (.getfield 25, 3) := by decide +kernel
theorem dX2_recoverDead_56 : decode cX2_recoverDead 56 = .ok (.aload 4, 2) := by decide +kernel
theorem dX2_recoverDead_58 : decode cX2_recoverDead 58 = .ok (.aload_n 0, 1) := by decide +kernel
theorem dX2_recoverDead_59 : decode cX2_recoverDead 59 = .ok (.getfield 32, 3) := by decide +kernel
theorem dX2_recoverDead_62 : decode cX2_recoverDead 62 = .ok (.getfield 129, 3) := by decide +kernel
theorem dX2_recoverDead_65 : decode cX2_recoverDead 65 = .ok (.invokevirtual 132, 3) := by decide +kernel
theorem dX2_recoverDead_68 : decode cX2_recoverDead 68 = .ok (.iconst 0, 1) := by decide +kernel
theorem dX2_recoverDead_69 : decode cX2_recoverDead 69 = .ok (.istore 5, 2) := by decide +kernel
theorem dX2_recoverDead_71 : decode cX2_recoverDead 71 = .ok (.iload 5, 2) := by decide +kernel
theorem dX2_recoverDead_73 : decode cX2_recoverDead 73 = .ok (.bipush 8, 2) := by decide +kernel
theorem dX2_recoverDead_75 : decode cX2_recoverDead 75 = .ok (.if_icmp .ge 62, 3) := by decide +kernel
theorem dX2_recoverDead_78 : decode cX2_recoverDead 78 = .ok (.aload 4, 2) := by decide +kernel
theorem dX2_recoverDead_80 : decode cX2_recoverDead 80 = .ok (.getfield 117, 3) := by decide +kernel
theorem dX2_recoverDead_83 : decode cX2_recoverDead 83 = .ok (.iload 5, 2) := by decide +kernel
theorem dX2_recoverDead_85 : decode cX2_recoverDead 85 = .ok (.ishr, 1) := by decide +kernel
theorem dX2_recoverDead_86 : decode cX2_recoverDead 86 = .ok (.iconst 1, 1) := by decide +kernel
theorem dX2_recoverDead_87 : decode cX2_recoverDead 87 = .ok (.iand, 1) := by decide +kernel
theorem dX2_recoverDead_88 : decode cX2_recoverDead 88 = .ok (.iconst 1, 1) := by decide +kernel
theorem dX2_recoverDead_89 : decode cX2_recoverDead 89 = .ok (.if_icmp .ne 10, 3) := by decide +kernel
theorem dX2_recoverDead_92 : decode cX2_recoverDead 92 = .ok (.aload_n 0, 1) := by decide +kernel
theorem dX2_recoverDead_93 : decode cX2_recoverDead 93 = .ok (.invokevirtual 136, 3) := by decide +kernel
theorem dX2_recoverDead_96 : decode cX2_recoverDead 96 = .ok (.goto 4, 3) := by decide +kernel
theorem dX2_recoverDead_99 : decode cX2_recoverDead 99 = .ok (.aconst_null, 1) := by decide +kernel
theorem dX2_recoverDead_100 : decode cX2_recoverDead 100 = .ok (.astore 6, 2) := by decide +kernel
theorem dX2_recoverDead_102 : decode cX2_recoverDead 102 = .ok (.aload 6, 2) := by decide +kernel
theorem dX2_recoverDead_104 : decode cX2_recoverDead 104 = .ok (.ifnull 27, 3) := by decide +kernel
theorem dX2_recoverDead_107 : decode cX2_recoverDead 107 = .ok (.aload 4, 2) := by decide +kernel
theorem dX2_recoverDead_109 : decode cX2_recoverDead 109 = .ok (.dup, 1) := by decide +kernel
theorem dX2_recoverDead_110 : decode cX2_recoverDead 110 = .ok (.getfield 117, 3) := by decide +kernel
theorem dX2_recoverDead_113 : decode cX2_recoverDead 113 = .ok (.iconst 1, 1) := by decide +kernel
theorem dX2_recoverDead_114 : decode cX2_recoverDead 114 = .ok (.iload 5, 2) := by decide +kernel
theorem dX2_recoverDead_116 : decode cX2_recoverDead 116 = .ok (.ishl, 1) := by decide +kernel
theorem dX2_recoverDead_117 : decode cX2_recoverDead 117 = .ok (.iconst (-1), 1) := by decide +kernel
theorem dX2_recoverDead_118 : decode cX2_recoverDead 118 = .ok (.ixor, 1) := by decide +kernel
theorem dX2_recoverDead_119 : decode cX2_recoverDead 119 = .ok (.iand, 1) := by decide +kernel
theorem dX2_recoverDead_120 : decode cX2_recoverDead 120 = .ok (.putfield 117, 3) := by decide +kernel
theorem dX2_recoverDead_123 : decode cX2_recoverDead 123 = .ok (.aload_n 0, 1) := by decide +kernel
theorem dX2_recoverDead_124 : decode cX2_recoverDead 124 = .ok (.aload 6, 2) := by decide +kernel
theorem dX2_recoverDead_126 : decode cX2_recoverDead 126 = .ok (.iload 5, 2) := by decide +kernel
theorem dX2_recoverDead_128 : decode cX2_recoverDead 128 = .ok (.invokevirtual 140, 3) := by decide +kernel
theorem dX2_recoverDead_131 : decode cX2_recoverDead 131 = .ok (.iinc 5 1, 3) := by decide +kernel
theorem dX2_recoverDead_134 : decode cX2_recoverDead 134 = .ok (.goto (-63), 3) := by decide +kernel
theorem dX2_recoverDead_137 : decode cX2_recoverDead 137 = .ok (.aload 4, 2) := by decide +kernel
theorem dX2_recoverDead_139 : decode cX2_recoverDead 139 = .ok (.getfield 117, 3) := by decide +kernel
theorem dX2_recoverDead_142 : decode cX2_recoverDead 142 = .ok (.ifCond .ne 18, 3) := by decide +kernel
theorem dX2_recoverDead_145 : decode cX2_recoverDead 145 = .ok (.aload_n 0, 1) := by decide +kernel
theorem dX2_recoverDead_146 : decode cX2_recoverDead 146 = .ok (.getfield 18, 3) := by decide +kernel
theorem dX2_recoverDead_149 : decode cX2_recoverDead 149 = .ok (.iload_n 2, 1) := by decide +kernel
theorem dX2_recoverDead_150 : decode cX2_recoverDead 150 = .ok (.invokevirtual 143, 3) := by decide +kernel
theorem dX2_recoverDead_153 : decode cX2_recoverDead 153 = .ok (.pop, 1) := by decide +kernel
theorem dX2_recoverDead_154 : decode cX2_recoverDead 154 = .ok (.iinc 1 1, 3) := by decide +kernel
theorem dX2_recoverDead_157 : decode cX2_recoverDead 157 = .ok (.goto 6, 3) := by decide +kernel
theorem dX2_recoverDead_160 : decode cX2_recoverDead 160 = .ok (.iinc 2 1, 3) := by decide +kernel
theorem dX2_recoverDead_163 : decode cX2_recoverDead 163 = .ok (.iinc 3 (-1), 3) := by decide +kernel
theorem dX2_recoverDead_166 : decode cX2_recoverDead 166 = .ok (.goto (-154), 3) := by decide +kernel
theorem dX2_recoverDead_169 : decode cX2_recoverDead 169 = .ok (.iload_n 1, 1) := by decide +kernel
theorem dX2_recoverDead_170 : decode cX2_recoverDead 170 = .ok (.ireturn, 1) := by decide +kernel
theorem dX2_heirOfNext_0 : decode cX2_heirOfNext 0 = .ok (.aconst_null, 1) := by decide +kernel
theorem dX2_heirOfNext_1 : decode cX2_heirOfNext 1 = .ok (.astore_n 1, 1) := by decide +kernel
theorem dX2_heirOfNext_2 : decode cX2_heirOfNext 2 = .ok (.bipush 9, 2) := by decide +kernel
theorem dX2_heirOfNext_4 : decode cX2_heirOfNext 4 = .ok (.istore_n 2, 1) := by decide +kernel
theorem dX2_heirOfNext_5 : decode cX2_heirOfNext 5 = .ok (.iconst 0, 1) := by decide +kernel
theorem dX2_heirOfNext_6 : decode cX2_heirOfNext 6 = .ok (.istore_n 3, 1) := by decide +kernel
theorem dX2_heirOfNext_7 : decode cX2_heirOfNext 7 = .ok (.iload_n 3, 1) := by decide +kernel
theorem dX2_heirOfNext_8 : decode cX2_heirOfNext 8 = .ok (.aload_n 0, 1) := by decide +kernel
theorem dX2_heirOfNext_9 : decode cX2_heirOfNext 9 = .ok (.getfield 32, 3) := by decide +kernel
theorem dX2_heirOfNext_12 : decode cX2_heirOfNext 12 = .ok (.getfield 36, 3) := by decide +kernel
theorem dX2_heirOfNext_15 : decode cX2_heirOfNext 15 = .ok (.arraylength, 1) := by decide +kernel
theorem dX2_heirOfNext_16 : decode cX2_heirOfNext 16 = .ok (.if_icmp .ge 63, 3) := by decide +kernel
theorem dX2_heirOfNext_19 : decode cX2_heirOfNext 19 = .ok (.aload_n 0, 1) := by decide +kernel
theorem dX2_heirOfNext_20 : decode cX2_heirOfNext 20 = .ok (.getfield 32, 3) := by decide +kernel
theorem dX2_heirOfNext_23 : decode cX2_heirOfNext 23 = .ok (.getfield 36, 3) := by decide +kernel
theorem dX2_heirOfNext_26 : decode cX2_heirOfNext 26 = .ok (.iload_n 3, 1) := by decide +kernel
theorem dX2_heirOfNext_27 : decode cX2_heirOfNext 27 = .ok (.aaload, 1) := by decide +kernel
theorem dX2_heirOfNext_28 : decode cX2_heirOfNext 28 = .ok (.astore 4, 2) := by decide +kernel
theorem dX2_heirOfNext_30 : decode cX2_heirOfNext 30 = .ok (.aload_n 0, 1) := by decide +kernel
theorem dX2_heirOfNext_31 : decode cX2_heirOfNext 31 = .ok (.iload_n 3, 1) := by decide +kernel
theorem dX2_heirOfNext_32 : decode cX2_heirOfNext 32 = .ok (.invokevirtual 55, 3) := by decide +kernel
theorem dX2_heirOfNext_35 : decode cX2_heirOfNext 35 = .ok (.istore 5, 2) := by decide +kernel
theorem dX2_heirOfNext_37 : decode cX2_heirOfNext 37 = .ok (.aload 4, 2) := by decide +kernel
theorem dX2_heirOfNext_39 : decode cX2_heirOfNext 39 = .ok (.getfield 89, 3) := by decide +kernel
theorem dX2_heirOfNext_42 : decode cX2_heirOfNext 42 = .ok (.ifCond .ne 31, 3) := by decide +kernel
theorem dX2_heirOfNext_45 : decode cX2_heirOfNext 45 = .ok (.aload 4, 2) := by decide +kernel
theorem dX2_heirOfNext_47 : decode cX2_heirOfNext 47 = .ok (.getfield 92, 3) := by decide +kernel
theorem dX2_heirOfNext_50 : decode cX2_heirOfNext 50 = .ok (.ifCond .ne 23, 3) := by decide +kernel
theorem dX2_heirOfNext_53 : decode cX2_heirOfNext 53 = .ok (.aload 4, 2) := by decide +kernel
theorem dX2_heirOfNext_55 : decode cX2_heirOfNext 55 = .ok (.getfield 48, 3) := by decide +kernel
theorem dX2_heirOfNext_58 : decode cX2_heirOfNext 58 = .ok (.ifCond .ne 15, 3) := by decide +kernel
theorem dX2_heirOfNext_61 : decode cX2_heirOfNext 61 = .ok (.iload 5, 2) := by decide +kernel
theorem dX2_heirOfNext_63 : decode cX2_heirOfNext 63 = .ok (.iload_n 2, 1) := by decide +kernel
theorem dX2_heirOfNext_64 : decode cX2_heirOfNext 64 = .ok (.if_icmp .ge 9, 3) := by decide +kernel
theorem dX2_heirOfNext_67 : decode cX2_heirOfNext 67 = .ok (.aload 4, 2) := by decide +kernel
theorem dX2_heirOfNext_69 : decode cX2_heirOfNext 69 = .ok (.astore_n 1, 1) := by decide +kernel
theorem dX2_heirOfNext_70 : decode cX2_heirOfNext 70 = .ok (.iload 5, 2) := by decide +kernel
theorem dX2_heirOfNext_72 : decode cX2_heirOfNext 72 = .ok (.istore_n 2, 1) := by decide +kernel
theorem dX2_heirOfNext_73 : decode cX2_heirOfNext 73 = .ok (.iinc 3 1, 3) := by decide +kernel
theorem dX2_heirOfNext_76 : decode cX2_heirOfNext 76 = .ok (.goto (-69), 3) := by decide +kernel
theorem dX2_heirOfNext_79 : decode cX2_heirOfNext 79 = .ok (.aload_n 1, 1) := by decide +kernel
theorem dX2_heirOfNext_80 : decode cX2_heirOfNext 80 = .ok (.areturn, 1) := by decide +kernel
theorem dX2_takeOver_0 : decode cX2_takeOver 0 = .ok (.aload_n 0, 1) := by decide +kernel
theorem dX2_takeOver_1 : decode cX2_takeOver 1 = .ok (.getfield 9, 3) := by decide +kernel
theorem dX2_takeOver_4 : decode cX2_takeOver 4 = .ok (.iload_n 2, 1) := by decide +kernel
theorem dX2_takeOver_5 : decode cX2_takeOver 5 = .ok (.aload_n 1, 1) := by decide +kernel
theorem dX2_takeOver_6 : decode cX2_takeOver 6 = .ok (.getfield 52, 3) := by decide +kernel
theorem dX2_takeOver_9 : decode cX2_takeOver 9 = .ok (.iastore, 1) := by decide +kernel
theorem dX2_takeOver_10 : decode cX2_takeOver 10 = .ok (.aload_n 1, 1) := by decide +kernel
theorem dX2_takeOver_11 : decode cX2_takeOver 11 = .ok (.dup, 1) := by decide +kernel
theorem dX2_takeOver_12 : decode cX2_takeOver 12 = .ok (.getfield 42, 3) := by decide +kernel
theorem dX2_takeOver_15 : decode cX2_takeOver 15 = .ok (.iconst 1, 1) := by decide +kernel
theorem dX2_takeOver_16 : decode cX2_takeOver 16 = .ok (.iload_n 2, 1) := by decide +kernel
theorem dX2_takeOver_17 : decode cX2_takeOver 17 = .ok (.ishl, 1) := by decide +kernel
theorem dX2_takeOver_18 : decode cX2_takeOver 18 = .ok (.ior, 1) := by decide +kernel
theorem dX2_takeOver_19 : decode cX2_takeOver 19 = .ok (.putfield 42, 3) := by decide +kernel
theorem dX2_takeOver_22 : decode cX2_takeOver 22 = .ok (.aload_n 0, 1) := by decide +kernel
theorem dX2_takeOver_23 : decode cX2_takeOver 23 = .ok (.getfield 25, 3) := by decide +kernel
theorem dX2_takeOver_26 : decode cX2_takeOver 26 = .ok (.getfield 146, 3) := by decide +kernel
theorem dX2_takeOver_29 : decode cX2_takeOver 29 = .ok (.aload_n 1, 1) := by decide +kernel
theorem dX2_takeOver_30 : decode cX2_takeOver 30 = .ok (.getfield 149, 3) := by decide +kernel
theorem dX2_takeOver_33 : decode cX2_takeOver 33 = .ok (.if_icmp .le 24, 3) := by decide +kernel
theorem dX2_takeOver_36 : decode cX2_takeOver 36 = .ok (.aload_n 1, 1) := by decide +kernel
theorem dX2_takeOver_37 : decode cX2_takeOver 37 = .ok (.aload_n 0, 1) := by decide +kernel
theorem dX2_takeOver_38 : decode cX2_takeOver 38 = .ok (.getfield 25, 3) := by decide +kernel
theorem dX2_takeOver_41 : decode cX2_takeOver 41 = .ok (.getfield 146, 3) := by decide +kernel
theorem dX2_takeOver_44 : decode cX2_takeOver 44 = .ok (.putfield 149, 3) := by decide +kernel
theorem dX2_takeOver_47 : decode cX2_takeOver 47 = .ok (.aload_n 0, 1) := by decide +kernel
theorem dX2_takeOver_48 : decode cX2_takeOver 48 = .ok (.getfield 32, 3) := by decide +kernel
theorem dX2_takeOver_51 : decode cX2_takeOver 51 = .ok (.aload_n 1, 1) := by decide +kernel
theorem dX2_takeOver_52 : decode cX2_takeOver 52 = .ok (.iconst 0, 1) := by decide +kernel
theorem dX2_takeOver_53 : decode cX2_takeOver 53 = .ok (.invokevirtual 152, 3) := by decide +kernel
theorem dX2_takeOver_56 : decode cX2_takeOver 56 = .ok (.pop, 1) := by decide +kernel
theorem dX2_takeOver_57 : decode cX2_takeOver 57 = .ok (.aload_n 0, 1) := by decide +kernel
theorem dX2_takeOver_58 : decode cX2_takeOver 58 = .ok (.aload_n 1, 1) := by decide +kernel
theorem dX2_takeOver_59 : decode cX2_takeOver 59 = .ok (.getfield 59, 3) := by decide +kernel
theorem dX2_takeOver_62 : decode cX2_takeOver 62 = .ok (.iload_n 2, 1) := by decide +kernel
theorem dX2_takeOver_63 : decode cX2_takeOver 63 = .ok (.invokevirtual 156, 3) := by decide +kernel
theorem dX2_takeOver_66 : decode cX2_takeOver 66 = .ok (.iconst 0, 1) := by decide +kernel
theorem dX2_takeOver_67 : decode cX2_takeOver 67 = .ok (.istore_n 3, 1) := by decide +kernel
theorem dX2_takeOver_68 : decode cX2_takeOver 68 = .ok (.iload_n 3, 1) := by decide +kernel
theorem dX2_takeOver_69 : decode cX2_takeOver 69 = .ok (.aload_n 0, 1) := by decide +kernel
theorem dX2_takeOver_70 : decode cX2_takeOver 70 = .ok (.getfield 29, 3) := by decide +kernel
theorem dX2_takeOver_73 : decode cX2_takeOver 73 = .ok (.invokevirtual 81, 3) := by decide +kernel
theorem dX2_takeOver_76 : decode cX2_takeOver 76 = .ok (.if_icmp .ge 51, 3) := by decide +kernel
theorem dX2_takeOver_79 : decode cX2_takeOver 79 = .ok (.aload_n 0, 1) := by decide +kernel
theorem dX2_takeOver_80 : decode cX2_takeOver 80 = .ok (.getfield 29, 3) := by decide +kernel
theorem dX2_takeOver_83 : decode cX2_takeOver 83 = .ok (.iload_n 3, 1) := by decide +kernel
theorem dX2_takeOver_84 : decode cX2_takeOver 84 = .ok (.invokevirtual 85, 3) := by decide +kernel
theorem dX2_takeOver_87 : decode cX2_takeOver 87 = .ok (.checkcast 159, 3) := by decide +kernel
theorem dX2_takeOver_90 : decode cX2_takeOver 90 = .ok (.astore 4, 2) := by decide +kernel
theorem dX2_takeOver_92 : decode cX2_takeOver 92 = .ok (.aload_n 0, 1) := by decide +kernel
theorem dX2_takeOver_93 : decode cX2_takeOver 93 = .ok (.getfield 32, 3) := by decide +kernel
theorem dX2_takeOver_96 : decode cX2_takeOver 96 = .ok (.aload_n 1, 1) := by decide +kernel
theorem dX2_takeOver_97 : decode cX2_takeOver 97 = .ok (.aload 4, 2) := by decide +kernel
theorem dX2_takeOver_99 : decode cX2_takeOver 99 = .ok (.getfield 161, 3) := by decide +kernel
theorem dX2_takeOver_102 : decode cX2_takeOver 102 = .ok (.iconst 0, 1) := by decide +kernel
theorem dX2_takeOver_103 : decode cX2_takeOver 103 = .ok (.invokevirtual 164, 3) := by decide +kernel
theorem dX2_takeOver_106 : decode cX2_takeOver 106 = .ok (.ifCond .eq 15, 3) := by decide +kernel
theorem dX2_takeOver_109 : decode cX2_takeOver 109 = .ok (.aload_n 0, 1) := by decide +kernel
theorem dX2_takeOver_110 : decode cX2_takeOver 110 = .ok (.getfield 32, 3) := by decide +kernel
theorem dX2_takeOver_113 : decode cX2_takeOver 113 = .ok (.aload_n 1, 1) := by decide +kernel
theorem dX2_takeOver_114 : decode cX2_takeOver 114 = .ok (.aconst_null, 1) := by decide +kernel
theorem dX2_takeOver_115 : decode cX2_takeOver 115 = .ok (.aload 4, 2) := by decide +kernel
theorem dX2_takeOver_117 : decode cX2_takeOver 117 = .ok (.iconst (-1), 1) := by decide +kernel
theorem dX2_takeOver_118 : decode cX2_takeOver 118 = .ok (.invokevirtual 168, 3) := by decide +kernel
theorem dX2_takeOver_121 : decode cX2_takeOver 121 = .ok (.iinc 3 1, 3) := by decide +kernel
theorem dX2_takeOver_124 : decode cX2_takeOver 124 = .ok (.goto (-56), 3) := by decide +kernel
theorem dX2_takeOver_127 : decode cX2_takeOver 127 = .ok (.aload_n 0, 1) := by decide +kernel
theorem dX2_takeOver_128 : decode cX2_takeOver 128 = .ok (.getfield 29, 3) := by decide +kernel
theorem dX2_takeOver_131 : decode cX2_takeOver 131 = .ok (.invokevirtual 172, 3) := by decide +kernel
theorem dX2_takeOver_134 : decode cX2_takeOver 134 = .ok (.return_, 1) := by decide +kernel
theorem dX2_gatherMoving_0 : decode cX2_gatherMoving 0 = .ok (.aload_n 0, 1) := by decide +kernel
theorem dX2_gatherMoving_1 : decode cX2_gatherMoving 1 = .ok (.getfield 29, 3) := by decide +kernel
theorem dX2_gatherMoving_4 : decode cX2_gatherMoving 4 = .ok (.invokevirtual 172, 3) := by decide +kernel
theorem dX2_gatherMoving_7 : decode cX2_gatherMoving 7 = .ok (.iconst 0, 1) := by decide +kernel
theorem dX2_gatherMoving_8 : decode cX2_gatherMoving 8 = .ok (.istore_n 3, 1) := by decide +kernel
theorem dX2_gatherMoving_9 : decode cX2_gatherMoving 9 = .ok (.iload_n 3, 1) := by decide +kernel
theorem dX2_gatherMoving_10 : decode cX2_gatherMoving 10 = .ok (.bipush 6, 2) := by decide +kernel
theorem dX2_gatherMoving_12 : decode cX2_gatherMoving 12 = .ok (.if_icmp .ge 47, 3) := by decide +kernel
theorem dX2_gatherMoving_15 : decode cX2_gatherMoving 15 = .ok (.aload_n 0, 1) := by decide +kernel
theorem dX2_gatherMoving_16 : decode cX2_gatherMoving 16 = .ok (.getfield 25, 3) := by decide +kernel
theorem dX2_gatherMoving_19 : decode cX2_gatherMoving 19 = .ok (.getfield 175, 3) := by decide +kernel
theorem dX2_gatherMoving_22 : decode cX2_gatherMoving 22 = .ok (.iload_n 3, 1) := by decide +kernel
theorem dX2_gatherMoving_23 : decode cX2_gatherMoving 23 = .ok (.iaload, 1) := by decide +kernel
theorem dX2_gatherMoving_24 : decode cX2_gatherMoving 24 = .ok (.aload_n 1, 1) := by decide +kernel
theorem dX2_gatherMoving_25 : decode cX2_gatherMoving 25 = .ok (.iload_n 3, 1) := by decide +kernel
theorem dX2_gatherMoving_26 : decode cX2_gatherMoving 26 = .ok (.invokevirtual 178, 3) := by decide +kernel
theorem dX2_gatherMoving_29 : decode cX2_gatherMoving 29 = .ok (.if_icmp .le 24, 3) := by decide +kernel
theorem dX2_gatherMoving_32 : decode cX2_gatherMoving 32 = .ok (.aload_n 0, 1) := by decide +kernel
theorem dX2_gatherMoving_33 : decode cX2_gatherMoving 33 = .ok (.getfield 29, 3) := by decide +kernel
theorem dX2_gatherMoving_36 : decode cX2_gatherMoving 36 = .ok (.iload_n 3, 1) := by decide +kernel
theorem dX2_gatherMoving_37 : decode cX2_gatherMoving 37 = .ok (.aload_n 0, 1) := by decide +kernel
theorem dX2_gatherMoving_38 : decode cX2_gatherMoving 38 = .ok (.getfield 25, 3) := by decide +kernel
theorem dX2_gatherMoving_41 : decode cX2_gatherMoving 41 = .ok (.getfield 175, 3) := by decide +kernel
theorem dX2_gatherMoving_44 : decode cX2_gatherMoving 44 = .ok (.iload_n 3, 1) := by decide +kernel
theorem dX2_gatherMoving_45 : decode cX2_gatherMoving 45 = .ok (.iaload, 1) := by decide +kernel
theorem dX2_gatherMoving_46 : decode cX2_gatherMoving 46 = .ok (.invokestatic 181, 3) := by decide +kernel
theorem dX2_gatherMoving_49 : decode cX2_gatherMoving 49 = .ok (.invokevirtual 118, 3) := by decide +kernel
theorem dX2_gatherMoving_52 : decode cX2_gatherMoving 52 = .ok (.pop, 1) := by decide +kernel
theorem dX2_gatherMoving_53 : decode cX2_gatherMoving 53 = .ok (.iinc 3 1, 3) := by decide +kernel
theorem dX2_gatherMoving_56 : decode cX2_gatherMoving 56 = .ok (.goto (-47), 3) := by decide +kernel
theorem dX2_gatherMoving_59 : decode cX2_gatherMoving 59 = .ok (.iconst 0, 1) := by decide +kernel
theorem dX2_gatherMoving_60 : decode cX2_gatherMoving 60 = .ok (.istore_n 3, 1) := by decide +kernel
theorem dX2_gatherMoving_61 : decode cX2_gatherMoving 61 = .ok (.iload_n 3, 1) := by decide +kernel
theorem dX2_gatherMoving_62 : decode cX2_gatherMoving 62 = .ok (.bipush 8, 2) := by decide +kernel
theorem dX2_gatherMoving_64 : decode cX2_gatherMoving 64 = .ok (.if_icmp .ge 40, 3) := by decide +kernel
theorem dX2_gatherMoving_67 : decode cX2_gatherMoving 67 = .ok (.aload_n 0, 1) := by decide +kernel
theorem dX2_gatherMoving_68 : decode cX2_gatherMoving 68 = .ok (.getfield 25, 3) := by decide +kernel
theorem dX2_gatherMoving_71 : decode cX2_gatherMoving 71 = .ok (.getfield 185, 3) := by decide +kernel
theorem dX2_gatherMoving_74 : decode cX2_gatherMoving 74 = .ok (.iload_n 2, 1) := by decide +kernel
theorem dX2_gatherMoving_75 : decode cX2_gatherMoving 75 = .ok (.bipush 8, 2) := by decide +kernel
theorem dX2_gatherMoving_77 : decode cX2_gatherMoving 77 = .ok (.imul, 1) := by decide +kernel
theorem dX2_gatherMoving_78 : decode cX2_gatherMoving 78 = .ok (.iload_n 3, 1) := by decide +kernel
theorem dX2_gatherMoving_79 : decode cX2_gatherMoving 79 = .ok (.iadd, 1) := by decide +kernel
theorem dX2_gatherMoving_80 : decode cX2_gatherMoving 80 = .ok (.aaload, 1) := by decide +kernel
theorem dX2_gatherMoving_81 : decode cX2_gatherMoving 81 = .ok (.astore 4, 2) := by decide +kernel
theorem dX2_gatherMoving_83 : decode cX2_gatherMoving 83 = .ok (.aload 4, 2) := by decide +kernel
theorem dX2_gatherMoving_85 : decode cX2_gatherMoving 85 = .ok (.ifnull 13, 3) := by decide +kernel
theorem dX2_gatherMoving_88 : decode cX2_gatherMoving 88 = .ok (.aload_n 0, 1) := by decide +kernel
theorem dX2_gatherMoving_89 : decode cX2_gatherMoving 89 = .ok (.getfield 29, 3) := by decide +kernel
theorem dX2_gatherMoving_92 : decode cX2_gatherMoving 92 = .ok (.aload 4, 2) := by decide +kernel
theorem dX2_gatherMoving_94 : decode cX2_gatherMoving 94 = .ok (.invokevirtual 118, 3) := by decide +kernel
theorem dX2_gatherMoving_97 : decode cX2_gatherMoving 97 = .ok (.pop, 1) := by decide +kernel
theorem dX2_gatherMoving_98 : decode cX2_gatherMoving 98 = .ok (.iinc 3 1, 3) := by decide +kernel
theorem dX2_gatherMoving_101 : decode cX2_gatherMoving 101 = .ok (.goto (-40), 3) := by decide +kernel
theorem dX2_gatherMoving_104 : decode cX2_gatherMoving 104 = .ok (.iconst 0, 1) := by decide +kernel
theorem dX2_gatherMoving_105 : decode cX2_gatherMoving 105 = .ok (.istore_n 3, 1) := by decide +kernel
theorem dX2_gatherMoving_106 : decode cX2_gatherMoving 106 = .ok (.iload_n 3, 1) := by decide +kernel
theorem dX2_gatherMoving_107 : decode cX2_gatherMoving 107 = .ok (.aload_n 0, 1) := by decide +kernel
theorem dX2_gatherMoving_108 : decode cX2_gatherMoving 108 = .ok (.getfield 25, 3) := by decide +kernel
theorem dX2_gatherMoving_111 : decode cX2_gatherMoving 111 = .ok (.getfield 189, 3) := by decide +kernel
theorem dX2_gatherMoving_114 : decode cX2_gatherMoving 114 = .ok (.arraylength, 1) := by decide +kernel
theorem dX2_gatherMoving_115 : decode cX2_gatherMoving 115 = .ok (.if_icmp .ge 68, 3) := by decide +kernel
theorem dX2_gatherMoving_118 : decode cX2_gatherMoving 118 = .ok (.aload_n 0, 1) := by decide +kernel
theorem dX2_gatherMoving_119 : decode cX2_gatherMoving 119 = .ok (.getfield 25, 3) := by decide +kernel
theorem dX2_gatherMoving_122 : decode cX2_gatherMoving 122 = .ok (.getfield 189, 3) := by decide +kernel
theorem dX2_gatherMoving_125 : decode cX2_gatherMoving 125 = .ok (.iload_n 3, 1) := by decide +kernel
theorem dX2_gatherMoving_126 : decode cX2_gatherMoving 126 = .ok (.aaload, 1) := by decide +kernel
theorem dX2_gatherMoving_127 : decode cX2_gatherMoving 127 = .ok (.astore 4, 2) := by decide +kernel
theorem dX2_gatherMoving_129 : decode cX2_gatherMoving 129 = .ok (.aload 4, 2) := by decide +kernel
theorem dX2_gatherMoving_131 : decode cX2_gatherMoving 131 = .ok (.ifnull 46, 3) := by decide +kernel
theorem dX2_gatherMoving_134 : decode cX2_gatherMoving 134 = .ok (.aload 4, 2) := by decide +kernel
theorem dX2_gatherMoving_136 : decode cX2_gatherMoving 136 = .ok (.getfield 192, 3) := by decide +kernel
theorem dX2_gatherMoving_139 : decode cX2_gatherMoving 139 = .ok (.invokestatic 195, 3) := by decide +kernel
theorem dX2_gatherMoving_142 : decode cX2_gatherMoving 142 = .ok (.iload_n 2, 1) := by decide +kernel
theorem dX2_gatherMoving_143 : decode cX2_gatherMoving 143 = .ok (.if_icmp .ne 34, 3) := by decide +kernel
theorem dX2_gatherMoving_146 : decode cX2_gatherMoving 146 = .ok (.aload 4, 2) := by decide +kernel
theorem dX2_gatherMoving_148 : decode cX2_gatherMoving 148 = .ok (.getfield 198, 3) := by decide +kernel
theorem dX2_gatherMoving_151 : decode cX2_gatherMoving 151 = .ok (.aload_n 0, 1) := by decide +kernel
theorem dX2_gatherMoving_152 : decode cX2_gatherMoving 152 = .ok (.getfield 25, 3) := by decide +kernel
theorem dX2_gatherMoving_155 : decode cX2_gatherMoving 155 = .ok (.getfield 175, 3) := by decide +kernel
theorem dX2_gatherMoving_158 : decode cX2_gatherMoving 158 = .ok (.aload 4, 2) := by decide +kernel
theorem dX2_gatherMoving_160 : decode cX2_gatherMoving 160 = .ok (.getfield 199, 3) := by decide +kernel
theorem dX2_gatherMoving_163 : decode cX2_gatherMoving 163 = .ok (.iaload, 1) := by decide +kernel
theorem dX2_gatherMoving_164 : decode cX2_gatherMoving 164 = .ok (.if_icmp .lt 13, 3) := by decide +kernel
theorem dX2_gatherMoving_167 : decode cX2_gatherMoving 167 = .ok (.aload_n 0, 1) := by decide +kernel
theorem dX2_gatherMoving_168 : decode cX2_gatherMoving 168 = .ok (.getfield 29, 3) := by decide +kernel
theorem dX2_gatherMoving_171 : decode cX2_gatherMoving 171 = .ok (.aload 4, 2) := by decide +kernel
theorem dX2_gatherMoving_173 : decode cX2_gatherMoving 173 = .ok (.invokevirtual 118, 3) := by decide +kernel
theorem dX2_gatherMoving_176 : decode cX2_gatherMoving 176 = .ok (.pop, 1) := by decide +kernel
theorem dX2_gatherMoving_177 : decode cX2_gatherMoving 177 = .ok (.iinc 3 1, 3) := by decide +kernel
theorem dX2_gatherMoving_180 : decode cX2_gatherMoving 180 = .ok (.goto (-74), 3) := by decide +kernel
theorem dX2_gatherMoving_183 : decode cX2_gatherMoving 183 = .ok (.return_, 1) := by decide +kernel
theorem dX3_init_0 : decode cX3_init 0 = .ok (.aload_n 0, 1) := by decide +kernel
theorem dX3_init_1 : decode cX3_init 1 = .ok (.invokespecial 3, 3) := by decide +kernel
theorem dX3_init_4 : decode cX3_init 4 = .ok (.aload_n 0, 1) := by decide +kernel
theorem dX3_init_5 : decode cX3_init 5 = .ok (.new 9, 3) := by decide +kernel
theorem dX3_init_8 : decode cX3_init 8 = .ok (.dup, 1) := by decide +kernel
theorem dX3_init_9 : decode cX3_init 9 = .ok (.invokespecial 11, 3) := by decide +kernel
theorem dX3_init_12 : decode cX3_init 12 = .ok (.putfield 12, 3) := by decide +kernel
theorem dX3_init_15 : decode cX3_init 15 = .ok (.return_, 1) := by decide +kernel
theorem dX3_homeOf_0 : decode cX3_homeOf 0 = .ok (.aconst_null, 1) := by decide +kernel
theorem dX3_homeOf_1 : decode cX3_homeOf 1 = .ok (.astore_n 2, 1) := by decide +kernel
theorem dX3_homeOf_2 : decode cX3_homeOf 2 = .ok (.iconst 0, 1) := by decide +kernel
theorem dX3_homeOf_3 : decode cX3_homeOf 3 = .ok (.istore_n 3, 1) := by decide +kernel
theorem dX3_homeOf_4 : decode cX3_homeOf 4 = .ok (.iconst 0, 1) := by decide +kernel
theorem dX3_homeOf_5 : decode cX3_homeOf 5 = .ok (.istore 4, 2) := by decide +kernel
theorem dX3_homeOf_7 : decode cX3_homeOf 7 = .ok (.iload 4, 2) := by decide +kernel
theorem dX3_homeOf_9 : decode cX3_homeOf 9 = .ok (.aload_n 0, 1) := by decide +kernel
theorem dX3_homeOf_10 : decode cX3_homeOf 10 = .ok (.getfield 12, 3) := by decide +kernel
theorem dX3_homeOf_13 : decode cX3_homeOf 13 = .ok (.invokevirtual 18, 3) := by decide +kernel
theorem dX3_homeOf_16 : decode cX3_homeOf 16 = .ok (.if_icmp .ge 100, 3) := by decide +kernel
theorem dX3_homeOf_19 : decode cX3_homeOf 19 = .ok (.aload_n 0, 1) := by decide +kernel
theorem dX3_homeOf_20 : decode cX3_homeOf 20 = .ok (.getfield 12, 3) := by decide +kernel
theorem dX3_homeOf_23 : decode cX3_homeOf 23 = .ok (.iload 4, 2) := by decide +kernel
theorem dX3_homeOf_25 : decode cX3_homeOf 25 = .ok (.invokevirtual 22, 3) := by decide +kernel
theorem dX3_homeOf_28 : decode cX3_homeOf 28 = .ok (.checkcast 26, 3) := by decide +kernel
theorem dX3_homeOf_31 : decode cX3_homeOf 31 = .ok (.astore 5, 2) := by decide +kernel
theorem dX3_homeOf_33 : decode cX3_homeOf 33 = .ok (.iconst 0, 1) := by decide +kernel
theorem dX3_homeOf_34 : decode cX3_homeOf 34 = .ok (.istore 6, 2) := by decide +kernel
theorem dX3_homeOf_36 : decode cX3_homeOf 36 = .ok (.iload 6, 2) := by decide +kernel
theorem dX3_homeOf_38 : decode cX3_homeOf 38 = .ok (.aload 5, 2) := by decide +kernel
theorem dX3_homeOf_40 : decode cX3_homeOf 40 = .ok (.getfield 28, 3) := by decide +kernel
theorem dX3_homeOf_43 : decode cX3_homeOf 43 = .ok (.if_icmp .ge 67, 3) := by decide +kernel
theorem dX3_homeOf_46 : decode cX3_homeOf 46 = .ok (.aload 5, 2) := by decide +kernel
theorem dX3_homeOf_48 : decode cX3_homeOf 48 = .ok (.getfield 32, 3) := by decide +kernel
theorem dX3_homeOf_51 : decode cX3_homeOf 51 = .ok (.iload 6, 2) := by decide +kernel
theorem dX3_homeOf_53 : decode cX3_homeOf 53 = .ok (.aaload, 1) := by decide +kernel
theorem dX3_homeOf_54 : decode cX3_homeOf 54 = .ok (.astore 7, 2) := by decide +kernel
theorem dX3_homeOf_56 : decode cX3_homeOf 56 = .ok (.aload 7, 2) := by decide +kernel
theorem dX3_homeOf_58 : decode cX3_homeOf 58 = .ok (.getfield 36, 3) := by decide +kernel
theorem dX3_homeOf_61 : decode cX3_homeOf 61 = .ok (.ifCond .eq 43, 3) := by decide +kernel
theorem dX3_homeOf_64 : decode cX3_homeOf 64 = .ok (.aload 7, 2) := by decide +kernel
theorem dX3_homeOf_66 : decode cX3_homeOf 66 = .ok (.getfield 42, 3) := by decide +kernel
theorem dX3_homeOf_69 : decode cX3_homeOf 69 = .ok (.iload_n 1, 1) := by decide +kernel
theorem dX3_homeOf_70 : decode cX3_homeOf 70 = .ok (.if_icmp .ne 34, 3) := by decide +kernel
theorem dX3_homeOf_73 : decode cX3_homeOf 73 = .ok (.aload 7, 2) := by decide +kernel
theorem dX3_homeOf_75 : decode cX3_homeOf 75 = .ok (.getfield 45, 3) := by decide +kernel
theorem dX3_homeOf_78 : decode cX3_homeOf 78 = .ok (.iload_n 3, 1) := by decide +kernel
theorem dX3_homeOf_79 : decode cX3_homeOf 79 = .ok (.if_icmp .le 25, 3) := by decide +kernel
theorem dX3_homeOf_82 : decode cX3_homeOf 82 = .ok (.aload 7, 2) := by decide +kernel
theorem dX3_homeOf_84 : decode cX3_homeOf 84 = .ok (.getfield 45, 3) := by decide +kernel
theorem dX3_homeOf_87 : decode cX3_homeOf 87 = .ok (.istore_n 3, 1) := by decide +kernel
theorem dX3_homeOf_88 : decode cX3_homeOf 88 = .ok (.aload 7, 2) := by decide +kernel
theorem dX3_homeOf_90 : decode cX3_homeOf 90 = .ok (.getfield 48, 3) := by decide +kernel
theorem dX3_homeOf_93 : decode cX3_homeOf 93 = .ok (.iconst 2, 1) := by decide +kernel
theorem dX3_homeOf_94 : decode cX3_homeOf 94 = .ok (.if_icmp .ne 8, 3) := by decide +kernel
theorem dX3_homeOf_97 : decode cX3_homeOf 97 = .ok (.aload 5, 2) := by decide +kernel
theorem dX3_homeOf_99 : decode cX3_homeOf 99 = .ok (.goto 4, 3) := by decide +kernel
theorem dX3_homeOf_102 : decode cX3_homeOf 102 = .ok (.aconst_null, 1) := by decide +kernel
theorem dX3_homeOf_103 : decode cX3_homeOf 103 = .ok (.astore_n 2, 1) := by decide +kernel
theorem dX3_homeOf_104 : decode cX3_homeOf 104 = .ok (.iinc 6 1, 3) := by decide +kernel
theorem dX3_homeOf_107 : decode cX3_homeOf 107 = .ok (.goto (-71), 3) := by decide +kernel
theorem dX3_homeOf_110 : decode cX3_homeOf 110 = .ok (.iinc 4 1, 3) := by decide +kernel
theorem dX3_homeOf_113 : decode cX3_homeOf 113 = .ok (.goto (-106), 3) := by decide +kernel
theorem dX3_homeOf_116 : decode cX3_homeOf 116 = .ok (.aload_n 2, 1) := by decide +kernel
theorem dX3_homeOf_117 : decode cX3_homeOf 117 = .ok (.areturn, 1) := by decide +kernel
theorem dX3_objectOf_0 : decode cX3_objectOf 0 = .ok (.aload_n 0, 1) := by decide +kernel
theorem dX3_objectOf_1 : decode cX3_objectOf 1 = .ok (.iload_n 1, 1) := by decide +kernel
theorem dX3_objectOf_2 : decode cX3_objectOf 2 = .ok (.invokevirtual 51, 3) := by decide +kernel
theorem dX3_objectOf_5 : decode cX3_objectOf 5 = .ok (.astore_n 2, 1) := by decide +kernel
theorem dX3_objectOf_6 : decode cX3_objectOf 6 = .ok (.aload_n 2, 1) := by decide +kernel
theorem dX3_objectOf_7 : decode cX3_objectOf 7 = .ok (.ifnonnull 7, 3) := by decide +kernel
theorem dX3_objectOf_10 : decode cX3_objectOf 10 = .ok (.aconst_null, 1) := by decide +kernel
theorem dX3_objectOf_11 : decode cX3_objectOf 11 = .ok (.goto 8, 3) := by decide +kernel
theorem dX3_objectOf_14 : decode cX3_objectOf 14 = .ok (.aload_n 2, 1) := by decide +kernel
theorem dX3_objectOf_15 : decode cX3_objectOf 15 = .ok (.iload_n 1, 1) := by decide +kernel
theorem dX3_objectOf_16 : decode cX3_objectOf 16 = .ok (.invokevirtual 55, 3) := by decide +kernel
theorem dX3_objectOf_19 : decode cX3_objectOf 19 = .ok (.areturn, 1) := by decide +kernel
theorem dX3_ackedOf_0 : decode cX3_ackedOf 0 = .ok (.iconst 1, 1) := by decide +kernel
theorem dX3_ackedOf_1 : decode cX3_ackedOf 1 = .ok (.istore_n 2, 1) := by decide +kernel
theorem dX3_ackedOf_2 : decode cX3_ackedOf 2 = .ok (.iconst 0, 1) := by decide +kernel
theorem dX3_ackedOf_3 : decode cX3_ackedOf 3 = .ok (.istore_n 3, 1) := by decide +kernel
theorem dX3_ackedOf_4 : decode cX3_ackedOf 4 = .ok (.iload_n 3, 1) := by decide +kernel
theorem dX3_ackedOf_5 : decode cX3_ackedOf 5 = .ok (.aload_n 0, 1) := by decide +kernel
theorem dX3_ackedOf_6 : decode cX3_ackedOf 6 = .ok (.getfield 12, 3) := by decide +kernel
theorem dX3_ackedOf_9 : decode cX3_ackedOf 9 = .ok (.invokevirtual 18, 3) := by decide +kernel
theorem dX3_ackedOf_12 : decode cX3_ackedOf 12 = .ok (.if_icmp .ge 83, 3) := by decide +kernel
theorem dX3_ackedOf_15 : decode cX3_ackedOf 15 = .ok (.aload_n 0, 1) := by decide +kernel
theorem dX3_ackedOf_16 : decode cX3_ackedOf 16 = .ok (.getfield 12, 3) := by decide +kernel
theorem dX3_ackedOf_19 : decode cX3_ackedOf 19 = .ok (.iload_n 3, 1) := by decide +kernel
theorem dX3_ackedOf_20 : decode cX3_ackedOf 20 = .ok (.invokevirtual 22, 3) := by decide +kernel
theorem dX3_ackedOf_23 : decode cX3_ackedOf 23 = .ok (.checkcast 26, 3) := by decide +kernel
theorem dX3_ackedOf_26 : decode cX3_ackedOf 26 = .ok (.astore 4, 2) := by decide +kernel
theorem dX3_ackedOf_28 : decode cX3_ackedOf 28 = .ok (.iconst 0, 1) := by decide +kernel
theorem dX3_ackedOf_29 : decode cX3_ackedOf 29 = .ok (.istore 5, 2) := by decide +kernel
theorem dX3_ackedOf_31 : decode cX3_ackedOf 31 = .ok (.iload 5, 2) := by decide +kernel
theorem dX3_ackedOf_33 : decode cX3_ackedOf 33 = .ok (.aload 4, 2) := by decide +kernel
theorem dX3_ackedOf_35 : decode cX3_ackedOf 35 = .ok (.getfield 28, 3) := by decide +kernel
theorem dX3_ackedOf_38 : decode cX3_ackedOf 38 = .ok (.if_icmp .ge 51, 3) := by decide +kernel
theorem dX3_ackedOf_41 : decode cX3_ackedOf 41 = .ok (.aload 4, 2) := by decide +kernel
theorem dX3_ackedOf_43 : decode cX3_ackedOf 43 = .ok (.getfield 32, 3) := by decide +kernel
theorem dX3_ackedOf_46 : decode cX3_ackedOf 46 = .ok (.iload 5, 2) := by decide +kernel
theorem dX3_ackedOf_48 : decode cX3_ackedOf 48 = .ok (.aaload, 1) := by decide +kernel
theorem dX3_ackedOf_49 : decode cX3_ackedOf 49 = .ok (.astore 6, 2) := by decide +kernel
theorem dX3_ackedOf_51 : decode cX3_ackedOf 51 = .ok (.aload 6, 2) := by decide +kernel
theorem dX3_ackedOf_53 : decode cX3_ackedOf 53 = .ok (.getfield 59, 3) := by decide +kernel
theorem dX3_ackedOf_56 : decode cX3_ackedOf 56 = .ok (.ifCond .eq 27, 3) := by decide +kernel
theorem dX3_ackedOf_59 : decode cX3_ackedOf 59 = .ok (.aload 6, 2) := by decide +kernel
theorem dX3_ackedOf_61 : decode cX3_ackedOf 61 = .ok (.getfield 62, 3) := by decide +kernel
theorem dX3_ackedOf_64 : decode cX3_ackedOf 64 = .ok (.iload_n 1, 1) := by decide +kernel
theorem dX3_ackedOf_65 : decode cX3_ackedOf 65 = .ok (.if_icmp .ne 18, 3) := by decide +kernel
theorem dX3_ackedOf_68 : decode cX3_ackedOf 68 = .ok (.aload 6, 2) := by decide +kernel
theorem dX3_ackedOf_70 : decode cX3_ackedOf 70 = .ok (.getfield 65, 3) := by decide +kernel
theorem dX3_ackedOf_73 : decode cX3_ackedOf 73 = .ok (.iload_n 2, 1) := by decide +kernel
theorem dX3_ackedOf_74 : decode cX3_ackedOf 74 = .ok (.if_icmp .le 9, 3) := by decide +kernel
theorem dX3_ackedOf_77 : decode cX3_ackedOf 77 = .ok (.aload 6, 2) := by decide +kernel
theorem dX3_ackedOf_79 : decode cX3_ackedOf 79 = .ok (.getfield 65, 3) := by decide +kernel
theorem dX3_ackedOf_82 : decode cX3_ackedOf 82 = .ok (.istore_n 2, 1) := by decide +kernel
theorem dX3_ackedOf_83 : decode cX3_ackedOf 83 = .ok (.iinc 5 1, 3) := by decide +kernel
theorem dX3_ackedOf_86 : decode cX3_ackedOf 86 = .ok (.goto (-55), 3) := by decide +kernel
theorem dX3_ackedOf_89 : decode cX3_ackedOf 89 = .ok (.iinc 3 1, 3) := by decide +kernel
theorem dX3_ackedOf_92 : decode cX3_ackedOf 92 = .ok (.goto (-88), 3) := by decide +kernel
theorem dX3_ackedOf_95 : decode cX3_ackedOf 95 = .ok (.iload_n 2, 1) := by decide +kernel
theorem dX3_ackedOf_96 : decode cX3_ackedOf 96 = .ok (.ireturn, 1) := by decide +kernel
theorem dX3_resultOf_0 : decode cX3_resultOf 0 = .ok (.iconst 0, 1) := by decide +kernel
theorem dX3_resultOf_1 : decode cX3_resultOf 1 = .ok (.istore_n 3, 1) := by decide +kernel
theorem dX3_resultOf_2 : decode cX3_resultOf 2 = .ok (.iload_n 3, 1) := by decide +kernel
theorem dX3_resultOf_3 : decode cX3_resultOf 3 = .ok (.aload_n 0, 1) := by decide +kernel
theorem dX3_resultOf_4 : decode cX3_resultOf 4 = .ok (.getfield 12, 3) := by decide +kernel
theorem dX3_resultOf_7 : decode cX3_resultOf 7 = .ok (.invokevirtual 18, 3) := by decide +kernel
theorem dX3_resultOf_10 : decode cX3_resultOf 10 = .ok (.if_icmp .ge 81, 3) := by decide +kernel
theorem dX3_resultOf_13 : decode cX3_resultOf 13 = .ok (.aload_n 0, 1) := by decide +kernel
theorem dX3_resultOf_14 : decode cX3_resultOf 14 = .ok (.getfield 12, 3) := by decide +kernel
theorem dX3_resultOf_17 : decode cX3_resultOf 17 = .ok (.iload_n 3, 1) := by decide +kernel
theorem dX3_resultOf_18 : decode cX3_resultOf 18 = .ok (.invokevirtual 22, 3) := by decide +kernel
theorem dX3_resultOf_21 : decode cX3_resultOf 21 = .ok (.checkcast 26, 3) := by decide +kernel
theorem dX3_resultOf_24 : decode cX3_resultOf 24 = .ok (.astore 4, 2) := by decide +kernel
theorem dX3_resultOf_26 : decode cX3_resultOf 26 = .ok (.iconst 0, 1) := by decide +kernel
theorem dX3_resultOf_27 : decode cX3_resultOf 27 = .ok (.istore 5, 2) := by decide +kernel
theorem dX3_resultOf_29 : decode cX3_resultOf 29 = .ok (.iload 5, 2) := by decide +kernel
theorem dX3_resultOf_31 : decode cX3_resultOf 31 = .ok (.aload 4, 2) := by decide +kernel
theorem dX3_resultOf_33 : decode cX3_resultOf 33 = .ok (.getfield 28, 3) := by decide +kernel
theorem dX3_resultOf_36 : decode cX3_resultOf 36 = .ok (.if_icmp .ge 49, 3) := by decide +kernel
theorem dX3_resultOf_39 : decode cX3_resultOf 39 = .ok (.aload 4, 2) := by decide +kernel
theorem dX3_resultOf_41 : decode cX3_resultOf 41 = .ok (.getfield 32, 3) := by decide +kernel
theorem dX3_resultOf_44 : decode cX3_resultOf 44 = .ok (.iload 5, 2) := by decide +kernel
theorem dX3_resultOf_46 : decode cX3_resultOf 46 = .ok (.aaload, 1) := by decide +kernel
theorem dX3_resultOf_47 : decode cX3_resultOf 47 = .ok (.astore 6, 2) := by decide +kernel
theorem dX3_resultOf_49 : decode cX3_resultOf 49 = .ok (.aload 6, 2) := by decide +kernel
theorem dX3_resultOf_51 : decode cX3_resultOf 51 = .ok (.getfield 48, 3) := by decide +kernel
theorem dX3_resultOf_54 : decode cX3_resultOf 54 = .ok (.iconst 4, 1) := by decide +kernel
theorem dX3_resultOf_55 : decode cX3_resultOf 55 = .ok (.if_icmp .ne 24, 3) := by decide +kernel
theorem dX3_resultOf_58 : decode cX3_resultOf 58 = .ok (.aload 6, 2) := by decide +kernel
theorem dX3_resultOf_60 : decode cX3_resultOf 60 = .ok (.getfield 62, 3) := by decide +kernel
theorem dX3_resultOf_63 : decode cX3_resultOf 63 = .ok (.iload_n 1, 1) := by decide +kernel
theorem dX3_resultOf_64 : decode cX3_resultOf 64 = .ok (.if_icmp .ne 15, 3) := by decide +kernel
theorem dX3_resultOf_67 : decode cX3_resultOf 67 = .ok (.aload 6, 2) := by decide +kernel
theorem dX3_resultOf_69 : decode cX3_resultOf 69 = .ok (.getfield 68, 3) := by decide +kernel
theorem dX3_resultOf_72 : decode cX3_resultOf 72 = .ok (.iload_n 2, 1) := by decide +kernel
theorem dX3_resultOf_73 : decode cX3_resultOf 73 = .ok (.if_icmp .ne 6, 3) := by decide +kernel
theorem dX3_resultOf_76 : decode cX3_resultOf 76 = .ok (.aload 6, 2) := by decide +kernel
theorem dX3_resultOf_78 : decode cX3_resultOf 78 = .ok (.areturn, 1) := by decide +kernel
theorem dX3_resultOf_79 : decode cX3_resultOf 79 = .ok (.iinc 5 1, 3) := by decide +kernel
theorem dX3_resultOf_82 : decode cX3_resultOf 82 = .ok (.goto (-53), 3) := by decide +kernel
theorem dX3_resultOf_85 : decode cX3_resultOf 85 = .ok (.iinc 3 1, 3) := by decide +kernel
theorem dX3_resultOf_88 : decode cX3_resultOf 88 = .ok (.goto (-86), 3) := by decide +kernel
theorem dX3_resultOf_91 : decode cX3_resultOf 91 = .ok (.aconst_null, 1) := by decide +kernel
theorem dX3_resultOf_92 : decode cX3_resultOf 92 = .ok (.areturn, 1) := by decide +kernel
theorem dX3_letGo_0 : decode cX3_letGo 0 = .ok (.aload_n 1, 1) := by decide +kernel
theorem dX3_letGo_1 : decode cX3_letGo 1 = .ok (.iconst 1, 1) := by decide +kernel
theorem dX3_letGo_2 : decode cX3_letGo 2 = .ok (.putfield 71, 3) := by decide +kernel
theorem dX3_letGo_5 : decode cX3_letGo 5 = .ok (.iconst 0, 1) := by decide +kernel
theorem dX3_letGo_6 : decode cX3_letGo 6 = .ok (.istore_n 2, 1) := by decide +kernel
theorem dX3_letGo_7 : decode cX3_letGo 7 = .ok (.iload_n 2, 1) := by decide +kernel
theorem dX3_letGo_8 : decode cX3_letGo 8 = .ok (.aload_n 0, 1) := by decide +kernel
theorem dX3_letGo_9 : decode cX3_letGo 9 = .ok (.getfield 12, 3) := by decide +kernel
theorem dX3_letGo_12 : decode cX3_letGo 12 = .ok (.invokevirtual 18, 3) := by decide +kernel
theorem dX3_letGo_15 : decode cX3_letGo 15 = .ok (.if_icmp .ge 40, 3) := by decide +kernel
theorem dX3_letGo_18 : decode cX3_letGo 18 = .ok (.aload_n 0, 1) := by decide +kernel
theorem dX3_letGo_19 : decode cX3_letGo 19 = .ok (.getfield 12, 3) := by decide +kernel
theorem dX3_letGo_22 : decode cX3_letGo 22 = .ok (.iload_n 2, 1) := by decide +kernel
theorem dX3_letGo_23 : decode cX3_letGo 23 = .ok (.invokevirtual 22, 3) := by decide +kernel
theorem dX3_letGo_26 : decode cX3_letGo 26 = .ok (.checkcast 26, 3) := by decide +kernel
theorem dX3_letGo_29 : decode cX3_letGo 29 = .ok (.getfield 74, 3) := by decide +kernel
theorem dX3_letGo_32 : decode cX3_letGo 32 = .ok (.aload_n 1, 1) := by decide +kernel
theorem dX3_letGo_33 : decode cX3_letGo 33 = .ok (.getfield 74, 3) := by decide +kernel
theorem dX3_letGo_36 : decode cX3_letGo 36 = .ok (.if_icmp .ne 13, 3) := by decide +kernel
theorem dX3_letGo_39 : decode cX3_letGo 39 = .ok (.aload_n 0, 1) := by decide +kernel
theorem dX3_letGo_40 : decode cX3_letGo 40 = .ok (.getfield 12, 3) := by decide +kernel
theorem dX3_letGo_43 : decode cX3_letGo 43 = .ok (.iload_n 2, 1) := by decide +kernel
theorem dX3_letGo_44 : decode cX3_letGo 44 = .ok (.invokevirtual 77, 3) := by decide +kernel
theorem dX3_letGo_47 : decode cX3_letGo 47 = .ok (.pop, 1) := by decide +kernel
theorem dX3_letGo_48 : decode cX3_letGo 48 = .ok (.return_, 1) := by decide +kernel
theorem dX3_letGo_49 : decode cX3_letGo 49 = .ok (.iinc 2 1, 3) := by decide +kernel
theorem dX3_letGo_52 : decode cX3_letGo 52 = .ok (.goto (-45), 3) := by decide +kernel
theorem dX3_letGo_55 : decode cX3_letGo 55 = .ok (.return_, 1) := by decide +kernel
theorem dX3_copiesAt_0 : decode cX3_copiesAt 0 = .ok (.iconst 0, 1) := by decide +kernel
theorem dX3_copiesAt_1 : decode cX3_copiesAt 1 = .ok (.istore_n 2, 1) := by decide +kernel
theorem dX3_copiesAt_2 : decode cX3_copiesAt 2 = .ok (.iconst 0, 1) := by decide +kernel
theorem dX3_copiesAt_3 : decode cX3_copiesAt 3 = .ok (.istore_n 3, 1) := by decide +kernel
theorem dX3_copiesAt_4 : decode cX3_copiesAt 4 = .ok (.iload_n 3, 1) := by decide +kernel
theorem dX3_copiesAt_5 : decode cX3_copiesAt 5 = .ok (.aload_n 0, 1) := by decide +kernel
theorem dX3_copiesAt_6 : decode cX3_copiesAt 6 = .ok (.getfield 12, 3) := by decide +kernel
theorem dX3_copiesAt_9 : decode cX3_copiesAt 9 = .ok (.invokevirtual 18, 3) := by decide +kernel
theorem dX3_copiesAt_12 : decode cX3_copiesAt 12 = .ok (.if_icmp .ge 30, 3) := by decide +kernel
theorem dX3_copiesAt_15 : decode cX3_copiesAt 15 = .ok (.iload_n 2, 1) := by decide +kernel
theorem dX3_copiesAt_16 : decode cX3_copiesAt 16 = .ok (.aload_n 0, 1) := by decide +kernel
theorem dX3_copiesAt_17 : decode cX3_copiesAt 17 = .ok (.getfield 12, 3) := by decide +kernel
theorem dX3_copiesAt_20 : decode cX3_copiesAt 20 = .ok (.iload_n 3, 1) := by decide +kernel
theorem dX3_copiesAt_21 : decode cX3_copiesAt 21 = .ok (.invokevirtual 22, 3) := by decide +kernel
theorem dX3_copiesAt_24 : decode cX3_copiesAt 24 = .ok (.checkcast 26, 3) := by decide +kernel
theorem dX3_copiesAt_27 : decode cX3_copiesAt 27 = .ok (.getfield 80, 3) := by decide +kernel
theorem dX3_copiesAt_30 : decode cX3_copiesAt 30 = .ok (.iload_n 1, 1) := by decide +kernel
theorem dX3_copiesAt_31 : decode cX3_copiesAt 31 = .ok (.ishr, 1) := by decide +kernel
theorem dX3_copiesAt_32 : decode cX3_copiesAt 32 = .ok (.iconst 1, 1) := by decide +kernel
theorem dX3_copiesAt_33 : decode cX3_copiesAt 33 = .ok (.iand, 1) := by decide +kernel
theorem dX3_copiesAt_34 : decode cX3_copiesAt 34 = .ok (.iadd, 1) := by decide +kernel
theorem dX3_copiesAt_35 : decode cX3_copiesAt 35 = .ok (.istore_n 2, 1) := by decide +kernel
theorem dX3_copiesAt_36 : decode cX3_copiesAt 36 = .ok (.iinc 3 1, 3) := by decide +kernel
theorem dX3_copiesAt_39 : decode cX3_copiesAt 39 = .ok (.goto (-35), 3) := by decide +kernel
theorem dX3_copiesAt_42 : decode cX3_copiesAt 42 = .ok (.iload_n 2, 1) := by decide +kernel
theorem dX3_copiesAt_43 : decode cX3_copiesAt 43 = .ok (.ireturn, 1) := by decide +kernel
theorem dX4_init_0 : decode cX4_init 0 = .ok (.aload_n 0, 1) := by decide +kernel
theorem dX4_init_1 : decode cX4_init 1 = .ok (.invokespecial 1, 3) := by decide +kernel
theorem dX4_init_4 : decode cX4_init 4 = .ok (.aload_n 0, 1) := by decide +kernel
theorem dX4_init_5 : decode cX4_init 5 = .ok (.aload_n 1, 1) := by decide +kernel
theorem dX4_init_6 : decode cX4_init 6 = .ok (.putfield 7, 3) := by decide +kernel
theorem dX4_init_9 : decode cX4_init 9 = .ok (.aload_n 0, 1) := by decide +kernel
theorem dX4_init_10 : decode cX4_init 10 = .ok (.iload_n 2, 1) := by decide +kernel
theorem dX4_init_11 : decode cX4_init 11 = .ok (.putfield 13, 3) := by decide +kernel
theorem dX4_init_14 : decode cX4_init 14 = .ok (.aload_n 0, 1) := by decide +kernel
theorem dX4_init_15 : decode cX4_init 15 = .ok (.aload_n 3, 1) := by decide +kernel
theorem dX4_init_16 : decode cX4_init 16 = .ok (.putfield 17, 3) := by decide +kernel
theorem dX4_init_19 : decode cX4_init 19 = .ok (.aload_n 0, 1) := by decide +kernel
theorem dX4_init_20 : decode cX4_init 20 = .ok (.aload 4, 2) := by decide +kernel
theorem dX4_init_22 : decode cX4_init 22 = .ok (.putfield 21, 3) := by decide +kernel
theorem dX4_init_25 : decode cX4_init 25 = .ok (.return_, 1) := by decide +kernel
theorem dX5_init_0 : decode cX5_init 0 = .ok (.aload_n 0, 1) := by decide +kernel
theorem dX5_init_1 : decode cX5_init 1 = .ok (.invokespecial 3, 3) := by decide +kernel
theorem dX5_init_4 : decode cX5_init 4 = .ok (.aload_n 0, 1) := by decide +kernel
theorem dX5_init_5 : decode cX5_init 5 = .ok (.iconst (-1), 1) := by decide +kernel
theorem dX5_init_6 : decode cX5_init 6 = .ok (.putfield 9, 3) := by decide +kernel
theorem dX5_init_9 : decode cX5_init 9 = .ok (.aload_n 0, 1) := by decide +kernel
theorem dX5_init_10 : decode cX5_init 10 = .ok (.iconst (-1), 1) := by decide +kernel
theorem dX5_init_11 : decode cX5_init 11 = .ok (.putfield 15, 3) := by decide +kernel
theorem dX5_init_14 : decode cX5_init 14 = .ok (.aload_n 0, 1) := by decide +kernel
theorem dX5_init_15 : decode cX5_init 15 = .ok (.iconst (-1), 1) := by decide +kernel
theorem dX5_init_16 : decode cX5_init 16 = .ok (.putfield 18, 3) := by decide +kernel
theorem dX5_init_19 : decode cX5_init 19 = .ok (.aload_n 0, 1) := by decide +kernel
theorem dX5_init_20 : decode cX5_init 20 = .ok (.iload_n 1, 1) := by decide +kernel
theorem dX5_init_21 : decode cX5_init 21 = .ok (.putfield 21, 3) := by decide +kernel
theorem dX5_init_24 : decode cX5_init 24 = .ok (.aload_n 0, 1) := by decide +kernel
theorem dX5_init_25 : decode cX5_init 25 = .ok (.iload_n 1, 1) := by decide +kernel
theorem dX5_init_26 : decode cX5_init 26 = .ok (.iconst 2, 1) := by decide +kernel
theorem dX5_init_27 : decode cX5_init 27 = .ok (.if_icmp .ne 7, 3) := by decide +kernel
theorem dX5_init_30 : decode cX5_init 30 = .ok (.iconst 2, 1) := by decide +kernel
theorem dX5_init_31 : decode cX5_init 31 = .ok (.goto 4, 3) := by decide +kernel
theorem dX5_init_34 : decode cX5_init 34 = .ok (.iconst 1, 1) := by decide +kernel
theorem dX5_init_35 : decode cX5_init 35 = .ok (.putfield 24, 3) := by decide +kernel
theorem dX5_init_38 : decode cX5_init 38 = .ok (.aload_n 0, 1) := by decide +kernel
theorem dX5_init_39 : decode cX5_init 39 = .ok (.iload_n 1, 1) := by decide +kernel
theorem dX5_init_40 : decode cX5_init 40 = .ok (.iconst 2, 1) := by decide +kernel
theorem dX5_init_41 : decode cX5_init 41 = .ok (.if_icmp .eq 8, 3) := by decide +kernel
theorem dX5_init_44 : decode cX5_init 44 = .ok (.iload_n 1, 1) := by decide +kernel
theorem dX5_init_45 : decode cX5_init 45 = .ok (.iconst 3, 1) := by decide +kernel
theorem dX5_init_46 : decode cX5_init 46 = .ok (.if_icmp .ne 7, 3) := by decide +kernel
theorem dX5_init_49 : decode cX5_init 49 = .ok (.iconst 1, 1) := by decide +kernel
theorem dX5_init_50 : decode cX5_init 50 = .ok (.goto 4, 3) := by decide +kernel
theorem dX5_init_53 : decode cX5_init 53 = .ok (.iconst 0, 1) := by decide +kernel
theorem dX5_init_54 : decode cX5_init 54 = .ok (.putfield 27, 3) := by decide +kernel
theorem dX5_init_57 : decode cX5_init 57 = .ok (.aload_n 0, 1) := by decide +kernel
theorem dX5_init_58 : decode cX5_init 58 = .ok (.iload_n 1, 1) := by decide +kernel
theorem dX5_init_59 : decode cX5_init 59 = .ok (.iconst 4, 1) := by decide +kernel
theorem dX5_init_60 : decode cX5_init 60 = .ok (.if_icmp .eq 8, 3) := by decide +kernel
theorem dX5_init_63 : decode cX5_init 63 = .ok (.iload_n 1, 1) := by decide +kernel
theorem dX5_init_64 : decode cX5_init 64 = .ok (.iconst 1, 1) := by decide +kernel
theorem dX5_init_65 : decode cX5_init 65 = .ok (.if_icmp .ne 7, 3) := by decide +kernel
theorem dX5_init_68 : decode cX5_init 68 = .ok (.iconst 1, 1) := by decide +kernel
theorem dX5_init_69 : decode cX5_init 69 = .ok (.goto 4, 3) := by decide +kernel
theorem dX5_init_72 : decode cX5_init 72 = .ok (.iconst 0, 1) := by decide +kernel
theorem dX5_init_73 : decode cX5_init 73 = .ok (.putfield 31, 3) := by decide +kernel
theorem dX5_init_76 : decode cX5_init 76 = .ok (.return_, 1) := by decide +kernel
theorem dX5_digest_0 : decode cX5_digest 0 = .ok (.new 10, 3) := by decide +kernel
theorem dX5_digest_3 : decode cX5_digest 3 = .ok (.dup, 1) := by decide +kernel
theorem dX5_digest_4 : decode cX5_digest 4 = .ok (.iconst 0, 1) := by decide +kernel
theorem dX5_digest_5 : decode cX5_digest 5 = .ok (.invokespecial 34, 3) := by decide +kernel
theorem dX5_digest_8 : decode cX5_digest 8 = .ok (.astore_n 1, 1) := by decide +kernel
theorem dX5_digest_9 : decode cX5_digest 9 = .ok (.aload_n 1, 1) := by decide +kernel
theorem dX5_digest_10 : decode cX5_digest 10 = .ok (.iload_n 0, 1) := by decide +kernel
theorem dX5_digest_11 : decode cX5_digest 11 = .ok (.putfield 37, 3) := by decide +kernel
theorem dX5_digest_14 : decode cX5_digest 14 = .ok (.aload_n 1, 1) := by decide +kernel
theorem dX5_digest_15 : decode cX5_digest 15 = .ok (.areturn, 1) := by decide +kernel
theorem dX5_note_0 : decode cX5_note 0 = .ok (.new 10, 3) := by decide +kernel
theorem dX5_note_3 : decode cX5_note 3 = .ok (.dup, 1) := by decide +kernel
theorem dX5_note_4 : decode cX5_note 4 = .ok (.iconst 1, 1) := by decide +kernel
theorem dX5_note_5 : decode cX5_note 5 = .ok (.invokespecial 34, 3) := by decide +kernel
theorem dX5_note_8 : decode cX5_note 8 = .ok (.astore_n 2, 1) := by decide +kernel
theorem dX5_note_9 : decode cX5_note 9 = .ok (.aload_n 2, 1) := by decide +kernel
theorem dX5_note_10 : decode cX5_note 10 = .ok (.iload_n 0, 1) := by decide +kernel
theorem dX5_note_11 : decode cX5_note 11 = .ok (.putfield 9, 3) := by decide +kernel
theorem dX5_note_14 : decode cX5_note 14 = .ok (.aload_n 2, 1) := by decide +kernel
theorem dX5_note_15 : decode cX5_note 15 = .ok (.iload_n 1, 1) := by decide +kernel
theorem dX5_note_16 : decode cX5_note 16 = .ok (.putfield 40, 3) := by decide +kernel
theorem dX5_note_19 : decode cX5_note 19 = .ok (.aload_n 2, 1) := by decide +kernel
theorem dX5_note_20 : decode cX5_note 20 = .ok (.areturn, 1) := by decide +kernel
theorem dX5_object_0 : decode cX5_object 0 = .ok (.new 10, 3) := by decide +kernel
theorem dX5_object_3 : decode cX5_object 3 = .ok (.dup, 1) := by decide +kernel
theorem dX5_object_4 : decode cX5_object 4 = .ok (.iconst 2, 1) := by decide +kernel
theorem dX5_object_5 : decode cX5_object 5 = .ok (.invokespecial 34, 3) := by decide +kernel
theorem dX5_object_8 : decode cX5_object 8 = .ok (.astore_n 3, 1) := by decide +kernel
theorem dX5_object_9 : decode cX5_object 9 = .ok (.aload_n 3, 1) := by decide +kernel
theorem dX5_object_10 : decode cX5_object 10 = .ok (.iload_n 0, 1) := by decide +kernel
theorem dX5_object_11 : decode cX5_object 11 = .ok (.putfield 18, 3) := by decide +kernel
theorem dX5_object_14 : decode cX5_object 14 = .ok (.aload_n 3, 1) := by decide +kernel
theorem dX5_object_15 : decode cX5_object 15 = .ok (.iload_n 1, 1) := by decide +kernel
theorem dX5_object_16 : decode cX5_object 16 = .ok (.putfield 43, 3) := by decide +kernel
theorem dX5_object_19 : decode cX5_object 19 = .ok (.aload_n 3, 1) := by decide +kernel
theorem dX5_object_20 : decode cX5_object 20 = .ok (.iload_n 2, 1) := by decide +kernel
theorem dX5_object_21 : decode cX5_object 21 = .ok (.putfield 37, 3) := by decide +kernel
theorem dX5_object_24 : decode cX5_object 24 = .ok (.aload_n 3, 1) := by decide +kernel
theorem dX5_object_25 : decode cX5_object 25 = .ok (.areturn, 1) := by decide +kernel
theorem dX5_tomb_0 : decode cX5_tomb 0 = .ok (.new 10, 3) := by decide +kernel
theorem dX5_tomb_3 : decode cX5_tomb 3 = .ok (.dup, 1) := by decide +kernel
theorem dX5_tomb_4 : decode cX5_tomb 4 = .ok (.iconst 3, 1) := by decide +kernel
theorem dX5_tomb_5 : decode cX5_tomb 5 = .ok (.invokespecial 34, 3) := by decide +kernel
theorem dX5_tomb_8 : decode cX5_tomb 8 = .ok (.astore_n 2, 1) := by decide +kernel
theorem dX5_tomb_9 : decode cX5_tomb 9 = .ok (.aload_n 2, 1) := by decide +kernel
theorem dX5_tomb_10 : decode cX5_tomb 10 = .ok (.iload_n 0, 1) := by decide +kernel
theorem dX5_tomb_11 : decode cX5_tomb 11 = .ok (.putfield 18, 3) := by decide +kernel
theorem dX5_tomb_14 : decode cX5_tomb 14 = .ok (.aload_n 2, 1) := by decide +kernel
theorem dX5_tomb_15 : decode cX5_tomb 15 = .ok (.iload_n 1, 1) := by decide +kernel
theorem dX5_tomb_16 : decode cX5_tomb 16 = .ok (.putfield 37, 3) := by decide +kernel
theorem dX5_tomb_19 : decode cX5_tomb 19 = .ok (.aload_n 2, 1) := by decide +kernel
theorem dX5_tomb_20 : decode cX5_tomb 20 = .ok (.areturn, 1) := by decide +kernel
theorem dX5_result_0 : decode cX5_result 0 = .ok (.new 10, 3) := by decide +kernel
theorem dX5_result_3 : decode cX5_result 3 = .ok (.dup, 1) := by decide +kernel
theorem dX5_result_4 : decode cX5_result 4 = .ok (.iconst 4, 1) := by decide +kernel
theorem dX5_result_5 : decode cX5_result 5 = .ok (.invokespecial 34, 3) := by decide +kernel
theorem dX5_result_8 : decode cX5_result 8 = .ok (.astore_n 2, 1) := by decide +kernel
theorem dX5_result_9 : decode cX5_result 9 = .ok (.aload_n 2, 1) := by decide +kernel
theorem dX5_result_10 : decode cX5_result 10 = .ok (.aload_n 0, 1) := by decide +kernel
theorem dX5_result_11 : decode cX5_result 11 = .ok (.getfield 46, 3) := by decide +kernel
theorem dX5_result_14 : decode cX5_result 14 = .ok (.putfield 9, 3) := by decide +kernel
theorem dX5_result_17 : decode cX5_result 17 = .ok (.aload_n 2, 1) := by decide +kernel
theorem dX5_result_18 : decode cX5_result 18 = .ok (.aload_n 0, 1) := by decide +kernel
theorem dX5_result_19 : decode cX5_result 19 = .ok (.getfield 49, 3) := by decide +kernel
theorem dX5_result_22 : decode cX5_result 22 = .ok (.putfield 15, 3) := by decide +kernel
theorem dX5_result_25 : decode cX5_result 25 = .ok (.aload_n 2, 1) := by decide +kernel
theorem dX5_result_26 : decode cX5_result 26 = .ok (.aload_n 0, 1) := by decide +kernel
theorem dX5_result_27 : decode cX5_result 27 = .ok (.getfield 50, 3) := by decide +kernel
theorem dX5_result_30 : decode cX5_result 30 = .ok (.putfield 18, 3) := by decide +kernel
theorem dX5_result_33 : decode cX5_result 33 = .ok (.aload_n 2, 1) := by decide +kernel
theorem dX5_result_34 : decode cX5_result 34 = .ok (.iload_n 1, 1) := by decide +kernel
theorem dX5_result_35 : decode cX5_result 35 = .ok (.putfield 40, 3) := by decide +kernel
theorem dX5_result_38 : decode cX5_result 38 = .ok (.aload_n 2, 1) := by decide +kernel
theorem dX5_result_39 : decode cX5_result 39 = .ok (.areturn, 1) := by decide +kernel
theorem dX5_tell_0 : decode cX5_tell 0 = .ok (.aload_n 0, 1) := by decide +kernel
theorem dX5_tell_1 : decode cX5_tell 1 = .ok (.iload_n 1, 1) := by decide +kernel
theorem dX5_tell_2 : decode cX5_tell 2 = .ok (.putfield 51, 3) := by decide +kernel
theorem dX5_tell_5 : decode cX5_tell 5 = .ok (.aload_n 0, 1) := by decide +kernel
theorem dX5_tell_6 : decode cX5_tell 6 = .ok (.iload_n 2, 1) := by decide +kernel
theorem dX5_tell_7 : decode cX5_tell 7 = .ok (.putfield 43, 3) := by decide +kernel
theorem dX5_tell_10 : decode cX5_tell 10 = .ok (.aload_n 0, 1) := by decide +kernel
theorem dX5_tell_11 : decode cX5_tell 11 = .ok (.iload_n 3, 1) := by decide +kernel
theorem dX5_tell_12 : decode cX5_tell 12 = .ok (.putfield 37, 3) := by decide +kernel
theorem dX5_tell_15 : decode cX5_tell 15 = .ok (.return_, 1) := by decide +kernel
theorem dX6_init_0 : decode cX6_init 0 = .ok (.aload_n 0, 1) := by decide +kernel
theorem dX6_init_1 : decode cX6_init 1 = .ok (.invokespecial 1, 3) := by decide +kernel
theorem dX6_init_4 : decode cX6_init 4 = .ok (.aload_n 0, 1) := by decide +kernel
theorem dX6_init_5 : decode cX6_init 5 = .ok (.iload_n 1, 1) := by decide +kernel
theorem dX6_init_6 : decode cX6_init 6 = .ok (.putfield 7, 3) := by decide +kernel
theorem dX6_init_9 : decode cX6_init 9 = .ok (.aload_n 0, 1) := by decide +kernel
theorem dX6_init_10 : decode cX6_init 10 = .ok (.iload_n 2, 1) := by decide +kernel
theorem dX6_init_11 : decode cX6_init 11 = .ok (.putfield 13, 3) := by decide +kernel
theorem dX6_init_14 : decode cX6_init 14 = .ok (.aload_n 0, 1) := by decide +kernel
theorem dX6_init_15 : decode cX6_init 15 = .ok (.iload_n 3, 1) := by decide +kernel
theorem dX6_init_16 : decode cX6_init 16 = .ok (.putfield 16, 3) := by decide +kernel
theorem dX6_init_19 : decode cX6_init 19 = .ok (.aload_n 0, 1) := by decide +kernel
theorem dX6_init_20 : decode cX6_init 20 = .ok (.iload 4, 2) := by decide +kernel
theorem dX6_init_22 : decode cX6_init 22 = .ok (.putfield 19, 3) := by decide +kernel
theorem dX6_init_25 : decode cX6_init 25 = .ok (.aload_n 0, 1) := by decide +kernel
theorem dX6_init_26 : decode cX6_init 26 = .ok (.iload 5, 2) := by decide +kernel
theorem dX6_init_28 : decode cX6_init 28 = .ok (.putfield 22, 3) := by decide +kernel
theorem dX6_init_31 : decode cX6_init 31 = .ok (.aload_n 0, 1) := by decide +kernel
theorem dX6_init_32 : decode cX6_init 32 = .ok (.iload 6, 2) := by decide +kernel
theorem dX6_init_34 : decode cX6_init 34 = .ok (.putfield 25, 3) := by decide +kernel
theorem dX6_init_37 : decode cX6_init 37 = .ok (.return_, 1) := by decide +kernel
theorem dX7_init_0 : decode cX7_init 0 = .ok (.aload_n 0, 1) := by decide +kernel
theorem dX7_init_1 : decode cX7_init 1 = .ok (.invokespecial 3, 3) := by decide +kernel
theorem dX7_init_4 : decode cX7_init 4 = .ok (.aload_n 0, 1) := by decide +kernel
theorem dX7_init_5 : decode cX7_init 5 = .ok (.iload_n 1, 1) := by decide +kernel
theorem dX7_init_6 : decode cX7_init 6 = .ok (.putfield 9, 3) := by decide +kernel
theorem dX7_init_9 : decode cX7_init 9 = .ok (.aload_n 0, 1) := by decide +kernel
theorem dX7_init_10 : decode cX7_init 10 = .ok (.iload_n 2, 1) := by decide +kernel
theorem dX7_init_11 : decode cX7_init 11 = .ok (.anewarray 15, 3) := by decide +kernel
theorem dX7_init_14 : decode cX7_init 14 = .ok (.putfield 17, 3) := by decide +kernel
theorem dX7_init_17 : decode cX7_init 17 = .ok (.aload_n 0, 1) := by decide +kernel
theorem dX7_init_18 : decode cX7_init 18 = .ok (.iload_n 2, 1) := by decide +kernel
theorem dX7_init_19 : decode cX7_init 19 = .ok (.newarray .boolean, 2) := by decide +kernel
theorem dX7_init_21 : decode cX7_init 21 = .ok (.putfield 21, 3) := by decide +kernel
theorem dX7_init_24 : decode cX7_init 24 = .ok (.aload_n 0, 1) := by decide +kernel
theorem dX7_init_25 : decode cX7_init 25 = .ok (.iload_n 2, 1) := by decide +kernel
theorem dX7_init_26 : decode cX7_init 26 = .ok (.newarray .int, 2) := by decide +kernel
theorem dX7_init_28 : decode cX7_init 28 = .ok (.putfield 25, 3) := by decide +kernel
theorem dX7_init_31 : decode cX7_init 31 = .ok (.aload_n 0, 1) := by decide +kernel
theorem dX7_init_32 : decode cX7_init 32 = .ok (.iload_n 3, 1) := by decide +kernel
theorem dX7_init_33 : decode cX7_init 33 = .ok (.newarray .int, 2) := by decide +kernel
theorem dX7_init_35 : decode cX7_init 35 = .ok (.putfield 29, 3) := by decide +kernel
theorem dX7_init_38 : decode cX7_init 38 = .ok (.aload_n 0, 1) := by decide +kernel
theorem dX7_init_39 : decode cX7_init 39 = .ok (.iload_n 3, 1) := by decide +kernel
theorem dX7_init_40 : decode cX7_init 40 = .ok (.newarray .int, 2) := by decide +kernel
theorem dX7_init_42 : decode cX7_init 42 = .ok (.putfield 32, 3) := by decide +kernel
theorem dX7_init_45 : decode cX7_init 45 = .ok (.return_, 1) := by decide +kernel
theorem dX7_addHolder_0 : decode cX7_addHolder 0 = .ok (.aload_n 0, 1) := by decide +kernel
theorem dX7_addHolder_1 : decode cX7_addHolder 1 = .ok (.getfield 35, 3) := by decide +kernel
theorem dX7_addHolder_4 : decode cX7_addHolder 4 = .ok (.aload_n 0, 1) := by decide +kernel
theorem dX7_addHolder_5 : decode cX7_addHolder 5 = .ok (.getfield 29, 3) := by decide +kernel
theorem dX7_addHolder_8 : decode cX7_addHolder 8 = .ok (.arraylength, 1) := by decide +kernel
theorem dX7_addHolder_9 : decode cX7_addHolder 9 = .ok (.if_icmp .ge 48, 3) := by decide +kernel
theorem dX7_addHolder_12 : decode cX7_addHolder 12 = .ok (.aload_n 0, 1) := by decide +kernel
theorem dX7_addHolder_13 : decode cX7_addHolder 13 = .ok (.getfield 29, 3) := by decide +kernel
theorem dX7_addHolder_16 : decode cX7_addHolder 16 = .ok (.aload_n 0, 1) := by decide +kernel
theorem dX7_addHolder_17 : decode cX7_addHolder 17 = .ok (.getfield 35, 3) := by decide +kernel
theorem dX7_addHolder_20 : decode cX7_addHolder 20 = .ok (.iload_n 1, 1) := by decide +kernel
theorem dX7_addHolder_21 : decode cX7_addHolder 21 = .ok (.iastore, 1) := by decide +kernel
theorem dX7_addHolder_22 : decode cX7_addHolder 22 = .ok (.aload_n 0, 1) := by decide +kernel
theorem dX7_addHolder_23 : decode cX7_addHolder 23 = .ok (.getfield 32, 3) := by decide +kernel
theorem dX7_addHolder_26 : decode cX7_addHolder 26 = .ok (.aload_n 0, 1) := by decide +kernel
theorem dX7_addHolder_27 : decode cX7_addHolder 27 = .ok (.getfield 35, 3) := by decide +kernel
theorem dX7_addHolder_30 : decode cX7_addHolder 30 = .ok (.aload_n 0, 1) := by decide +kernel
theorem dX7_addHolder_31 : decode cX7_addHolder 31 = .ok (.getfield 38, 3) := by decide +kernel
theorem dX7_addHolder_34 : decode cX7_addHolder 34 = .ok (.iastore, 1) := by decide +kernel
theorem dX7_addHolder_35 : decode cX7_addHolder 35 = .ok (.aload_n 0, 1) := by decide +kernel
theorem dX7_addHolder_36 : decode cX7_addHolder 36 = .ok (.dup, 1) := by decide +kernel
theorem dX7_addHolder_37 : decode cX7_addHolder 37 = .ok (.getfield 35, 3) := by decide +kernel
theorem dX7_addHolder_40 : decode cX7_addHolder 40 = .ok (.iconst 1, 1) := by decide +kernel
theorem dX7_addHolder_41 : decode cX7_addHolder 41 = .ok (.iadd, 1) := by decide +kernel
theorem dX7_addHolder_42 : decode cX7_addHolder 42 = .ok (.putfield 35, 3) := by decide +kernel
theorem dX7_addHolder_45 : decode cX7_addHolder 45 = .ok (.aload_n 0, 1) := by decide +kernel
theorem dX7_addHolder_46 : decode cX7_addHolder 46 = .ok (.dup, 1) := by decide +kernel
theorem dX7_addHolder_47 : decode cX7_addHolder 47 = .ok (.getfield 41, 3) := by decide +kernel
theorem dX7_addHolder_50 : decode cX7_addHolder 50 = .ok (.iconst 1, 1) := by decide +kernel
theorem dX7_addHolder_51 : decode cX7_addHolder 51 = .ok (.iload_n 1, 1) := by decide +kernel
theorem dX7_addHolder_52 : decode cX7_addHolder 52 = .ok (.ishl, 1) := by decide +kernel
theorem dX7_addHolder_53 : decode cX7_addHolder 53 = .ok (.ior, 1) := by decide +kernel
theorem dX7_addHolder_54 : decode cX7_addHolder 54 = .ok (.putfield 41, 3) := by decide +kernel
theorem dX7_addHolder_57 : decode cX7_addHolder 57 = .ok (.return_, 1) := by decide +kernel
theorem dX7_addEntry_0 : decode cX7_addEntry 0 = .ok (.aload_n 1, 1) := by decide +kernel
theorem dX7_addEntry_1 : decode cX7_addEntry 1 = .ok (.ifnonnull 7, 3) := by decide +kernel
theorem dX7_addEntry_4 : decode cX7_addEntry 4 = .ok (.iconst 1, 1) := by decide +kernel
theorem dX7_addEntry_5 : decode cX7_addEntry 5 = .ok (.goto 4, 3) := by decide +kernel
theorem dX7_addEntry_8 : decode cX7_addEntry 8 = .ok (.iconst 2, 1) := by decide +kernel
theorem dX7_addEntry_9 : decode cX7_addEntry 9 = .ok (.istore 4, 2) := by decide +kernel
theorem dX7_addEntry_11 : decode cX7_addEntry 11 = .ok (.aload_n 0, 1) := by decide +kernel
theorem dX7_addEntry_12 : decode cX7_addEntry 12 = .ok (.getfield 44, 3) := by decide +kernel
theorem dX7_addEntry_15 : decode cX7_addEntry 15 = .ok (.iload 4, 2) := by decide +kernel
theorem dX7_addEntry_17 : decode cX7_addEntry 17 = .ok (.iadd, 1) := by decide +kernel
theorem dX7_addEntry_18 : decode cX7_addEntry 18 = .ok (.aload_n 0, 1) := by decide +kernel
theorem dX7_addEntry_19 : decode cX7_addEntry 19 = .ok (.getfield 17, 3) := by decide +kernel
theorem dX7_addEntry_22 : decode cX7_addEntry 22 = .ok (.arraylength, 1) := by decide +kernel
theorem dX7_addEntry_23 : decode cX7_addEntry 23 = .ok (.if_icmp .le 4, 3) := by decide +kernel
theorem dX7_addEntry_26 : decode cX7_addEntry 26 = .ok (.return_, 1) := by decide +kernel
theorem dX7_addEntry_27 : decode cX7_addEntry 27 = .ok (.aload_n 1, 1) := by decide +kernel
theorem dX7_addEntry_28 : decode cX7_addEntry 28 = .ok (.ifnull 36, 3) := by decide +kernel
theorem dX7_addEntry_31 : decode cX7_addEntry 31 = .ok (.aload_n 0, 1) := by decide +kernel
theorem dX7_addEntry_32 : decode cX7_addEntry 32 = .ok (.getfield 17, 3) := by decide +kernel
theorem dX7_addEntry_35 : decode cX7_addEntry 35 = .ok (.aload_n 0, 1) := by decide +kernel
theorem dX7_addEntry_36 : decode cX7_addEntry 36 = .ok (.getfield 44, 3) := by decide +kernel
theorem dX7_addEntry_39 : decode cX7_addEntry 39 = .ok (.aload_n 1, 1) := by decide +kernel
theorem dX7_addEntry_40 : decode cX7_addEntry 40 = .ok (.aastore, 1) := by decide +kernel
theorem dX7_addEntry_41 : decode cX7_addEntry 41 = .ok (.aload_n 0, 1) := by decide +kernel
theorem dX7_addEntry_42 : decode cX7_addEntry 42 = .ok (.dup, 1) := by decide +kernel
theorem dX7_addEntry_43 : decode cX7_addEntry 43 = .ok (.getfield 44, 3) := by decide +kernel
theorem dX7_addEntry_46 : decode cX7_addEntry 46 = .ok (.iconst 1, 1) := by decide +kernel
theorem dX7_addEntry_47 : decode cX7_addEntry 47 = .ok (.iadd, 1) := by decide +kernel
theorem dX7_addEntry_48 : decode cX7_addEntry 48 = .ok (.putfield 44, 3) := by decide +kernel
theorem dX7_addEntry_51 : decode cX7_addEntry 51 = .ok (.aload_n 0, 1) := by decide +kernel
theorem dX7_addEntry_52 : decode cX7_addEntry 52 = .ok (.dup, 1) := by decide +kernel
theorem dX7_addEntry_53 : decode cX7_addEntry 53 = .ok (.getfield 47, 3) := by decide +kernel
theorem dX7_addEntry_56 : decode cX7_addEntry 56 = .ok (.aload_n 1, 1) := by decide +kernel
theorem dX7_addEntry_57 : decode cX7_addEntry 57 = .ok (.getfield 50, 3) := by decide +kernel
theorem dX7_addEntry_60 : decode cX7_addEntry 60 = .ok (.iadd, 1) := by decide +kernel
theorem dX7_addEntry_61 : decode cX7_addEntry 61 = .ok (.putfield 47, 3) := by decide +kernel
theorem dX7_addEntry_64 : decode cX7_addEntry 64 = .ok (.aload_n 0, 1) := by decide +kernel
theorem dX7_addEntry_65 : decode cX7_addEntry 65 = .ok (.getfield 17, 3) := by decide +kernel
theorem dX7_addEntry_68 : decode cX7_addEntry 68 = .ok (.aload_n 0, 1) := by decide +kernel
theorem dX7_addEntry_69 : decode cX7_addEntry 69 = .ok (.getfield 44, 3) := by decide +kernel
theorem dX7_addEntry_72 : decode cX7_addEntry 72 = .ok (.aload_n 2, 1) := by decide +kernel
theorem dX7_addEntry_73 : decode cX7_addEntry 73 = .ok (.aastore, 1) := by decide +kernel
theorem dX7_addEntry_74 : decode cX7_addEntry 74 = .ok (.aload_n 0, 1) := by decide +kernel
theorem dX7_addEntry_75 : decode cX7_addEntry 75 = .ok (.dup, 1) := by decide +kernel
theorem dX7_addEntry_76 : decode cX7_addEntry 76 = .ok (.getfield 44, 3) := by decide +kernel
theorem dX7_addEntry_79 : decode cX7_addEntry 79 = .ok (.iconst 1, 1) := by decide +kernel
theorem dX7_addEntry_80 : decode cX7_addEntry 80 = .ok (.iadd, 1) := by decide +kernel
theorem dX7_addEntry_81 : decode cX7_addEntry 81 = .ok (.putfield 44, 3) := by decide +kernel
theorem dX7_addEntry_84 : decode cX7_addEntry 84 = .ok (.aload_n 0, 1) := by decide +kernel
theorem dX7_addEntry_85 : decode cX7_addEntry 85 = .ok (.dup, 1) := by decide +kernel
theorem dX7_addEntry_86 : decode cX7_addEntry 86 = .ok (.getfield 47, 3) := by decide +kernel
theorem dX7_addEntry_89 : decode cX7_addEntry 89 = .ok (.aload_n 2, 1) := by decide +kernel
theorem dX7_addEntry_90 : decode cX7_addEntry 90 = .ok (.getfield 50, 3) := by decide +kernel
theorem dX7_addEntry_93 : decode cX7_addEntry 93 = .ok (.iadd, 1) := by decide +kernel
theorem dX7_addEntry_94 : decode cX7_addEntry 94 = .ok (.putfield 47, 3) := by decide +kernel
theorem dX7_addEntry_97 : decode cX7_addEntry 97 = .ok (.aload_n 0, 1) := by decide +kernel
theorem dX7_addEntry_98 : decode cX7_addEntry 98 = .ok (.getfield 25, 3) := by decide +kernel
theorem dX7_addEntry_101 : decode cX7_addEntry 101 = .ok (.aload_n 0, 1) := by decide +kernel
theorem dX7_addEntry_102 : decode cX7_addEntry 102 = .ok (.getfield 38, 3) := by decide +kernel
theorem dX7_addEntry_105 : decode cX7_addEntry 105 = .ok (.aload_n 0, 1) := by decide +kernel
theorem dX7_addEntry_106 : decode cX7_addEntry 106 = .ok (.getfield 44, 3) := by decide +kernel
theorem dX7_addEntry_109 : decode cX7_addEntry 109 = .ok (.iastore, 1) := by decide +kernel
theorem dX7_addEntry_110 : decode cX7_addEntry 110 = .ok (.aload_n 0, 1) := by decide +kernel
theorem dX7_addEntry_111 : decode cX7_addEntry 111 = .ok (.dup, 1) := by decide +kernel
theorem dX7_addEntry_112 : decode cX7_addEntry 112 = .ok (.getfield 38, 3) := by decide +kernel
theorem dX7_addEntry_115 : decode cX7_addEntry 115 = .ok (.iconst 1, 1) := by decide +kernel
theorem dX7_addEntry_116 : decode cX7_addEntry 116 = .ok (.iadd, 1) := by decide +kernel
theorem dX7_addEntry_117 : decode cX7_addEntry 117 = .ok (.putfield 38, 3) := by decide +kernel
theorem dX7_addEntry_120 : decode cX7_addEntry 120 = .ok (.iconst 0, 1) := by decide +kernel
theorem dX7_addEntry_121 : decode cX7_addEntry 121 = .ok (.istore 5, 2) := by decide +kernel
theorem dX7_addEntry_123 : decode cX7_addEntry 123 = .ok (.iload 5, 2) := by decide +kernel
theorem dX7_addEntry_125 : decode cX7_addEntry 125 = .ok (.iload_n 3, 1) := by decide +kernel
theorem dX7_addEntry_126 : decode cX7_addEntry 126 = .ok (.if_icmp .ge 29, 3) := by decide +kernel
theorem dX7_addEntry_129 : decode cX7_addEntry 129 = .ok (.iload 5, 2) := by decide +kernel
theorem dX7_addEntry_131 : decode cX7_addEntry 131 = .ok (.aload_n 0, 1) := by decide +kernel
theorem dX7_addEntry_132 : decode cX7_addEntry 132 = .ok (.getfield 35, 3) := by decide +kernel
theorem dX7_addEntry_135 : decode cX7_addEntry 135 = .ok (.if_icmp .ge 20, 3) := by decide +kernel
theorem dX7_addEntry_138 : decode cX7_addEntry 138 = .ok (.aload_n 0, 1) := by decide +kernel
theorem dX7_addEntry_139 : decode cX7_addEntry 139 = .ok (.getfield 32, 3) := by decide +kernel
theorem dX7_addEntry_142 : decode cX7_addEntry 142 = .ok (.iload 5, 2) := by decide +kernel
theorem dX7_addEntry_144 : decode cX7_addEntry 144 = .ok (.aload_n 0, 1) := by decide +kernel
theorem dX7_addEntry_145 : decode cX7_addEntry 145 = .ok (.getfield 38, 3) := by decide +kernel
theorem dX7_addEntry_148 : decode cX7_addEntry 148 = .ok (.iastore, 1) := by decide +kernel
theorem dX7_addEntry_149 : decode cX7_addEntry 149 = .ok (.iinc 5 1, 3) := by decide +kernel
theorem dX7_addEntry_152 : decode cX7_addEntry 152 = .ok (.goto (-29), 3) := by decide +kernel
theorem dX7_addEntry_155 : decode cX7_addEntry 155 = .ok (.return_, 1) := by decide +kernel
theorem dX7_partsReadable_0 : decode cX7_partsReadable 0 = .ok (.iconst 0, 1) := by decide +kernel
theorem dX7_partsReadable_1 : decode cX7_partsReadable 1 = .ok (.istore_n 2, 1) := by decide +kernel
theorem dX7_partsReadable_2 : decode cX7_partsReadable 2 = .ok (.iconst 0, 1) := by decide +kernel
theorem dX7_partsReadable_3 : decode cX7_partsReadable 3 = .ok (.istore_n 3, 1) := by decide +kernel
theorem dX7_partsReadable_4 : decode cX7_partsReadable 4 = .ok (.iload_n 3, 1) := by decide +kernel
theorem dX7_partsReadable_5 : decode cX7_partsReadable 5 = .ok (.aload_n 0, 1) := by decide +kernel
theorem dX7_partsReadable_6 : decode cX7_partsReadable 6 = .ok (.getfield 35, 3) := by decide +kernel
theorem dX7_partsReadable_9 : decode cX7_partsReadable 9 = .ok (.if_icmp .ge 40, 3) := by decide +kernel
theorem dX7_partsReadable_12 : decode cX7_partsReadable 12 = .ok (.iload_n 1, 1) := by decide +kernel
theorem dX7_partsReadable_13 : decode cX7_partsReadable 13 = .ok (.aload_n 0, 1) := by decide +kernel
theorem dX7_partsReadable_14 : decode cX7_partsReadable 14 = .ok (.getfield 29, 3) := by decide +kernel
theorem dX7_partsReadable_17 : decode cX7_partsReadable 17 = .ok (.iload_n 3, 1) := by decide +kernel
theorem dX7_partsReadable_18 : decode cX7_partsReadable 18 = .ok (.iaload, 1) := by decide +kernel
theorem dX7_partsReadable_19 : decode cX7_partsReadable 19 = .ok (.ishr, 1) := by decide +kernel
theorem dX7_partsReadable_20 : decode cX7_partsReadable 20 = .ok (.iconst 1, 1) := by decide +kernel
theorem dX7_partsReadable_21 : decode cX7_partsReadable 21 = .ok (.iand, 1) := by decide +kernel
theorem dX7_partsReadable_22 : decode cX7_partsReadable 22 = .ok (.iconst 1, 1) := by decide +kernel
theorem dX7_partsReadable_23 : decode cX7_partsReadable 23 = .ok (.if_icmp .ne 20, 3) := by decide +kernel
theorem dX7_partsReadable_26 : decode cX7_partsReadable 26 = .ok (.aload_n 0, 1) := by decide +kernel
theorem dX7_partsReadable_27 : decode cX7_partsReadable 27 = .ok (.getfield 32, 3) := by decide +kernel
theorem dX7_partsReadable_30 : decode cX7_partsReadable 30 = .ok (.iload_n 3, 1) := by decide +kernel
theorem dX7_partsReadable_31 : decode cX7_partsReadable 31 = .ok (.iaload, 1) := by decide +kernel
theorem dX7_partsReadable_32 : decode cX7_partsReadable 32 = .ok (.iload_n 2, 1) := by decide +kernel
theorem dX7_partsReadable_33 : decode cX7_partsReadable 33 = .ok (.if_icmp .le 10, 3) := by decide +kernel
theorem dX7_partsReadable_36 : decode cX7_partsReadable 36 = .ok (.aload_n 0, 1) := by decide +kernel
theorem dX7_partsReadable_37 : decode cX7_partsReadable 37 = .ok (.getfield 32, 3) := by decide +kernel
theorem dX7_partsReadable_40 : decode cX7_partsReadable 40 = .ok (.iload_n 3, 1) := by decide +kernel
theorem dX7_partsReadable_41 : decode cX7_partsReadable 41 = .ok (.iaload, 1) := by decide +kernel
theorem dX7_partsReadable_42 : decode cX7_partsReadable 42 = .ok (.istore_n 2, 1) := by decide +kernel
theorem dX7_partsReadable_43 : decode cX7_partsReadable 43 = .ok (.iinc 3 1, 3) := by decide +kernel
theorem dX7_partsReadable_46 : decode cX7_partsReadable 46 = .ok (.goto (-42), 3) := by decide +kernel
theorem dX7_partsReadable_49 : decode cX7_partsReadable 49 = .ok (.iload_n 2, 1) := by decide +kernel
theorem dX7_partsReadable_50 : decode cX7_partsReadable 50 = .ok (.ifCond .ne 7, 3) := by decide +kernel
theorem dX7_partsReadable_53 : decode cX7_partsReadable 53 = .ok (.iconst 0, 1) := by decide +kernel
theorem dX7_partsReadable_54 : decode cX7_partsReadable 54 = .ok (.goto 11, 3) := by decide +kernel
theorem dX7_partsReadable_57 : decode cX7_partsReadable 57 = .ok (.aload_n 0, 1) := by decide +kernel
theorem dX7_partsReadable_58 : decode cX7_partsReadable 58 = .ok (.getfield 25, 3) := by decide +kernel
theorem dX7_partsReadable_61 : decode cX7_partsReadable 61 = .ok (.iload_n 2, 1) := by decide +kernel
theorem dX7_partsReadable_62 : decode cX7_partsReadable 62 = .ok (.iconst 1, 1) := by decide +kernel
theorem dX7_partsReadable_63 : decode cX7_partsReadable 63 = .ok (.isub, 1) := by decide +kernel
theorem dX7_partsReadable_64 : decode cX7_partsReadable 64 = .ok (.iaload, 1) := by decide +kernel
theorem dX7_partsReadable_65 : decode cX7_partsReadable 65 = .ok (.ireturn, 1) := by decide +kernel
theorem dX7_objectHere_0 : decode cX7_objectHere 0 = .ok (.aconst_null, 1) := by decide +kernel
theorem dX7_objectHere_1 : decode cX7_objectHere 1 = .ok (.astore_n 2, 1) := by decide +kernel
theorem dX7_objectHere_2 : decode cX7_objectHere 2 = .ok (.iconst 0, 1) := by decide +kernel
theorem dX7_objectHere_3 : decode cX7_objectHere 3 = .ok (.istore_n 3, 1) := by decide +kernel
theorem dX7_objectHere_4 : decode cX7_objectHere 4 = .ok (.iload_n 3, 1) := by decide +kernel
theorem dX7_objectHere_5 : decode cX7_objectHere 5 = .ok (.aload_n 0, 1) := by decide +kernel
theorem dX7_objectHere_6 : decode cX7_objectHere 6 = .ok (.getfield 44, 3) := by decide +kernel
theorem dX7_objectHere_9 : decode cX7_objectHere 9 = .ok (.if_icmp .ge 54, 3) := by decide +kernel
theorem dX7_objectHere_12 : decode cX7_objectHere 12 = .ok (.aload_n 0, 1) := by decide +kernel
theorem dX7_objectHere_13 : decode cX7_objectHere 13 = .ok (.getfield 17, 3) := by decide +kernel
theorem dX7_objectHere_16 : decode cX7_objectHere 16 = .ok (.iload_n 3, 1) := by decide +kernel
theorem dX7_objectHere_17 : decode cX7_objectHere 17 = .ok (.aaload, 1) := by decide +kernel
theorem dX7_objectHere_18 : decode cX7_objectHere 18 = .ok (.astore 4, 2) := by decide +kernel
theorem dX7_objectHere_20 : decode cX7_objectHere 20 = .ok (.aload 4, 2) := by decide +kernel
theorem dX7_objectHere_22 : decode cX7_objectHere 22 = .ok (.getfield 51, 3) := by decide +kernel
theorem dX7_objectHere_25 : decode cX7_objectHere 25 = .ok (.iconst 2, 1) := by decide +kernel
theorem dX7_objectHere_26 : decode cX7_objectHere 26 = .ok (.if_icmp .ne 31, 3) := by decide +kernel
theorem dX7_objectHere_29 : decode cX7_objectHere 29 = .ok (.aload 4, 2) := by decide +kernel
theorem dX7_objectHere_31 : decode cX7_objectHere 31 = .ok (.getfield 54, 3) := by decide +kernel
theorem dX7_objectHere_34 : decode cX7_objectHere 34 = .ok (.iload_n 1, 1) := by decide +kernel
theorem dX7_objectHere_35 : decode cX7_objectHere 35 = .ok (.if_icmp .ne 22, 3) := by decide +kernel
theorem dX7_objectHere_38 : decode cX7_objectHere 38 = .ok (.aload_n 2, 1) := by decide +kernel
theorem dX7_objectHere_39 : decode cX7_objectHere 39 = .ok (.ifnull 15, 3) := by decide +kernel
theorem dX7_objectHere_42 : decode cX7_objectHere 42 = .ok (.aload 4, 2) := by decide +kernel
theorem dX7_objectHere_44 : decode cX7_objectHere 44 = .ok (.getfield 57, 3) := by decide +kernel
theorem dX7_objectHere_47 : decode cX7_objectHere 47 = .ok (.aload_n 2, 1) := by decide +kernel
theorem dX7_objectHere_48 : decode cX7_objectHere 48 = .ok (.getfield 57, 3) := by decide +kernel
theorem dX7_objectHere_51 : decode cX7_objectHere 51 = .ok (.if_icmp .le 6, 3) := by decide +kernel
theorem dX7_objectHere_54 : decode cX7_objectHere 54 = .ok (.aload 4, 2) := by decide +kernel
theorem dX7_objectHere_56 : decode cX7_objectHere 56 = .ok (.astore_n 2, 1) := by decide +kernel
theorem dX7_objectHere_57 : decode cX7_objectHere 57 = .ok (.iinc 3 1, 3) := by decide +kernel
theorem dX7_objectHere_60 : decode cX7_objectHere 60 = .ok (.goto (-56), 3) := by decide +kernel
theorem dX7_objectHere_63 : decode cX7_objectHere 63 = .ok (.aload_n 2, 1) := by decide +kernel
theorem dX7_objectHere_64 : decode cX7_objectHere 64 = .ok (.areturn, 1) := by decide +kernel
theorem dX8_init_0 : decode cX8_init 0 = .ok (.aload_n 0, 1) := by decide +kernel
theorem dX8_init_1 : decode cX8_init 1 = .ok (.invokespecial 3, 3) := by decide +kernel
theorem dX8_init_4 : decode cX8_init 4 = .ok (.aload_n 0, 1) := by decide +kernel
theorem dX8_init_5 : decode cX8_init 5 = .ok (.iconst 0, 1) := by decide +kernel
theorem dX8_init_6 : decode cX8_init 6 = .ok (.putfield 9, 3) := by decide +kernel
theorem dX8_init_9 : decode cX8_init 9 = .ok (.aload_n 0, 1) := by decide +kernel
theorem dX8_init_10 : decode cX8_init 10 = .ok (.iconst (-1), 1) := by decide +kernel
theorem dX8_init_11 : decode cX8_init 11 = .ok (.putfield 15, 3) := by decide +kernel
theorem dX8_init_14 : decode cX8_init 14 = .ok (.aload_n 0, 1) := by decide +kernel
theorem dX8_init_15 : decode cX8_init 15 = .ok (.new 18, 3) := by decide +kernel
theorem dX8_init_18 : decode cX8_init 18 = .ok (.dup, 1) := by decide +kernel
theorem dX8_init_19 : decode cX8_init 19 = .ok (.invokespecial 20, 3) := by decide +kernel
theorem dX8_init_22 : decode cX8_init 22 = .ok (.putfield 21, 3) := by decide +kernel
theorem dX8_init_25 : decode cX8_init 25 = .ok (.aload_n 0, 1) := by decide +kernel
theorem dX8_init_26 : decode cX8_init 26 = .ok (.iload_n 1, 1) := by decide +kernel
theorem dX8_init_27 : decode cX8_init 27 = .ok (.putfield 25, 3) := by decide +kernel
theorem dX8_init_30 : decode cX8_init 30 = .ok (.return_, 1) := by decide +kernel
theorem dX8_empty_0 : decode cX8_empty 0 = .ok (.aload_n 0, 1) := by decide +kernel
theorem dX8_empty_1 : decode cX8_empty 1 = .ok (.iconst 0, 1) := by decide +kernel
theorem dX8_empty_2 : decode cX8_empty 2 = .ok (.putfield 28, 3) := by decide +kernel
theorem dX8_empty_5 : decode cX8_empty 5 = .ok (.aload_n 0, 1) := by decide +kernel
theorem dX8_empty_6 : decode cX8_empty 6 = .ok (.iconst 0, 1) := by decide +kernel
theorem dX8_empty_7 : decode cX8_empty 7 = .ok (.putfield 32, 3) := by decide +kernel
theorem dX8_empty_10 : decode cX8_empty 10 = .ok (.aload_n 0, 1) := by decide +kernel
theorem dX8_empty_11 : decode cX8_empty 11 = .ok (.iconst 0, 1) := by decide +kernel
theorem dX8_empty_12 : decode cX8_empty 12 = .ok (.putfield 35, 3) := by decide +kernel
theorem dX8_empty_15 : decode cX8_empty 15 = .ok (.aload_n 0, 1) := by decide +kernel
theorem dX8_empty_16 : decode cX8_empty 16 = .ok (.iconst (-1), 1) := by decide +kernel
theorem dX8_empty_17 : decode cX8_empty 17 = .ok (.putfield 15, 3) := by decide +kernel
theorem dX8_empty_20 : decode cX8_empty 20 = .ok (.aload_n 0, 1) := by decide +kernel
theorem dX8_empty_21 : decode cX8_empty 21 = .ok (.new 18, 3) := by decide +kernel
theorem dX8_empty_24 : decode cX8_empty 24 = .ok (.dup, 1) := by decide +kernel
theorem dX8_empty_25 : decode cX8_empty 25 = .ok (.invokespecial 20, 3) := by decide +kernel
theorem dX8_empty_28 : decode cX8_empty 28 = .ok (.putfield 21, 3) := by decide +kernel
theorem dX8_empty_31 : decode cX8_empty 31 = .ok (.return_, 1) := by decide +kernel
theorem dX9_init_0 : decode cX9_init 0 = .ok (.aload_n 0, 1) := by decide +kernel
theorem dX9_init_1 : decode cX9_init 1 = .ok (.invokespecial 3, 3) := by decide +kernel
theorem dX9_init_4 : decode cX9_init 4 = .ok (.aload_n 0, 1) := by decide +kernel
theorem dX9_init_5 : decode cX9_init 5 = .ok (.new 9, 3) := by decide +kernel
theorem dX9_init_8 : decode cX9_init 8 = .ok (.dup, 1) := by decide +kernel
theorem dX9_init_9 : decode cX9_init 9 = .ok (.invokespecial 11, 3) := by decide +kernel
theorem dX9_init_12 : decode cX9_init 12 = .ok (.putfield 12, 3) := by decide +kernel
theorem dX9_init_15 : decode cX9_init 15 = .ok (.aload_n 0, 1) := by decide +kernel
theorem dX9_init_16 : decode cX9_init 16 = .ok (.new 18, 3) := by decide +kernel
theorem dX9_init_19 : decode cX9_init 19 = .ok (.dup, 1) := by decide +kernel
theorem dX9_init_20 : decode cX9_init 20 = .ok (.invokespecial 20, 3) := by decide +kernel
theorem dX9_init_23 : decode cX9_init 23 = .ok (.putfield 21, 3) := by decide +kernel
theorem dX9_init_26 : decode cX9_init 26 = .ok (.aload_n 0, 1) := by decide +kernel
theorem dX9_init_27 : decode cX9_init 27 = .ok (.iload_n 2, 1) := by decide +kernel
theorem dX9_init_28 : decode cX9_init 28 = .ok (.putfield 25, 3) := by decide +kernel
theorem dX9_init_31 : decode cX9_init 31 = .ok (.aload_n 0, 1) := by decide +kernel
theorem dX9_init_32 : decode cX9_init 32 = .ok (.iload_n 3, 1) := by decide +kernel
theorem dX9_init_33 : decode cX9_init 33 = .ok (.putfield 29, 3) := by decide +kernel
theorem dX9_init_36 : decode cX9_init 36 = .ok (.aload_n 0, 1) := by decide +kernel
theorem dX9_init_37 : decode cX9_init 37 = .ok (.iload 4, 2) := by decide +kernel
theorem dX9_init_39 : decode cX9_init 39 = .ok (.putfield 32, 3) := by decide +kernel
theorem dX9_init_42 : decode cX9_init 42 = .ok (.aload_n 0, 1) := by decide +kernel
theorem dX9_init_43 : decode cX9_init 43 = .ok (.iload_n 1, 1) := by decide +kernel
theorem dX9_init_44 : decode cX9_init 44 = .ok (.anewarray 35, 3) := by decide +kernel
theorem dX9_init_47 : decode cX9_init 47 = .ok (.putfield 37, 3) := by decide +kernel
theorem dX9_init_50 : decode cX9_init 50 = .ok (.iconst 0, 1) := by decide +kernel
theorem dX9_init_51 : decode cX9_init 51 = .ok (.istore 5, 2) := by decide +kernel
theorem dX9_init_53 : decode cX9_init 53 = .ok (.iload 5, 2) := by decide +kernel
theorem dX9_init_55 : decode cX9_init 55 = .ok (.aload_n 0, 1) := by decide +kernel
theorem dX9_init_56 : decode cX9_init 56 = .ok (.getfield 37, 3) := by decide +kernel
theorem dX9_init_59 : decode cX9_init 59 = .ok (.arraylength, 1) := by decide +kernel
theorem dX9_init_60 : decode cX9_init 60 = .ok (.if_icmp .ge 38, 3) := by decide +kernel
theorem dX9_init_63 : decode cX9_init 63 = .ok (.aload_n 0, 1) := by decide +kernel
theorem dX9_init_64 : decode cX9_init 64 = .ok (.getfield 37, 3) := by decide +kernel
theorem dX9_init_67 : decode cX9_init 67 = .ok (.iload 5, 2) := by decide +kernel
theorem dX9_init_69 : decode cX9_init 69 = .ok (.new 35, 3) := by decide +kernel
theorem dX9_init_72 : decode cX9_init 72 = .ok (.dup, 1) := by decide +kernel
theorem dX9_init_73 : decode cX9_init 73 = .ok (.iload 5, 2) := by decide +kernel
theorem dX9_init_75 : decode cX9_init 75 = .ok (.invokespecial 41, 3) := by decide +kernel
theorem dX9_init_78 : decode cX9_init 78 = .ok (.aastore, 1) := by decide +kernel
theorem dX9_init_79 : decode cX9_init 79 = .ok (.aload_n 0, 1) := by decide +kernel
theorem dX9_init_80 : decode cX9_init 80 = .ok (.dup, 1) := by decide +kernel
theorem dX9_init_81 : decode cX9_init 81 = .ok (.getfield 44, 3) := by decide +kernel
theorem dX9_init_84 : decode cX9_init 84 = .ok (.iconst 1, 1) := by decide +kernel
theorem dX9_init_85 : decode cX9_init 85 = .ok (.iload 5, 2) := by decide +kernel
theorem dX9_init_87 : decode cX9_init 87 = .ok (.ishl, 1) := by decide +kernel
theorem dX9_init_88 : decode cX9_init 88 = .ok (.ior, 1) := by decide +kernel
theorem dX9_init_89 : decode cX9_init 89 = .ok (.putfield 44, 3) := by decide +kernel
theorem dX9_init_92 : decode cX9_init 92 = .ok (.iinc 5 1, 3) := by decide +kernel
theorem dX9_init_95 : decode cX9_init 95 = .ok (.goto (-42), 3) := by decide +kernel
theorem dX9_init_98 : decode cX9_init 98 = .ok (.return_, 1) := by decide +kernel
theorem dX9_setState_0 : decode cX9_setState 0 = .ok (.aload_n 1, 1) := by decide +kernel
theorem dX9_setState_1 : decode cX9_setState 1 = .ok (.iload_n 2, 1) := by decide +kernel
theorem dX9_setState_2 : decode cX9_setState 2 = .ok (.putfield 47, 3) := by decide +kernel
theorem dX9_setState_5 : decode cX9_setState 5 = .ok (.aload_n 0, 1) := by decide +kernel
theorem dX9_setState_6 : decode cX9_setState 6 = .ok (.dup, 1) := by decide +kernel
theorem dX9_setState_7 : decode cX9_setState 7 = .ok (.getfield 44, 3) := by decide +kernel
theorem dX9_setState_10 : decode cX9_setState 10 = .ok (.iconst 1, 1) := by decide +kernel
theorem dX9_setState_11 : decode cX9_setState 11 = .ok (.aload_n 1, 1) := by decide +kernel
theorem dX9_setState_12 : decode cX9_setState 12 = .ok (.getfield 50, 3) := by decide +kernel
theorem dX9_setState_15 : decode cX9_setState 15 = .ok (.ishl, 1) := by decide +kernel
theorem dX9_setState_16 : decode cX9_setState 16 = .ok (.iconst (-1), 1) := by decide +kernel
theorem dX9_setState_17 : decode cX9_setState 17 = .ok (.ixor, 1) := by decide +kernel
theorem dX9_setState_18 : decode cX9_setState 18 = .ok (.iand, 1) := by decide +kernel
theorem dX9_setState_19 : decode cX9_setState 19 = .ok (.putfield 44, 3) := by decide +kernel
theorem dX9_setState_22 : decode cX9_setState 22 = .ok (.iload_n 2, 1) := by decide +kernel
theorem dX9_setState_23 : decode cX9_setState 23 = .ok (.ifCond .ne 18, 3) := by decide +kernel
theorem dX9_setState_26 : decode cX9_setState 26 = .ok (.aload_n 0, 1) := by decide +kernel
theorem dX9_setState_27 : decode cX9_setState 27 = .ok (.dup, 1) := by decide +kernel
theorem dX9_setState_28 : decode cX9_setState 28 = .ok (.getfield 44, 3) := by decide +kernel
theorem dX9_setState_31 : decode cX9_setState 31 = .ok (.iconst 1, 1) := by decide +kernel
theorem dX9_setState_32 : decode cX9_setState 32 = .ok (.aload_n 1, 1) := by decide +kernel
theorem dX9_setState_33 : decode cX9_setState 33 = .ok (.getfield 50, 3) := by decide +kernel
theorem dX9_setState_36 : decode cX9_setState 36 = .ok (.ishl, 1) := by decide +kernel
theorem dX9_setState_37 : decode cX9_setState 37 = .ok (.ior, 1) := by decide +kernel
theorem dX9_setState_38 : decode cX9_setState 38 = .ok (.putfield 44, 3) := by decide +kernel
theorem dX9_setState_41 : decode cX9_setState 41 = .ok (.return_, 1) := by decide +kernel
theorem dX9_isUp_0 : decode cX9_isUp 0 = .ok (.aload_n 0, 1) := by decide +kernel
theorem dX9_isUp_1 : decode cX9_isUp 1 = .ok (.getfield 44, 3) := by decide +kernel
theorem dX9_isUp_4 : decode cX9_isUp 4 = .ok (.iload_n 1, 1) := by decide +kernel
theorem dX9_isUp_5 : decode cX9_isUp 5 = .ok (.ishr, 1) := by decide +kernel
theorem dX9_isUp_6 : decode cX9_isUp 6 = .ok (.iconst 1, 1) := by decide +kernel
theorem dX9_isUp_7 : decode cX9_isUp 7 = .ok (.iand, 1) := by decide +kernel
theorem dX9_isUp_8 : decode cX9_isUp 8 = .ok (.iconst 1, 1) := by decide +kernel
theorem dX9_isUp_9 : decode cX9_isUp 9 = .ok (.if_icmp .ne 7, 3) := by decide +kernel
theorem dX9_isUp_12 : decode cX9_isUp 12 = .ok (.iconst 1, 1) := by decide +kernel
theorem dX9_isUp_13 : decode cX9_isUp 13 = .ok (.goto 4, 3) := by decide +kernel
theorem dX9_isUp_16 : decode cX9_isUp 16 = .ok (.iconst 0, 1) := by decide +kernel
theorem dX9_isUp_17 : decode cX9_isUp 17 = .ok (.ireturn, 1) := by decide +kernel
theorem dX9_allHoldersUp_0 : decode cX9_allHoldersUp 0 = .ok (.aload_n 1, 1) := by decide +kernel
theorem dX9_allHoldersUp_1 : decode cX9_allHoldersUp 1 = .ok (.getfield 53, 3) := by decide +kernel
theorem dX9_allHoldersUp_4 : decode cX9_allHoldersUp 4 = .ok (.aload_n 0, 1) := by decide +kernel
theorem dX9_allHoldersUp_5 : decode cX9_allHoldersUp 5 = .ok (.getfield 44, 3) := by decide +kernel
theorem dX9_allHoldersUp_8 : decode cX9_allHoldersUp 8 = .ok (.iconst (-1), 1) := by decide +kernel
theorem dX9_allHoldersUp_9 : decode cX9_allHoldersUp 9 = .ok (.ixor, 1) := by decide +kernel
theorem dX9_allHoldersUp_10 : decode cX9_allHoldersUp 10 = .ok (.iand, 1) := by decide +kernel
theorem dX9_allHoldersUp_11 : decode cX9_allHoldersUp 11 = .ok (.ifCond .ne 7, 3) := by decide +kernel
theorem dX9_allHoldersUp_14 : decode cX9_allHoldersUp 14 = .ok (.iconst 1, 1) := by decide +kernel
theorem dX9_allHoldersUp_15 : decode cX9_allHoldersUp 15 = .ok (.goto 4, 3) := by decide +kernel
theorem dX9_allHoldersUp_18 : decode cX9_allHoldersUp 18 = .ok (.iconst 0, 1) := by decide +kernel
theorem dX9_allHoldersUp_19 : decode cX9_allHoldersUp 19 = .ok (.ireturn, 1) := by decide +kernel
theorem dX9_ringAt_0 : decode cX9_ringAt 0 = .ok (.bipush 7, 2) := by decide +kernel
theorem dX9_ringAt_2 : decode cX9_ringAt 2 = .ok (.iload_n 1, 1) := by decide +kernel
theorem dX9_ringAt_3 : decode cX9_ringAt 3 = .ok (.imul, 1) := by decide +kernel
theorem dX9_ringAt_4 : decode cX9_ringAt 4 = .ok (.iconst 3, 1) := by decide +kernel
theorem dX9_ringAt_5 : decode cX9_ringAt 5 = .ok (.aload_n 2, 1) := by decide +kernel
theorem dX9_ringAt_6 : decode cX9_ringAt 6 = .ok (.getfield 50, 3) := by decide +kernel
theorem dX9_ringAt_9 : decode cX9_ringAt 9 = .ok (.imul, 1) := by decide +kernel
theorem dX9_ringAt_10 : decode cX9_ringAt 10 = .ok (.iadd, 1) := by decide +kernel
theorem dX9_ringAt_11 : decode cX9_ringAt 11 = .ok (.iload_n 3, 1) := by decide +kernel
theorem dX9_ringAt_12 : decode cX9_ringAt 12 = .ok (.iadd, 1) := by decide +kernel
theorem dX9_ringAt_13 : decode cX9_ringAt 13 = .ok (.aload_n 0, 1) := by decide +kernel
theorem dX9_ringAt_14 : decode cX9_ringAt 14 = .ok (.getfield 37, 3) := by decide +kernel
theorem dX9_ringAt_17 : decode cX9_ringAt 17 = .ok (.arraylength, 1) := by decide +kernel
theorem dX9_ringAt_18 : decode cX9_ringAt 18 = .ok (.irem, 1) := by decide +kernel
theorem dX9_ringAt_19 : decode cX9_ringAt 19 = .ok (.ireturn, 1) := by decide +kernel
theorem dX9_makeRoom_0 : decode cX9_makeRoom 0 = .ok (.aload_n 1, 1) := by decide +kernel
theorem dX9_makeRoom_1 : decode cX9_makeRoom 1 = .ok (.getfield 58, 3) := by decide +kernel
theorem dX9_makeRoom_4 : decode cX9_makeRoom 4 = .ok (.getfield 62, 3) := by decide +kernel
theorem dX9_makeRoom_7 : decode cX9_makeRoom 7 = .ok (.astore 4, 2) := by decide +kernel
theorem dX9_makeRoom_9 : decode cX9_makeRoom 9 = .ok (.aload 4, 2) := by decide +kernel
theorem dX9_makeRoom_11 : decode cX9_makeRoom 11 = .ok (.ifnull 28, 3) := by decide +kernel
theorem dX9_makeRoom_14 : decode cX9_makeRoom 14 = .ok (.aload_n 0, 1) := by decide +kernel
theorem dX9_makeRoom_15 : decode cX9_makeRoom 15 = .ok (.aload 4, 2) := by decide +kernel
theorem dX9_makeRoom_17 : decode cX9_makeRoom 17 = .ok (.invokevirtual 68, 3) := by decide +kernel
theorem dX9_makeRoom_20 : decode cX9_makeRoom 20 = .ok (.ifCond .eq 19, 3) := by decide +kernel
theorem dX9_makeRoom_23 : decode cX9_makeRoom 23 = .ok (.aload 4, 2) := by decide +kernel
theorem dX9_makeRoom_25 : decode cX9_makeRoom 25 = .ok (.getfield 72, 3) := by decide +kernel
theorem dX9_makeRoom_28 : decode cX9_makeRoom 28 = .ok (.iload_n 2, 1) := by decide +kernel
theorem dX9_makeRoom_29 : decode cX9_makeRoom 29 = .ok (.iadd, 1) := by decide +kernel
theorem dX9_makeRoom_30 : decode cX9_makeRoom 30 = .ok (.aload_n 0, 1) := by decide +kernel
theorem dX9_makeRoom_31 : decode cX9_makeRoom 31 = .ok (.getfield 29, 3) := by decide +kernel
theorem dX9_makeRoom_34 : decode cX9_makeRoom 34 = .ok (.if_icmp .gt 5, 3) := by decide +kernel
theorem dX9_makeRoom_37 : decode cX9_makeRoom 37 = .ok (.iconst 1, 1) := by decide +kernel
theorem dX9_makeRoom_38 : decode cX9_makeRoom 38 = .ok (.ireturn, 1) := by decide +kernel
theorem dX9_makeRoom_39 : decode cX9_makeRoom 39 = .ok (.aload_n 0, 1) := by decide +kernel
theorem dX9_makeRoom_40 : decode cX9_makeRoom 40 = .ok (.aload_n 1, 1) := by decide +kernel
theorem dX9_makeRoom_41 : decode cX9_makeRoom 41 = .ok (.iload_n 3, 1) := by decide +kernel
theorem dX9_makeRoom_42 : decode cX9_makeRoom 42 = .ok (.invokevirtual 73, 3) := by decide +kernel
theorem dX9_makeRoom_45 : decode cX9_makeRoom 45 = .ok (.ireturn, 1) := by decide +kernel
theorem dX9_open_0 : decode cX9_open 0 = .ok (.aload_n 0, 1) := by decide +kernel
theorem dX9_open_1 : decode cX9_open 1 = .ok (.getfield 77, 3) := by decide +kernel
theorem dX9_open_4 : decode cX9_open 4 = .ok (.ifCond .ne 26, 3) := by decide +kernel
theorem dX9_open_7 : decode cX9_open 7 = .ok (.aload_n 0, 1) := by decide +kernel
theorem dX9_open_8 : decode cX9_open 8 = .ok (.getfield 44, 3) := by decide +kernel
theorem dX9_open_11 : decode cX9_open 11 = .ok (.iconst 1, 1) := by decide +kernel
theorem dX9_open_12 : decode cX9_open 12 = .ok (.aload_n 1, 1) := by decide +kernel
theorem dX9_open_13 : decode cX9_open 13 = .ok (.getfield 50, 3) := by decide +kernel
theorem dX9_open_16 : decode cX9_open 16 = .ok (.ishl, 1) := by decide +kernel
theorem dX9_open_17 : decode cX9_open 17 = .ok (.iconst (-1), 1) := by decide +kernel
theorem dX9_open_18 : decode cX9_open 18 = .ok (.ixor, 1) := by decide +kernel
theorem dX9_open_19 : decode cX9_open 19 = .ok (.iand, 1) := by decide +kernel
theorem dX9_open_20 : decode cX9_open 20 = .ok (.invokestatic 81, 3) := by decide +kernel
theorem dX9_open_23 : decode cX9_open 23 = .ok (.aload_n 0, 1) := by decide +kernel
theorem dX9_open_24 : decode cX9_open 24 = .ok (.getfield 25, 3) := by decide +kernel
theorem dX9_open_27 : decode cX9_open 27 = .ok (.if_icmp .ge 5, 3) := by decide +kernel
theorem dX9_open_30 : decode cX9_open 30 = .ok (.iconst 0, 1) := by decide +kernel
theorem dX9_open_31 : decode cX9_open 31 = .ok (.ireturn, 1) := by decide +kernel
theorem dX9_open_32 : decode cX9_open 32 = .ok (.aload_n 1, 1) := by decide +kernel
theorem dX9_open_33 : decode cX9_open 33 = .ok (.getfield 58, 3) := by decide +kernel
theorem dX9_open_36 : decode cX9_open 36 = .ok (.astore_n 3, 1) := by decide +kernel
theorem dX9_open_37 : decode cX9_open 37 = .ok (.aload_n 3, 1) := by decide +kernel
theorem dX9_open_38 : decode cX9_open 38 = .ok (.aconst_null, 1) := by decide +kernel
theorem dX9_open_39 : decode cX9_open 39 = .ok (.putfield 62, 3) := by decide +kernel
theorem dX9_open_42 : decode cX9_open 42 = .ok (.aload_n 3, 1) := by decide +kernel
theorem dX9_open_43 : decode cX9_open 43 = .ok (.getfield 87, 3) := by decide +kernel
theorem dX9_open_46 : decode cX9_open 46 = .ok (.invokevirtual 90, 3) := by decide +kernel
theorem dX9_open_49 : decode cX9_open 49 = .ok (.aload_n 0, 1) := by decide +kernel
theorem dX9_open_50 : decode cX9_open 50 = .ok (.getfield 32, 3) := by decide +kernel
theorem dX9_open_53 : decode cX9_open 53 = .ok (.iconst 1, 1) := by decide +kernel
theorem dX9_open_54 : decode cX9_open 54 = .ok (.isub, 1) := by decide +kernel
theorem dX9_open_55 : decode cX9_open 55 = .ok (.if_icmp .lt 8, 3) := by decide +kernel
theorem dX9_open_58 : decode cX9_open 58 = .ok (.aload_n 0, 1) := by decide +kernel
theorem dX9_open_59 : decode cX9_open 59 = .ok (.aload_n 1, 1) := by decide +kernel
theorem dX9_open_60 : decode cX9_open 60 = .ok (.invokevirtual 94, 3) := by decide +kernel
theorem dX9_open_63 : decode cX9_open 63 = .ok (.iload_n 2, 1) := by decide +kernel
theorem dX9_open_64 : decode cX9_open 64 = .ok (.ifCond .eq 19, 3) := by decide +kernel
theorem dX9_open_67 : decode cX9_open 67 = .ok (.aload_n 3, 1) := by decide +kernel
theorem dX9_open_68 : decode cX9_open 68 = .ok (.getfield 87, 3) := by decide +kernel
theorem dX9_open_71 : decode cX9_open 71 = .ok (.invokevirtual 90, 3) := by decide +kernel
theorem dX9_open_74 : decode cX9_open 74 = .ok (.aload_n 0, 1) := by decide +kernel
theorem dX9_open_75 : decode cX9_open 75 = .ok (.getfield 32, 3) := by decide +kernel
theorem dX9_open_78 : decode cX9_open 78 = .ok (.if_icmp .lt 5, 3) := by decide +kernel
theorem dX9_open_81 : decode cX9_open 81 = .ok (.iconst 0, 1) := by decide +kernel
theorem dX9_open_82 : decode cX9_open 82 = .ok (.ireturn, 1) := by decide +kernel
theorem dX9_open_83 : decode cX9_open 83 = .ok (.aload_n 0, 1) := by decide +kernel
theorem dX9_open_84 : decode cX9_open 84 = .ok (.aload_n 1, 1) := by decide +kernel
theorem dX9_open_85 : decode cX9_open 85 = .ok (.invokevirtual 98, 3) := by decide +kernel
theorem dX9_open_88 : decode cX9_open 88 = .ok (.astore 4, 2) := by decide +kernel
theorem dX9_open_90 : decode cX9_open 90 = .ok (.aload 4, 2) := by decide +kernel
theorem dX9_open_92 : decode cX9_open 92 = .ok (.aconst_null, 1) := by decide +kernel
theorem dX9_open_93 : decode cX9_open 93 = .ok (.aload_n 1, 1) := by decide +kernel
theorem dX9_open_94 : decode cX9_open 94 = .ok (.getfield 102, 3) := by decide +kernel
theorem dX9_open_97 : decode cX9_open 97 = .ok (.invokestatic 105, 3) := by decide +kernel
theorem dX9_open_100 : decode cX9_open 100 = .ok (.aload 4, 2) := by decide +kernel
theorem dX9_open_102 : decode cX9_open 102 = .ok (.getfield 111, 3) := by decide +kernel
theorem dX9_open_105 : decode cX9_open 105 = .ok (.invokevirtual 114, 3) := by decide +kernel
theorem dX9_open_108 : decode cX9_open 108 = .ok (.aload_n 3, 1) := by decide +kernel
theorem dX9_open_109 : decode cX9_open 109 = .ok (.getfield 87, 3) := by decide +kernel
theorem dX9_open_112 : decode cX9_open 112 = .ok (.aload 4, 2) := by decide +kernel
theorem dX9_open_114 : decode cX9_open 114 = .ok (.invokevirtual 118, 3) := by decide +kernel
theorem dX9_open_117 : decode cX9_open 117 = .ok (.pop, 1) := by decide +kernel
theorem dX9_open_118 : decode cX9_open 118 = .ok (.aload_n 3, 1) := by decide +kernel
theorem dX9_open_119 : decode cX9_open 119 = .ok (.aload 4, 2) := by decide +kernel
theorem dX9_open_121 : decode cX9_open 121 = .ok (.putfield 62, 3) := by decide +kernel
theorem dX9_open_124 : decode cX9_open 124 = .ok (.aload_n 3, 1) := by decide +kernel
theorem dX9_open_125 : decode cX9_open 125 = .ok (.aload 4, 2) := by decide +kernel
theorem dX9_open_127 : decode cX9_open 127 = .ok (.putfield 122, 3) := by decide +kernel
theorem dX9_open_130 : decode cX9_open 130 = .ok (.iconst 1, 1) := by decide +kernel
theorem dX9_open_131 : decode cX9_open 131 = .ok (.ireturn, 1) := by decide +kernel
theorem dX9_newSegment_0 : decode cX9_newSegment 0 = .ok (.new 54, 3) := by decide +kernel
theorem dX9_newSegment_3 : decode cX9_newSegment 3 = .ok (.dup, 1) := by decide +kernel
theorem dX9_newSegment_4 : decode cX9_newSegment 4 = .ok (.aload_n 0, 1) := by decide +kernel
theorem dX9_newSegment_5 : decode cX9_newSegment 5 = .ok (.getfield 125, 3) := by decide +kernel
theorem dX9_newSegment_8 : decode cX9_newSegment 8 = .ok (.aload_n 0, 1) := by decide +kernel
theorem dX9_newSegment_9 : decode cX9_newSegment 9 = .ok (.getfield 29, 3) := by decide +kernel
theorem dX9_newSegment_12 : decode cX9_newSegment 12 = .ok (.aload_n 0, 1) := by decide +kernel
theorem dX9_newSegment_13 : decode cX9_newSegment 13 = .ok (.getfield 37, 3) := by decide +kernel
theorem dX9_newSegment_16 : decode cX9_newSegment 16 = .ok (.arraylength, 1) := by decide +kernel
theorem dX9_newSegment_17 : decode cX9_newSegment 17 = .ok (.invokespecial 128, 3) := by decide +kernel
theorem dX9_newSegment_20 : decode cX9_newSegment 20 = .ok (.astore_n 2, 1) := by decide +kernel
theorem dX9_newSegment_21 : decode cX9_newSegment 21 = .ok (.aload_n 0, 1) := by decide +kernel
theorem dX9_newSegment_22 : decode cX9_newSegment 22 = .ok (.dup, 1) := by decide +kernel
theorem dX9_newSegment_23 : decode cX9_newSegment 23 = .ok (.getfield 125, 3) := by decide +kernel
theorem dX9_newSegment_26 : decode cX9_newSegment 26 = .ok (.iconst 1, 1) := by decide +kernel
theorem dX9_newSegment_27 : decode cX9_newSegment 27 = .ok (.iadd, 1) := by decide +kernel
theorem dX9_newSegment_28 : decode cX9_newSegment 28 = .ok (.putfield 125, 3) := by decide +kernel
theorem dX9_newSegment_31 : decode cX9_newSegment 31 = .ok (.iconst 0, 1) := by decide +kernel
theorem dX9_newSegment_32 : decode cX9_newSegment 32 = .ok (.istore_n 3, 1) := by decide +kernel
theorem dX9_newSegment_33 : decode cX9_newSegment 33 = .ok (.iload_n 3, 1) := by decide +kernel
theorem dX9_newSegment_34 : decode cX9_newSegment 34 = .ok (.aload_n 0, 1) := by decide +kernel
theorem dX9_newSegment_35 : decode cX9_newSegment 35 = .ok (.getfield 37, 3) := by decide +kernel
theorem dX9_newSegment_38 : decode cX9_newSegment 38 = .ok (.arraylength, 1) := by decide +kernel
theorem dX9_newSegment_39 : decode cX9_newSegment 39 = .ok (.if_icmp .ge 56, 3) := by decide +kernel
theorem dX9_newSegment_42 : decode cX9_newSegment 42 = .ok (.aload_n 2, 1) := by decide +kernel
theorem dX9_newSegment_43 : decode cX9_newSegment 43 = .ok (.getfield 111, 3) := by decide +kernel
theorem dX9_newSegment_46 : decode cX9_newSegment 46 = .ok (.aload_n 0, 1) := by decide +kernel
theorem dX9_newSegment_47 : decode cX9_newSegment 47 = .ok (.getfield 25, 3) := by decide +kernel
theorem dX9_newSegment_50 : decode cX9_newSegment 50 = .ok (.if_icmp .ge 45, 3) := by decide +kernel
theorem dX9_newSegment_53 : decode cX9_newSegment 53 = .ok (.aload_n 0, 1) := by decide +kernel
theorem dX9_newSegment_54 : decode cX9_newSegment 54 = .ok (.aload_n 2, 1) := by decide +kernel
theorem dX9_newSegment_55 : decode cX9_newSegment 55 = .ok (.getfield 131, 3) := by decide +kernel
theorem dX9_newSegment_58 : decode cX9_newSegment 58 = .ok (.aload_n 1, 1) := by decide +kernel
theorem dX9_newSegment_59 : decode cX9_newSegment 59 = .ok (.iload_n 3, 1) := by decide +kernel
theorem dX9_newSegment_60 : decode cX9_newSegment 60 = .ok (.invokevirtual 134, 3) := by decide +kernel
theorem dX9_newSegment_63 : decode cX9_newSegment 63 = .ok (.istore 4, 2) := by decide +kernel
theorem dX9_newSegment_65 : decode cX9_newSegment 65 = .ok (.iload 4, 2) := by decide +kernel
theorem dX9_newSegment_67 : decode cX9_newSegment 67 = .ok (.aload_n 1, 1) := by decide +kernel
theorem dX9_newSegment_68 : decode cX9_newSegment 68 = .ok (.getfield 50, 3) := by decide +kernel
theorem dX9_newSegment_71 : decode cX9_newSegment 71 = .ok (.if_icmp .eq 18, 3) := by decide +kernel
theorem dX9_newSegment_74 : decode cX9_newSegment 74 = .ok (.aload_n 0, 1) := by decide +kernel
theorem dX9_newSegment_75 : decode cX9_newSegment 75 = .ok (.iload 4, 2) := by decide +kernel
theorem dX9_newSegment_77 : decode cX9_newSegment 77 = .ok (.invokevirtual 138, 3) := by decide +kernel
theorem dX9_newSegment_80 : decode cX9_newSegment 80 = .ok (.ifCond .eq 9, 3) := by decide +kernel
theorem dX9_newSegment_83 : decode cX9_newSegment 83 = .ok (.aload_n 2, 1) := by decide +kernel
theorem dX9_newSegment_84 : decode cX9_newSegment 84 = .ok (.iload 4, 2) := by decide +kernel
theorem dX9_newSegment_86 : decode cX9_newSegment 86 = .ok (.invokevirtual 142, 3) := by decide +kernel
theorem dX9_newSegment_89 : decode cX9_newSegment 89 = .ok (.iinc 3 1, 3) := by decide +kernel
theorem dX9_newSegment_92 : decode cX9_newSegment 92 = .ok (.goto (-59), 3) := by decide +kernel
theorem dX9_newSegment_95 : decode cX9_newSegment 95 = .ok (.aload_n 2, 1) := by decide +kernel
theorem dX9_newSegment_96 : decode cX9_newSegment 96 = .ok (.areturn, 1) := by decide +kernel
theorem dX9_clean_0 : decode cX9_clean 0 = .ok (.aload_n 1, 1) := by decide +kernel
theorem dX9_clean_1 : decode cX9_clean 1 = .ok (.getfield 58, 3) := by decide +kernel
theorem dX9_clean_4 : decode cX9_clean 4 = .ok (.astore_n 2, 1) := by decide +kernel
theorem dX9_clean_5 : decode cX9_clean 5 = .ok (.aload_n 0, 1) := by decide +kernel
theorem dX9_clean_6 : decode cX9_clean 6 = .ok (.getfield 12, 3) := by decide +kernel
theorem dX9_clean_9 : decode cX9_clean 9 = .ok (.aload_n 2, 1) := by decide +kernel
theorem dX9_clean_10 : decode cX9_clean 10 = .ok (.invokevirtual 145, 3) := by decide +kernel
theorem dX9_clean_13 : decode cX9_clean 13 = .ok (.aload_n 0, 1) := by decide +kernel
theorem dX9_clean_14 : decode cX9_clean 14 = .ok (.aload_n 2, 1) := by decide +kernel
theorem dX9_clean_15 : decode cX9_clean 15 = .ok (.invokevirtual 149, 3) := by decide +kernel
theorem dX9_clean_18 : decode cX9_clean 18 = .ok (.iconst 0, 1) := by decide +kernel
theorem dX9_clean_19 : decode cX9_clean 19 = .ok (.istore_n 3, 1) := by decide +kernel
theorem dX9_clean_20 : decode cX9_clean 20 = .ok (.iload_n 3, 1) := by decide +kernel
theorem dX9_clean_21 : decode cX9_clean 21 = .ok (.aload_n 0, 1) := by decide +kernel
theorem dX9_clean_22 : decode cX9_clean 22 = .ok (.getfield 21, 3) := by decide +kernel
theorem dX9_clean_25 : decode cX9_clean 25 = .ok (.invokevirtual 90, 3) := by decide +kernel
theorem dX9_clean_28 : decode cX9_clean 28 = .ok (.if_icmp .ge 41, 3) := by decide +kernel
theorem dX9_clean_31 : decode cX9_clean 31 = .ok (.aload_n 0, 1) := by decide +kernel
theorem dX9_clean_32 : decode cX9_clean 32 = .ok (.getfield 21, 3) := by decide +kernel
theorem dX9_clean_35 : decode cX9_clean 35 = .ok (.iload_n 3, 1) := by decide +kernel
theorem dX9_clean_36 : decode cX9_clean 36 = .ok (.invokevirtual 152, 3) := by decide +kernel
theorem dX9_clean_39 : decode cX9_clean 39 = .ok (.checkcast 54, 3) := by decide +kernel
theorem dX9_clean_42 : decode cX9_clean 42 = .ok (.getfield 156, 3) := by decide +kernel
theorem dX9_clean_45 : decode cX9_clean 45 = .ok (.ifCond .ne 24, 3) := by decide +kernel
theorem dX9_clean_48 : decode cX9_clean 48 = .ok (.aload_n 2, 1) := by decide +kernel
theorem dX9_clean_49 : decode cX9_clean 49 = .ok (.aload_n 0, 1) := by decide +kernel
theorem dX9_clean_50 : decode cX9_clean 50 = .ok (.getfield 21, 3) := by decide +kernel
theorem dX9_clean_53 : decode cX9_clean 53 = .ok (.iload_n 3, 1) := by decide +kernel
theorem dX9_clean_54 : decode cX9_clean 54 = .ok (.invokevirtual 152, 3) := by decide +kernel
theorem dX9_clean_57 : decode cX9_clean 57 = .ok (.checkcast 54, 3) := by decide +kernel
theorem dX9_clean_60 : decode cX9_clean 60 = .ok (.invokevirtual 159, 3) := by decide +kernel
theorem dX9_clean_63 : decode cX9_clean 63 = .ok (.iinc 3 1, 3) := by decide +kernel
theorem dX9_clean_66 : decode cX9_clean 66 = .ok (.goto (-46), 3) := by decide +kernel
theorem dX9_clean_69 : decode cX9_clean 69 = .ok (.aload_n 0, 1) := by decide +kernel
theorem dX9_clean_70 : decode cX9_clean 70 = .ok (.iload_n 3, 1) := by decide +kernel
theorem dX9_clean_71 : decode cX9_clean 71 = .ok (.invokevirtual 163, 3) := by decide +kernel
theorem dX9_clean_74 : decode cX9_clean 74 = .ok (.istore 4, 2) := by decide +kernel
theorem dX9_clean_76 : decode cX9_clean 76 = .ok (.iload 4, 2) := by decide +kernel
theorem dX9_clean_78 : decode cX9_clean 78 = .ok (.iload_n 3, 1) := by decide +kernel
theorem dX9_clean_79 : decode cX9_clean 79 = .ok (.isub, 1) := by decide +kernel
theorem dX9_clean_80 : decode cX9_clean 80 = .ok (.iconst 2, 1) := by decide +kernel
theorem dX9_clean_81 : decode cX9_clean 81 = .ok (.if_icmp .lt 7, 3) := by decide +kernel
theorem dX9_clean_84 : decode cX9_clean 84 = .ok (.iconst 1, 1) := by decide +kernel
theorem dX9_clean_85 : decode cX9_clean 85 = .ok (.goto 4, 3) := by decide +kernel
theorem dX9_clean_88 : decode cX9_clean 88 = .ok (.iconst 0, 1) := by decide +kernel
theorem dX9_clean_89 : decode cX9_clean 89 = .ok (.istore 5, 2) := by decide +kernel
theorem dX9_clean_91 : decode cX9_clean 91 = .ok (.iload 5, 2) := by decide +kernel
theorem dX9_clean_93 : decode cX9_clean 93 = .ok (.ifCond .eq 81, 3) := by decide +kernel
theorem dX9_clean_96 : decode cX9_clean 96 = .ok (.aload_n 0, 1) := by decide +kernel
theorem dX9_clean_97 : decode cX9_clean 97 = .ok (.aload_n 1, 1) := by decide +kernel
theorem dX9_clean_98 : decode cX9_clean 98 = .ok (.invokevirtual 98, 3) := by decide +kernel
theorem dX9_clean_101 : decode cX9_clean 101 = .ok (.astore 6, 2) := by decide +kernel
theorem dX9_clean_103 : decode cX9_clean 103 = .ok (.iload_n 3, 1) := by decide +kernel
theorem dX9_clean_104 : decode cX9_clean 104 = .ok (.istore 7, 2) := by decide +kernel
theorem dX9_clean_106 : decode cX9_clean 106 = .ok (.iload 7, 2) := by decide +kernel
theorem dX9_clean_108 : decode cX9_clean 108 = .ok (.iload 4, 2) := by decide +kernel
theorem dX9_clean_110 : decode cX9_clean 110 = .ok (.if_icmp .ge 54, 3) := by decide +kernel
theorem dX9_clean_113 : decode cX9_clean 113 = .ok (.iload 7, 2) := by decide +kernel
theorem dX9_clean_115 : decode cX9_clean 115 = .ok (.aload_n 0, 1) := by decide +kernel
theorem dX9_clean_116 : decode cX9_clean 116 = .ok (.getfield 21, 3) := by decide +kernel
theorem dX9_clean_119 : decode cX9_clean 119 = .ok (.invokevirtual 90, 3) := by decide +kernel
theorem dX9_clean_122 : decode cX9_clean 122 = .ok (.if_icmp .ge 42, 3) := by decide +kernel
theorem dX9_clean_125 : decode cX9_clean 125 = .ok (.aload_n 0, 1) := by decide +kernel
theorem dX9_clean_126 : decode cX9_clean 126 = .ok (.getfield 21, 3) := by decide +kernel
theorem dX9_clean_129 : decode cX9_clean 129 = .ok (.iload 7, 2) := by decide +kernel
theorem dX9_clean_131 : decode cX9_clean 131 = .ok (.invokevirtual 152, 3) := by decide +kernel
theorem dX9_clean_134 : decode cX9_clean 134 = .ok (.checkcast 54, 3) := by decide +kernel
theorem dX9_clean_137 : decode cX9_clean 137 = .ok (.aload 6, 2) := by decide +kernel
theorem dX9_clean_139 : decode cX9_clean 139 = .ok (.invokestatic 166, 3) := by decide +kernel
theorem dX9_clean_142 : decode cX9_clean 142 = .ok (.aload_n 2, 1) := by decide +kernel
theorem dX9_clean_143 : decode cX9_clean 143 = .ok (.aload_n 0, 1) := by decide +kernel
theorem dX9_clean_144 : decode cX9_clean 144 = .ok (.getfield 21, 3) := by decide +kernel
theorem dX9_clean_147 : decode cX9_clean 147 = .ok (.iload 7, 2) := by decide +kernel
theorem dX9_clean_149 : decode cX9_clean 149 = .ok (.invokevirtual 152, 3) := by decide +kernel
theorem dX9_clean_152 : decode cX9_clean 152 = .ok (.checkcast 54, 3) := by decide +kernel
theorem dX9_clean_155 : decode cX9_clean 155 = .ok (.invokevirtual 159, 3) := by decide +kernel
theorem dX9_clean_158 : decode cX9_clean 158 = .ok (.iinc 7 1, 3) := by decide +kernel
theorem dX9_clean_161 : decode cX9_clean 161 = .ok (.goto (-55), 3) := by decide +kernel
theorem dX9_clean_164 : decode cX9_clean 164 = .ok (.aload_n 2, 1) := by decide +kernel
theorem dX9_clean_165 : decode cX9_clean 165 = .ok (.getfield 87, 3) := by decide +kernel
theorem dX9_clean_168 : decode cX9_clean 168 = .ok (.aload 6, 2) := by decide +kernel
theorem dX9_clean_170 : decode cX9_clean 170 = .ok (.invokevirtual 118, 3) := by decide +kernel
theorem dX9_clean_173 : decode cX9_clean 173 = .ok (.pop, 1) := by decide +kernel
theorem dX9_clean_174 : decode cX9_clean 174 = .ok (.iload_n 3, 1) := by decide +kernel
theorem dX9_clean_175 : decode cX9_clean 175 = .ok (.ifCond .gt 8, 3) := by decide +kernel
theorem dX9_clean_178 : decode cX9_clean 178 = .ok (.iload 5, 2) := by decide +kernel
theorem dX9_clean_180 : decode cX9_clean 180 = .ok (.ifCond .eq 13, 3) := by decide +kernel
theorem dX9_clean_183 : decode cX9_clean 183 = .ok (.aload_n 0, 1) := by decide +kernel
theorem dX9_clean_184 : decode cX9_clean 184 = .ok (.dup, 1) := by decide +kernel
theorem dX9_clean_185 : decode cX9_clean 185 = .ok (.getfield 170, 3) := by decide +kernel
theorem dX9_clean_188 : decode cX9_clean 188 = .ok (.iconst 1, 1) := by decide +kernel
theorem dX9_clean_189 : decode cX9_clean 189 = .ok (.iadd, 1) := by decide +kernel
theorem dX9_clean_190 : decode cX9_clean 190 = .ok (.putfield 170, 3) := by decide +kernel
theorem dX9_clean_193 : decode cX9_clean 193 = .ok (.aload_n 0, 1) := by decide +kernel
theorem dX9_clean_194 : decode cX9_clean 194 = .ok (.getfield 21, 3) := by decide +kernel
theorem dX9_clean_197 : decode cX9_clean 197 = .ok (.invokevirtual 173, 3) := by decide +kernel
theorem dX9_clean_200 : decode cX9_clean 200 = .ok (.return_, 1) := by decide +kernel
theorem dX9_sortForCleaning_0 : decode cX9_sortForCleaning 0 = .ok (.aload_n 0, 1) := by decide +kernel
theorem dX9_sortForCleaning_1 : decode cX9_sortForCleaning 1 = .ok (.getfield 21, 3) := by decide +kernel
theorem dX9_sortForCleaning_4 : decode cX9_sortForCleaning 4 = .ok (.invokevirtual 173, 3) := by decide +kernel
theorem dX9_sortForCleaning_7 : decode cX9_sortForCleaning 7 = .ok (.iconst 0, 1) := by decide +kernel
theorem dX9_sortForCleaning_8 : decode cX9_sortForCleaning 8 = .ok (.istore_n 2, 1) := by decide +kernel
theorem dX9_sortForCleaning_9 : decode cX9_sortForCleaning 9 = .ok (.iload_n 2, 1) := by decide +kernel
theorem dX9_sortForCleaning_10 : decode cX9_sortForCleaning 10 = .ok (.aload_n 1, 1) := by decide +kernel
theorem dX9_sortForCleaning_11 : decode cX9_sortForCleaning 11 = .ok (.getfield 87, 3) := by decide +kernel
theorem dX9_sortForCleaning_14 : decode cX9_sortForCleaning 14 = .ok (.invokevirtual 90, 3) := by decide +kernel
theorem dX9_sortForCleaning_17 : decode cX9_sortForCleaning 17 = .ok (.if_icmp .ge 83, 3) := by decide +kernel
theorem dX9_sortForCleaning_20 : decode cX9_sortForCleaning 20 = .ok (.aload_n 1, 1) := by decide +kernel
theorem dX9_sortForCleaning_21 : decode cX9_sortForCleaning 21 = .ok (.getfield 87, 3) := by decide +kernel
theorem dX9_sortForCleaning_24 : decode cX9_sortForCleaning 24 = .ok (.iload_n 2, 1) := by decide +kernel
theorem dX9_sortForCleaning_25 : decode cX9_sortForCleaning 25 = .ok (.invokevirtual 152, 3) := by decide +kernel
theorem dX9_sortForCleaning_28 : decode cX9_sortForCleaning 28 = .ok (.checkcast 54, 3) := by decide +kernel
theorem dX9_sortForCleaning_31 : decode cX9_sortForCleaning 31 = .ok (.astore_n 3, 1) := by decide +kernel
theorem dX9_sortForCleaning_32 : decode cX9_sortForCleaning 32 = .ok (.aload_n 3, 1) := by decide +kernel
theorem dX9_sortForCleaning_33 : decode cX9_sortForCleaning 33 = .ok (.aload_n 1, 1) := by decide +kernel
theorem dX9_sortForCleaning_34 : decode cX9_sortForCleaning 34 = .ok (.getfield 122, 3) := by decide +kernel
theorem dX9_sortForCleaning_37 : decode cX9_sortForCleaning 37 = .ok (.if_acmp .eq 57, 3) := by decide +kernel
theorem dX9_sortForCleaning_40 : decode cX9_sortForCleaning 40 = .ok (.aload_n 0, 1) := by decide +kernel
theorem dX9_sortForCleaning_41 : decode cX9_sortForCleaning 41 = .ok (.getfield 21, 3) := by decide +kernel
theorem dX9_sortForCleaning_44 : decode cX9_sortForCleaning 44 = .ok (.invokevirtual 90, 3) := by decide +kernel
theorem dX9_sortForCleaning_47 : decode cX9_sortForCleaning 47 = .ok (.istore 4, 2) := by decide +kernel
theorem dX9_sortForCleaning_49 : decode cX9_sortForCleaning 49 = .ok (.iload 4, 2) := by decide +kernel
theorem dX9_sortForCleaning_51 : decode cX9_sortForCleaning 51 = .ok (.ifCond .le 33, 3) := by decide +kernel
theorem dX9_sortForCleaning_54 : decode cX9_sortForCleaning 54 = .ok (.aload_n 0, 1) := by decide +kernel
theorem dX9_sortForCleaning_55 : decode cX9_sortForCleaning 55 = .ok (.getfield 21, 3) := by decide +kernel
theorem dX9_sortForCleaning_58 : decode cX9_sortForCleaning 58 = .ok (.iload 4, 2) := by decide +kernel
theorem dX9_sortForCleaning_60 : decode cX9_sortForCleaning 60 = .ok (.iconst 1, 1) := by decide +kernel
theorem dX9_sortForCleaning_61 : decode cX9_sortForCleaning 61 = .ok (.isub, 1) := by decide +kernel
theorem dX9_sortForCleaning_62 : decode cX9_sortForCleaning 62 = .ok (.invokevirtual 152, 3) := by decide +kernel
theorem dX9_sortForCleaning_65 : decode cX9_sortForCleaning 65 = .ok (.checkcast 54, 3) := by decide +kernel
theorem dX9_sortForCleaning_68 : decode cX9_sortForCleaning 68 = .ok (.getfield 156, 3) := by decide +kernel
theorem dX9_sortForCleaning_71 : decode cX9_sortForCleaning 71 = .ok (.aload_n 3, 1) := by decide +kernel
theorem dX9_sortForCleaning_72 : decode cX9_sortForCleaning 72 = .ok (.getfield 156, 3) := by decide +kernel
theorem dX9_sortForCleaning_75 : decode cX9_sortForCleaning 75 = .ok (.if_icmp .le 9, 3) := by decide +kernel
theorem dX9_sortForCleaning_78 : decode cX9_sortForCleaning 78 = .ok (.iinc 4 (-1), 3) := by decide +kernel
theorem dX9_sortForCleaning_81 : decode cX9_sortForCleaning 81 = .ok (.goto (-32), 3) := by decide +kernel
theorem dX9_sortForCleaning_84 : decode cX9_sortForCleaning 84 = .ok (.aload_n 0, 1) := by decide +kernel
theorem dX9_sortForCleaning_85 : decode cX9_sortForCleaning 85 = .ok (.getfield 21, 3) := by decide +kernel
theorem dX9_sortForCleaning_88 : decode cX9_sortForCleaning 88 = .ok (.iload 4, 2) := by decide +kernel
theorem dX9_sortForCleaning_90 : decode cX9_sortForCleaning 90 = .ok (.aload_n 3, 1) := by decide +kernel
theorem dX9_sortForCleaning_91 : decode cX9_sortForCleaning 91 = .ok (.invokevirtual 176, 3) := by decide +kernel
theorem dX9_sortForCleaning_94 : decode cX9_sortForCleaning 94 = .ok (.iinc 2 1, 3) := by decide +kernel
theorem dX9_sortForCleaning_97 : decode cX9_sortForCleaning 97 = .ok (.goto (-88), 3) := by decide +kernel
theorem dX9_sortForCleaning_100 : decode cX9_sortForCleaning 100 = .ok (.return_, 1) := by decide +kernel
theorem dX9_endOfPacked_0 : decode cX9_endOfPacked 0 = .ok (.iconst 0, 1) := by decide +kernel
theorem dX9_endOfPacked_1 : decode cX9_endOfPacked 1 = .ok (.istore_n 2, 1) := by decide +kernel
theorem dX9_endOfPacked_2 : decode cX9_endOfPacked 2 = .ok (.iload_n 1, 1) := by decide +kernel
theorem dX9_endOfPacked_3 : decode cX9_endOfPacked 3 = .ok (.istore_n 3, 1) := by decide +kernel
theorem dX9_endOfPacked_4 : decode cX9_endOfPacked 4 = .ok (.iload_n 3, 1) := by decide +kernel
theorem dX9_endOfPacked_5 : decode cX9_endOfPacked 5 = .ok (.aload_n 0, 1) := by decide +kernel
theorem dX9_endOfPacked_6 : decode cX9_endOfPacked 6 = .ok (.getfield 21, 3) := by decide +kernel
theorem dX9_endOfPacked_9 : decode cX9_endOfPacked 9 = .ok (.invokevirtual 90, 3) := by decide +kernel
theorem dX9_endOfPacked_12 : decode cX9_endOfPacked 12 = .ok (.if_icmp .ge 36, 3) := by decide +kernel
theorem dX9_endOfPacked_15 : decode cX9_endOfPacked 15 = .ok (.iload_n 2, 1) := by decide +kernel
theorem dX9_endOfPacked_16 : decode cX9_endOfPacked 16 = .ok (.aload_n 0, 1) := by decide +kernel
theorem dX9_endOfPacked_17 : decode cX9_endOfPacked 17 = .ok (.getfield 21, 3) := by decide +kernel
theorem dX9_endOfPacked_20 : decode cX9_endOfPacked 20 = .ok (.iload_n 3, 1) := by decide +kernel
theorem dX9_endOfPacked_21 : decode cX9_endOfPacked 21 = .ok (.invokevirtual 152, 3) := by decide +kernel
theorem dX9_endOfPacked_24 : decode cX9_endOfPacked 24 = .ok (.checkcast 54, 3) := by decide +kernel
theorem dX9_endOfPacked_27 : decode cX9_endOfPacked 27 = .ok (.getfield 156, 3) := by decide +kernel
theorem dX9_endOfPacked_30 : decode cX9_endOfPacked 30 = .ok (.iadd, 1) := by decide +kernel
theorem dX9_endOfPacked_31 : decode cX9_endOfPacked 31 = .ok (.istore_n 2, 1) := by decide +kernel
theorem dX9_endOfPacked_32 : decode cX9_endOfPacked 32 = .ok (.iload_n 2, 1) := by decide +kernel
theorem dX9_endOfPacked_33 : decode cX9_endOfPacked 33 = .ok (.aload_n 0, 1) := by decide +kernel
theorem dX9_endOfPacked_34 : decode cX9_endOfPacked 34 = .ok (.getfield 29, 3) := by decide +kernel
theorem dX9_endOfPacked_37 : decode cX9_endOfPacked 37 = .ok (.if_icmp .le 5, 3) := by decide +kernel
theorem dX9_endOfPacked_40 : decode cX9_endOfPacked 40 = .ok (.iload_n 3, 1) := by decide +kernel
theorem dX9_endOfPacked_41 : decode cX9_endOfPacked 41 = .ok (.ireturn, 1) := by decide +kernel
theorem dX9_endOfPacked_42 : decode cX9_endOfPacked 42 = .ok (.iinc 3 1, 3) := by decide +kernel
theorem dX9_endOfPacked_45 : decode cX9_endOfPacked 45 = .ok (.goto (-41), 3) := by decide +kernel
theorem dX9_endOfPacked_48 : decode cX9_endOfPacked 48 = .ok (.aload_n 0, 1) := by decide +kernel
theorem dX9_endOfPacked_49 : decode cX9_endOfPacked 49 = .ok (.getfield 21, 3) := by decide +kernel
theorem dX9_endOfPacked_52 : decode cX9_endOfPacked 52 = .ok (.invokevirtual 90, 3) := by decide +kernel
theorem dX9_endOfPacked_55 : decode cX9_endOfPacked 55 = .ok (.ireturn, 1) := by decide +kernel
theorem dX9_copyLive_0 : decode cX9_copyLive 0 = .ok (.iconst 0, 1) := by decide +kernel
theorem dX9_copyLive_1 : decode cX9_copyLive 1 = .ok (.istore_n 2, 1) := by decide +kernel
theorem dX9_copyLive_2 : decode cX9_copyLive 2 = .ok (.iload_n 2, 1) := by decide +kernel
theorem dX9_copyLive_3 : decode cX9_copyLive 3 = .ok (.aload_n 0, 1) := by decide +kernel
theorem dX9_copyLive_4 : decode cX9_copyLive 4 = .ok (.getfield 179, 3) := by decide +kernel
theorem dX9_copyLive_7 : decode cX9_copyLive 7 = .ok (.if_icmp .ge 33, 3) := by decide +kernel
theorem dX9_copyLive_10 : decode cX9_copyLive 10 = .ok (.aload_n 0, 1) := by decide +kernel
theorem dX9_copyLive_11 : decode cX9_copyLive 11 = .ok (.getfield 182, 3) := by decide +kernel
theorem dX9_copyLive_14 : decode cX9_copyLive 14 = .ok (.iload_n 2, 1) := by decide +kernel
theorem dX9_copyLive_15 : decode cX9_copyLive 15 = .ok (.baload, 1) := by decide +kernel
theorem dX9_copyLive_16 : decode cX9_copyLive 16 = .ok (.ifCond .eq 18, 3) := by decide +kernel
theorem dX9_copyLive_19 : decode cX9_copyLive 19 = .ok (.aload_n 1, 1) := by decide +kernel
theorem dX9_copyLive_20 : decode cX9_copyLive 20 = .ok (.aconst_null, 1) := by decide +kernel
theorem dX9_copyLive_21 : decode cX9_copyLive 21 = .ok (.aload_n 0, 1) := by decide +kernel
theorem dX9_copyLive_22 : decode cX9_copyLive 22 = .ok (.getfield 186, 3) := by decide +kernel
theorem dX9_copyLive_25 : decode cX9_copyLive 25 = .ok (.iload_n 2, 1) := by decide +kernel
theorem dX9_copyLive_26 : decode cX9_copyLive 26 = .ok (.aaload, 1) := by decide +kernel
theorem dX9_copyLive_27 : decode cX9_copyLive 27 = .ok (.aload_n 1, 1) := by decide +kernel
theorem dX9_copyLive_28 : decode cX9_copyLive 28 = .ok (.getfield 111, 3) := by decide +kernel
theorem dX9_copyLive_31 : decode cX9_copyLive 31 = .ok (.invokevirtual 114, 3) := by decide +kernel
theorem dX9_copyLive_34 : decode cX9_copyLive 34 = .ok (.iinc 2 1, 3) := by decide +kernel
theorem dX9_copyLive_37 : decode cX9_copyLive 37 = .ok (.goto (-35), 3) := by decide +kernel
theorem dX9_copyLive_40 : decode cX9_copyLive 40 = .ok (.return_, 1) := by decide +kernel
theorem dX9_write_0 : decode cX9_write 0 = .ok (.aload_n 1, 1) := by decide +kernel
theorem dX9_write_1 : decode cX9_write 1 = .ok (.getfield 58, 3) := by decide +kernel
theorem dX9_write_4 : decode cX9_write 4 = .ok (.getfield 62, 3) := by decide +kernel
theorem dX9_write_7 : decode cX9_write 7 = .ok (.astore 5, 2) := by decide +kernel
theorem dX9_write_9 : decode cX9_write 9 = .ok (.aload 5, 2) := by decide +kernel
theorem dX9_write_11 : decode cX9_write 11 = .ok (.ifnull 36, 3) := by decide +kernel
theorem dX9_write_14 : decode cX9_write 14 = .ok (.aload 5, 2) := by decide +kernel
theorem dX9_write_16 : decode cX9_write 16 = .ok (.aload_n 2, 1) := by decide +kernel
theorem dX9_write_17 : decode cX9_write 17 = .ok (.aload_n 3, 1) := by decide +kernel
theorem dX9_write_18 : decode cX9_write 18 = .ok (.iload 4, 2) := by decide +kernel
theorem dX9_write_20 : decode cX9_write 20 = .ok (.iconst (-1), 1) := by decide +kernel
theorem dX9_write_21 : decode cX9_write 21 = .ok (.if_icmp .ne 11, 3) := by decide +kernel
theorem dX9_write_24 : decode cX9_write 24 = .ok (.aload 5, 2) := by decide +kernel
theorem dX9_write_26 : decode cX9_write 26 = .ok (.getfield 111, 3) := by decide +kernel
theorem dX9_write_29 : decode cX9_write 29 = .ok (.goto 5, 3) := by decide +kernel
theorem dX9_write_32 : decode cX9_write 32 = .ok (.iload 4, 2) := by decide +kernel
theorem dX9_write_34 : decode cX9_write 34 = .ok (.invokevirtual 114, 3) := by decide +kernel
theorem dX9_write_37 : decode cX9_write 37 = .ok (.aload_n 0, 1) := by decide +kernel
theorem dX9_write_38 : decode cX9_write 38 = .ok (.dup, 1) := by decide +kernel
theorem dX9_write_39 : decode cX9_write 39 = .ok (.getfield 190, 3) := by decide +kernel
theorem dX9_write_42 : decode cX9_write 42 = .ok (.iconst 1, 1) := by decide +kernel
theorem dX9_write_43 : decode cX9_write 43 = .ok (.iadd, 1) := by decide +kernel
theorem dX9_write_44 : decode cX9_write 44 = .ok (.putfield 190, 3) := by decide +kernel
theorem dX9_write_47 : decode cX9_write 47 = .ok (.return_, 1) := by decide +kernel
theorem dX9_mend_0 : decode cX9_mend 0 = .ok (.iconst 0, 1) := by decide +kernel
theorem dX9_mend_1 : decode cX9_mend 1 = .ok (.istore_n 2, 1) := by decide +kernel
theorem dX9_mend_2 : decode cX9_mend 2 = .ok (.iload_n 2, 1) := by decide +kernel
theorem dX9_mend_3 : decode cX9_mend 3 = .ok (.aload_n 1, 1) := by decide +kernel
theorem dX9_mend_4 : decode cX9_mend 4 = .ok (.getfield 58, 3) := by decide +kernel
theorem dX9_mend_7 : decode cX9_mend 7 = .ok (.getfield 87, 3) := by decide +kernel
theorem dX9_mend_10 : decode cX9_mend 10 = .ok (.invokevirtual 90, 3) := by decide +kernel
theorem dX9_mend_13 : decode cX9_mend 13 = .ok (.if_icmp .ge 74, 3) := by decide +kernel
theorem dX9_mend_16 : decode cX9_mend 16 = .ok (.aload_n 1, 1) := by decide +kernel
theorem dX9_mend_17 : decode cX9_mend 17 = .ok (.getfield 58, 3) := by decide +kernel
theorem dX9_mend_20 : decode cX9_mend 20 = .ok (.getfield 87, 3) := by decide +kernel
theorem dX9_mend_23 : decode cX9_mend 23 = .ok (.iload_n 2, 1) := by decide +kernel
theorem dX9_mend_24 : decode cX9_mend 24 = .ok (.invokevirtual 152, 3) := by decide +kernel
theorem dX9_mend_27 : decode cX9_mend 27 = .ok (.checkcast 54, 3) := by decide +kernel
theorem dX9_mend_30 : decode cX9_mend 30 = .ok (.astore_n 3, 1) := by decide +kernel
theorem dX9_mend_31 : decode cX9_mend 31 = .ok (.aload_n 3, 1) := by decide +kernel
theorem dX9_mend_32 : decode cX9_mend 32 = .ok (.getfield 53, 3) := by decide +kernel
theorem dX9_mend_35 : decode cX9_mend 35 = .ok (.aload_n 0, 1) := by decide +kernel
theorem dX9_mend_36 : decode cX9_mend 36 = .ok (.getfield 44, 3) := by decide +kernel
theorem dX9_mend_39 : decode cX9_mend 39 = .ok (.iand, 1) := by decide +kernel
theorem dX9_mend_40 : decode cX9_mend 40 = .ok (.invokestatic 81, 3) := by decide +kernel
theorem dX9_mend_43 : decode cX9_mend 43 = .ok (.aload_n 0, 1) := by decide +kernel
theorem dX9_mend_44 : decode cX9_mend 44 = .ok (.getfield 25, 3) := by decide +kernel
theorem dX9_mend_47 : decode cX9_mend 47 = .ok (.if_icmp .ge 34, 3) := by decide +kernel
theorem dX9_mend_50 : decode cX9_mend 50 = .ok (.aload_n 0, 1) := by decide +kernel
theorem dX9_mend_51 : decode cX9_mend 51 = .ok (.aload_n 3, 1) := by decide +kernel
theorem dX9_mend_52 : decode cX9_mend 52 = .ok (.aload_n 1, 1) := by decide +kernel
theorem dX9_mend_53 : decode cX9_mend 53 = .ok (.invokevirtual 193, 3) := by decide +kernel
theorem dX9_mend_56 : decode cX9_mend 56 = .ok (.istore 4, 2) := by decide +kernel
theorem dX9_mend_58 : decode cX9_mend 58 = .ok (.iload 4, 2) := by decide +kernel
theorem dX9_mend_60 : decode cX9_mend 60 = .ok (.iconst (-1), 1) := by decide +kernel
theorem dX9_mend_61 : decode cX9_mend 61 = .ok (.if_icmp .eq 20, 3) := by decide +kernel
theorem dX9_mend_64 : decode cX9_mend 64 = .ok (.aload_n 3, 1) := by decide +kernel
theorem dX9_mend_65 : decode cX9_mend 65 = .ok (.iload 4, 2) := by decide +kernel
theorem dX9_mend_67 : decode cX9_mend 67 = .ok (.invokevirtual 142, 3) := by decide +kernel
theorem dX9_mend_70 : decode cX9_mend 70 = .ok (.aload_n 0, 1) := by decide +kernel
theorem dX9_mend_71 : decode cX9_mend 71 = .ok (.dup, 1) := by decide +kernel
theorem dX9_mend_72 : decode cX9_mend 72 = .ok (.getfield 197, 3) := by decide +kernel
theorem dX9_mend_75 : decode cX9_mend 75 = .ok (.iconst 1, 1) := by decide +kernel
theorem dX9_mend_76 : decode cX9_mend 76 = .ok (.iadd, 1) := by decide +kernel
theorem dX9_mend_77 : decode cX9_mend 77 = .ok (.putfield 197, 3) := by decide +kernel
theorem dX9_mend_80 : decode cX9_mend 80 = .ok (.return_, 1) := by decide +kernel
theorem dX9_mend_81 : decode cX9_mend 81 = .ok (.iinc 2 1, 3) := by decide +kernel
theorem dX9_mend_84 : decode cX9_mend 84 = .ok (.goto (-82), 3) := by decide +kernel
theorem dX9_mend_87 : decode cX9_mend 87 = .ok (.return_, 1) := by decide +kernel
theorem dX9_spareFor_0 : decode cX9_spareFor 0 = .ok (.iconst 0, 1) := by decide +kernel
theorem dX9_spareFor_1 : decode cX9_spareFor 1 = .ok (.istore_n 3, 1) := by decide +kernel
theorem dX9_spareFor_2 : decode cX9_spareFor 2 = .ok (.iload_n 3, 1) := by decide +kernel
theorem dX9_spareFor_3 : decode cX9_spareFor 3 = .ok (.aload_n 0, 1) := by decide +kernel
theorem dX9_spareFor_4 : decode cX9_spareFor 4 = .ok (.getfield 37, 3) := by decide +kernel
theorem dX9_spareFor_7 : decode cX9_spareFor 7 = .ok (.arraylength, 1) := by decide +kernel
theorem dX9_spareFor_8 : decode cX9_spareFor 8 = .ok (.if_icmp .ge 54, 3) := by decide +kernel
theorem dX9_spareFor_11 : decode cX9_spareFor 11 = .ok (.aload_n 0, 1) := by decide +kernel
theorem dX9_spareFor_12 : decode cX9_spareFor 12 = .ok (.aload_n 1, 1) := by decide +kernel
theorem dX9_spareFor_13 : decode cX9_spareFor 13 = .ok (.getfield 131, 3) := by decide +kernel
theorem dX9_spareFor_16 : decode cX9_spareFor 16 = .ok (.aload_n 2, 1) := by decide +kernel
theorem dX9_spareFor_17 : decode cX9_spareFor 17 = .ok (.iload_n 3, 1) := by decide +kernel
theorem dX9_spareFor_18 : decode cX9_spareFor 18 = .ok (.invokevirtual 134, 3) := by decide +kernel
theorem dX9_spareFor_21 : decode cX9_spareFor 21 = .ok (.istore 4, 2) := by decide +kernel
theorem dX9_spareFor_23 : decode cX9_spareFor 23 = .ok (.iload 4, 2) := by decide +kernel
theorem dX9_spareFor_25 : decode cX9_spareFor 25 = .ok (.aload_n 2, 1) := by decide +kernel
theorem dX9_spareFor_26 : decode cX9_spareFor 26 = .ok (.getfield 50, 3) := by decide +kernel
theorem dX9_spareFor_29 : decode cX9_spareFor 29 = .ok (.if_icmp .eq 27, 3) := by decide +kernel
theorem dX9_spareFor_32 : decode cX9_spareFor 32 = .ok (.aload_n 0, 1) := by decide +kernel
theorem dX9_spareFor_33 : decode cX9_spareFor 33 = .ok (.iload 4, 2) := by decide +kernel
theorem dX9_spareFor_35 : decode cX9_spareFor 35 = .ok (.invokevirtual 138, 3) := by decide +kernel
theorem dX9_spareFor_38 : decode cX9_spareFor 38 = .ok (.ifCond .eq 18, 3) := by decide +kernel
theorem dX9_spareFor_41 : decode cX9_spareFor 41 = .ok (.aload_n 1, 1) := by decide +kernel
theorem dX9_spareFor_42 : decode cX9_spareFor 42 = .ok (.getfield 53, 3) := by decide +kernel
theorem dX9_spareFor_45 : decode cX9_spareFor 45 = .ok (.iload 4, 2) := by decide +kernel
theorem dX9_spareFor_47 : decode cX9_spareFor 47 = .ok (.ishr, 1) := by decide +kernel
theorem dX9_spareFor_48 : decode cX9_spareFor 48 = .ok (.iconst 1, 1) := by decide +kernel
theorem dX9_spareFor_49 : decode cX9_spareFor 49 = .ok (.iand, 1) := by decide +kernel
theorem dX9_spareFor_50 : decode cX9_spareFor 50 = .ok (.ifCond .ne 6, 3) := by decide +kernel
theorem dX9_spareFor_53 : decode cX9_spareFor 53 = .ok (.iload 4, 2) := by decide +kernel
theorem dX9_spareFor_55 : decode cX9_spareFor 55 = .ok (.ireturn, 1) := by decide +kernel
theorem dX9_spareFor_56 : decode cX9_spareFor 56 = .ok (.iinc 3 1, 3) := by decide +kernel
theorem dX9_spareFor_59 : decode cX9_spareFor 59 = .ok (.goto (-57), 3) := by decide +kernel
theorem dX9_spareFor_62 : decode cX9_spareFor 62 = .ok (.iconst (-1), 1) := by decide +kernel
theorem dX9_spareFor_63 : decode cX9_spareFor 63 = .ok (.ireturn, 1) := by decide +kernel
theorem dX9_canRecover_0 : decode cX9_canRecover 0 = .ok (.aload_n 0, 1) := by decide +kernel
theorem dX9_canRecover_1 : decode cX9_canRecover 1 = .ok (.getfield 44, 3) := by decide +kernel
theorem dX9_canRecover_4 : decode cX9_canRecover 4 = .ok (.invokestatic 81, 3) := by decide +kernel
theorem dX9_canRecover_7 : decode cX9_canRecover 7 = .ok (.aload_n 0, 1) := by decide +kernel
theorem dX9_canRecover_8 : decode cX9_canRecover 8 = .ok (.getfield 25, 3) := by decide +kernel
theorem dX9_canRecover_11 : decode cX9_canRecover 11 = .ok (.iconst 1, 1) := by decide +kernel
theorem dX9_canRecover_12 : decode cX9_canRecover 12 = .ok (.iadd, 1) := by decide +kernel
theorem dX9_canRecover_13 : decode cX9_canRecover 13 = .ok (.if_icmp .ge 5, 3) := by decide +kernel
theorem dX9_canRecover_16 : decode cX9_canRecover 16 = .ok (.iconst 0, 1) := by decide +kernel
theorem dX9_canRecover_17 : decode cX9_canRecover 17 = .ok (.ireturn, 1) := by decide +kernel
theorem dX9_canRecover_18 : decode cX9_canRecover 18 = .ok (.iconst 0, 1) := by decide +kernel
theorem dX9_canRecover_19 : decode cX9_canRecover 19 = .ok (.istore_n 2, 1) := by decide +kernel
theorem dX9_canRecover_20 : decode cX9_canRecover 20 = .ok (.iload_n 2, 1) := by decide +kernel
theorem dX9_canRecover_21 : decode cX9_canRecover 21 = .ok (.aload_n 1, 1) := by decide +kernel
theorem dX9_canRecover_22 : decode cX9_canRecover 22 = .ok (.getfield 87, 3) := by decide +kernel
theorem dX9_canRecover_25 : decode cX9_canRecover 25 = .ok (.invokevirtual 90, 3) := by decide +kernel
theorem dX9_canRecover_28 : decode cX9_canRecover 28 = .ok (.if_icmp .ge 33, 3) := by decide +kernel
theorem dX9_canRecover_31 : decode cX9_canRecover 31 = .ok (.aload_n 1, 1) := by decide +kernel
theorem dX9_canRecover_32 : decode cX9_canRecover 32 = .ok (.getfield 87, 3) := by decide +kernel
theorem dX9_canRecover_35 : decode cX9_canRecover 35 = .ok (.iload_n 2, 1) := by decide +kernel
theorem dX9_canRecover_36 : decode cX9_canRecover 36 = .ok (.invokevirtual 152, 3) := by decide +kernel
theorem dX9_canRecover_39 : decode cX9_canRecover 39 = .ok (.checkcast 54, 3) := by decide +kernel
theorem dX9_canRecover_42 : decode cX9_canRecover 42 = .ok (.getfield 53, 3) := by decide +kernel
theorem dX9_canRecover_45 : decode cX9_canRecover 45 = .ok (.aload_n 0, 1) := by decide +kernel
theorem dX9_canRecover_46 : decode cX9_canRecover 46 = .ok (.getfield 44, 3) := by decide +kernel
theorem dX9_canRecover_49 : decode cX9_canRecover 49 = .ok (.iand, 1) := by decide +kernel
theorem dX9_canRecover_50 : decode cX9_canRecover 50 = .ok (.ifCond .ne 5, 3) := by decide +kernel
theorem dX9_canRecover_53 : decode cX9_canRecover 53 = .ok (.iconst 0, 1) := by decide +kernel
theorem dX9_canRecover_54 : decode cX9_canRecover 54 = .ok (.ireturn, 1) := by decide +kernel
theorem dX9_canRecover_55 : decode cX9_canRecover 55 = .ok (.iinc 2 1, 3) := by decide +kernel
theorem dX9_canRecover_58 : decode cX9_canRecover 58 = .ok (.goto (-38), 3) := by decide +kernel
theorem dX9_canRecover_61 : decode cX9_canRecover 61 = .ok (.iconst 1, 1) := by decide +kernel
theorem dX9_canRecover_62 : decode cX9_canRecover 62 = .ok (.ireturn, 1) := by decide +kernel
theorem dX10_init_0 : decode cX10_init 0 = .ok (.aload_n 0, 1) := by decide +kernel
theorem dX10_init_1 : decode cX10_init 1 = .ok (.invokespecial 3, 3) := by decide +kernel
theorem dX10_init_4 : decode cX10_init 4 = .ok (.aload_n 0, 1) := by decide +kernel
theorem dX10_init_5 : decode cX10_init 5 = .ok (.bipush 6, 2) := by decide +kernel
theorem dX10_init_7 : decode cX10_init 7 = .ok (.newarray .int, 2) := by decide +kernel
theorem dX10_init_9 : decode cX10_init 9 = .ok (.putfield 9, 3) := by decide +kernel
theorem dX10_init_12 : decode cX10_init 12 = .ok (.aload_n 0, 1) := by decide +kernel
theorem dX10_init_13 : decode cX10_init 13 = .ok (.bipush 6, 2) := by decide +kernel
theorem dX10_init_15 : decode cX10_init 15 = .ok (.newarray .boolean, 2) := by decide +kernel
theorem dX10_init_17 : decode cX10_init 17 = .ok (.putfield 15, 3) := by decide +kernel
theorem dX10_init_20 : decode cX10_init 20 = .ok (.aload_n 0, 1) := by decide +kernel
theorem dX10_init_21 : decode cX10_init 21 = .ok (.bipush 64, 2) := by decide +kernel
theorem dX10_init_23 : decode cX10_init 23 = .ok (.newarray .int, 2) := by decide +kernel
theorem dX10_init_25 : decode cX10_init 25 = .ok (.putfield 19, 3) := by decide +kernel
theorem dX10_init_28 : decode cX10_init 28 = .ok (.aload_n 0, 1) := by decide +kernel
theorem dX10_init_29 : decode cX10_init 29 = .ok (.bipush 64, 2) := by decide +kernel
theorem dX10_init_31 : decode cX10_init 31 = .ok (.anewarray 22, 3) := by decide +kernel
theorem dX10_init_34 : decode cX10_init 34 = .ok (.putfield 24, 3) := by decide +kernel
theorem dX10_init_37 : decode cX10_init 37 = .ok (.aload_n 0, 1) := by decide +kernel
theorem dX10_init_38 : decode cX10_init 38 = .ok (.sipush 240, 3) := by decide +kernel
theorem dX10_init_41 : decode cX10_init 41 = .ok (.anewarray 22, 3) := by decide +kernel
theorem dX10_init_44 : decode cX10_init 44 = .ok (.putfield 28, 3) := by decide +kernel
theorem dX10_init_47 : decode cX10_init 47 = .ok (.return_, 1) := by decide +kernel
theorem dX10_begin_0 : decode cX10_begin 0 = .ok (.aload_n 0, 1) := by decide +kernel
theorem dX10_begin_1 : decode cX10_begin 1 = .ok (.iconst 0, 1) := by decide +kernel
theorem dX10_begin_2 : decode cX10_begin 2 = .ok (.putfield 31, 3) := by decide +kernel
theorem dX10_begin_5 : decode cX10_begin 5 = .ok (.iconst 0, 1) := by decide +kernel
theorem dX10_begin_6 : decode cX10_begin 6 = .ok (.istore_n 1, 1) := by decide +kernel
theorem dX10_begin_7 : decode cX10_begin 7 = .ok (.iload_n 1, 1) := by decide +kernel
theorem dX10_begin_8 : decode cX10_begin 8 = .ok (.aload_n 0, 1) := by decide +kernel
theorem dX10_begin_9 : decode cX10_begin 9 = .ok (.getfield 9, 3) := by decide +kernel
theorem dX10_begin_12 : decode cX10_begin 12 = .ok (.arraylength, 1) := by decide +kernel
theorem dX10_begin_13 : decode cX10_begin 13 = .ok (.if_icmp .ge 23, 3) := by decide +kernel
theorem dX10_begin_16 : decode cX10_begin 16 = .ok (.aload_n 0, 1) := by decide +kernel
theorem dX10_begin_17 : decode cX10_begin 17 = .ok (.getfield 9, 3) := by decide +kernel
theorem dX10_begin_20 : decode cX10_begin 20 = .ok (.iload_n 1, 1) := by decide +kernel
theorem dX10_begin_21 : decode cX10_begin 21 = .ok (.iconst 1, 1) := by decide +kernel
theorem dX10_begin_22 : decode cX10_begin 22 = .ok (.iastore, 1) := by decide +kernel
theorem dX10_begin_23 : decode cX10_begin 23 = .ok (.aload_n 0, 1) := by decide +kernel
theorem dX10_begin_24 : decode cX10_begin 24 = .ok (.getfield 15, 3) := by decide +kernel
theorem dX10_begin_27 : decode cX10_begin 27 = .ok (.iload_n 1, 1) := by decide +kernel
theorem dX10_begin_28 : decode cX10_begin 28 = .ok (.iconst 0, 1) := by decide +kernel
theorem dX10_begin_29 : decode cX10_begin 29 = .ok (.bastore, 1) := by decide +kernel
theorem dX10_begin_30 : decode cX10_begin 30 = .ok (.iinc 1 1, 3) := by decide +kernel
theorem dX10_begin_33 : decode cX10_begin 33 = .ok (.goto (-26), 3) := by decide +kernel
theorem dX10_begin_36 : decode cX10_begin 36 = .ok (.iconst 0, 1) := by decide +kernel
theorem dX10_begin_37 : decode cX10_begin 37 = .ok (.istore_n 1, 1) := by decide +kernel
theorem dX10_begin_38 : decode cX10_begin 38 = .ok (.iload_n 1, 1) := by decide +kernel
theorem dX10_begin_39 : decode cX10_begin 39 = .ok (.aload_n 0, 1) := by decide +kernel
theorem dX10_begin_40 : decode cX10_begin 40 = .ok (.getfield 19, 3) := by decide +kernel
theorem dX10_begin_43 : decode cX10_begin 43 = .ok (.arraylength, 1) := by decide +kernel
theorem dX10_begin_44 : decode cX10_begin 44 = .ok (.if_icmp .ge 23, 3) := by decide +kernel
theorem dX10_begin_47 : decode cX10_begin 47 = .ok (.aload_n 0, 1) := by decide +kernel
theorem dX10_begin_48 : decode cX10_begin 48 = .ok (.getfield 19, 3) := by decide +kernel
theorem dX10_begin_51 : decode cX10_begin 51 = .ok (.iload_n 1, 1) := by decide +kernel
theorem dX10_begin_52 : decode cX10_begin 52 = .ok (.iconst 0, 1) := by decide +kernel
theorem dX10_begin_53 : decode cX10_begin 53 = .ok (.iastore, 1) := by decide +kernel
theorem dX10_begin_54 : decode cX10_begin 54 = .ok (.aload_n 0, 1) := by decide +kernel
theorem dX10_begin_55 : decode cX10_begin 55 = .ok (.getfield 24, 3) := by decide +kernel
theorem dX10_begin_58 : decode cX10_begin 58 = .ok (.iload_n 1, 1) := by decide +kernel
theorem dX10_begin_59 : decode cX10_begin 59 = .ok (.aconst_null, 1) := by decide +kernel
theorem dX10_begin_60 : decode cX10_begin 60 = .ok (.aastore, 1) := by decide +kernel
theorem dX10_begin_61 : decode cX10_begin 61 = .ok (.iinc 1 1, 3) := by decide +kernel
theorem dX10_begin_64 : decode cX10_begin 64 = .ok (.goto (-26), 3) := by decide +kernel
theorem dX10_begin_67 : decode cX10_begin 67 = .ok (.return_, 1) := by decide +kernel
theorem dX10_learn_0 : decode cX10_learn 0 = .ok (.aload_n 1, 1) := by decide +kernel
theorem dX10_learn_1 : decode cX10_learn 1 = .ok (.getfield 35, 3) := by decide +kernel
theorem dX10_learn_4 : decode cX10_learn 4 = .ok (.aload_n 0, 1) := by decide +kernel
theorem dX10_learn_5 : decode cX10_learn 5 = .ok (.getfield 31, 3) := by decide +kernel
theorem dX10_learn_8 : decode cX10_learn 8 = .ok (.if_icmp .le 11, 3) := by decide +kernel
theorem dX10_learn_11 : decode cX10_learn 11 = .ok (.aload_n 0, 1) := by decide +kernel
theorem dX10_learn_12 : decode cX10_learn 12 = .ok (.aload_n 1, 1) := by decide +kernel
theorem dX10_learn_13 : decode cX10_learn 13 = .ok (.getfield 35, 3) := by decide +kernel
theorem dX10_learn_16 : decode cX10_learn 16 = .ok (.putfield 31, 3) := by decide +kernel
theorem dX10_learn_19 : decode cX10_learn 19 = .ok (.aload_n 1, 1) := by decide +kernel
theorem dX10_learn_20 : decode cX10_learn 20 = .ok (.getfield 38, 3) := by decide +kernel
theorem dX10_learn_23 : decode cX10_learn 23 = .ok (.ifCond .eq 42, 3) := by decide +kernel
theorem dX10_learn_26 : decode cX10_learn 26 = .ok (.aload_n 1, 1) := by decide +kernel
theorem dX10_learn_27 : decode cX10_learn 27 = .ok (.getfield 42, 3) := by decide +kernel
theorem dX10_learn_30 : decode cX10_learn 30 = .ok (.aload_n 0, 1) := by decide +kernel
theorem dX10_learn_31 : decode cX10_learn 31 = .ok (.getfield 9, 3) := by decide +kernel
theorem dX10_learn_34 : decode cX10_learn 34 = .ok (.aload_n 1, 1) := by decide +kernel
theorem dX10_learn_35 : decode cX10_learn 35 = .ok (.getfield 44, 3) := by decide +kernel
theorem dX10_learn_38 : decode cX10_learn 38 = .ok (.iaload, 1) := by decide +kernel
theorem dX10_learn_39 : decode cX10_learn 39 = .ok (.if_icmp .le 26, 3) := by decide +kernel
theorem dX10_learn_42 : decode cX10_learn 42 = .ok (.aload_n 0, 1) := by decide +kernel
theorem dX10_learn_43 : decode cX10_learn 43 = .ok (.getfield 9, 3) := by decide +kernel
theorem dX10_learn_46 : decode cX10_learn 46 = .ok (.aload_n 1, 1) := by decide +kernel
theorem dX10_learn_47 : decode cX10_learn 47 = .ok (.getfield 44, 3) := by decide +kernel
theorem dX10_learn_50 : decode cX10_learn 50 = .ok (.aload_n 1, 1) := by decide +kernel
theorem dX10_learn_51 : decode cX10_learn 51 = .ok (.getfield 42, 3) := by decide +kernel
theorem dX10_learn_54 : decode cX10_learn 54 = .ok (.iastore, 1) := by decide +kernel
theorem dX10_learn_55 : decode cX10_learn 55 = .ok (.aload_n 0, 1) := by decide +kernel
theorem dX10_learn_56 : decode cX10_learn 56 = .ok (.getfield 15, 3) := by decide +kernel
theorem dX10_learn_59 : decode cX10_learn 59 = .ok (.aload_n 1, 1) := by decide +kernel
theorem dX10_learn_60 : decode cX10_learn 60 = .ok (.getfield 44, 3) := by decide +kernel
theorem dX10_learn_63 : decode cX10_learn 63 = .ok (.iconst 0, 1) := by decide +kernel
theorem dX10_learn_64 : decode cX10_learn 64 = .ok (.bastore, 1) := by decide +kernel
theorem dX10_learn_65 : decode cX10_learn 65 = .ok (.aload_n 1, 1) := by decide +kernel
theorem dX10_learn_66 : decode cX10_learn 66 = .ok (.getfield 47, 3) := by decide +kernel
theorem dX10_learn_69 : decode cX10_learn 69 = .ok (.iconst 4, 1) := by decide +kernel
theorem dX10_learn_70 : decode cX10_learn 70 = .ok (.if_icmp .ne 29, 3) := by decide +kernel
theorem dX10_learn_73 : decode cX10_learn 73 = .ok (.aload_n 1, 1) := by decide +kernel
theorem dX10_learn_74 : decode cX10_learn 74 = .ok (.getfield 42, 3) := by decide +kernel
theorem dX10_learn_77 : decode cX10_learn 77 = .ok (.aload_n 0, 1) := by decide +kernel
theorem dX10_learn_78 : decode cX10_learn 78 = .ok (.getfield 9, 3) := by decide +kernel
theorem dX10_learn_81 : decode cX10_learn 81 = .ok (.aload_n 1, 1) := by decide +kernel
theorem dX10_learn_82 : decode cX10_learn 82 = .ok (.getfield 44, 3) := by decide +kernel
theorem dX10_learn_85 : decode cX10_learn 85 = .ok (.iaload, 1) := by decide +kernel
theorem dX10_learn_86 : decode cX10_learn 86 = .ok (.if_icmp .ne 13, 3) := by decide +kernel
theorem dX10_learn_89 : decode cX10_learn 89 = .ok (.aload_n 0, 1) := by decide +kernel
theorem dX10_learn_90 : decode cX10_learn 90 = .ok (.getfield 15, 3) := by decide +kernel
theorem dX10_learn_93 : decode cX10_learn 93 = .ok (.aload_n 1, 1) := by decide +kernel
theorem dX10_learn_94 : decode cX10_learn 94 = .ok (.getfield 44, 3) := by decide +kernel
theorem dX10_learn_97 : decode cX10_learn 97 = .ok (.iconst 1, 1) := by decide +kernel
theorem dX10_learn_98 : decode cX10_learn 98 = .ok (.bastore, 1) := by decide +kernel
theorem dX10_learn_99 : decode cX10_learn 99 = .ok (.aload_n 1, 1) := by decide +kernel
theorem dX10_learn_100 : decode cX10_learn 100 = .ok (.getfield 50, 3) := by decide +kernel
theorem dX10_learn_103 : decode cX10_learn 103 = .ok (.ifCond .eq 54, 3) := by decide +kernel
theorem dX10_learn_106 : decode cX10_learn 106 = .ok (.aload_n 1, 1) := by decide +kernel
theorem dX10_learn_107 : decode cX10_learn 107 = .ok (.getfield 35, 3) := by decide +kernel
theorem dX10_learn_110 : decode cX10_learn 110 = .ok (.aload_n 0, 1) := by decide +kernel
theorem dX10_learn_111 : decode cX10_learn 111 = .ok (.getfield 19, 3) := by decide +kernel
theorem dX10_learn_114 : decode cX10_learn 114 = .ok (.aload_n 1, 1) := by decide +kernel
theorem dX10_learn_115 : decode cX10_learn 115 = .ok (.getfield 53, 3) := by decide +kernel
theorem dX10_learn_118 : decode cX10_learn 118 = .ok (.iaload, 1) := by decide +kernel
theorem dX10_learn_119 : decode cX10_learn 119 = .ok (.if_icmp .le 38, 3) := by decide +kernel
theorem dX10_learn_122 : decode cX10_learn 122 = .ok (.aload_n 0, 1) := by decide +kernel
theorem dX10_learn_123 : decode cX10_learn 123 = .ok (.getfield 19, 3) := by decide +kernel
theorem dX10_learn_126 : decode cX10_learn 126 = .ok (.aload_n 1, 1) := by decide +kernel
theorem dX10_learn_127 : decode cX10_learn 127 = .ok (.getfield 53, 3) := by decide +kernel
theorem dX10_learn_130 : decode cX10_learn 130 = .ok (.aload_n 1, 1) := by decide +kernel
theorem dX10_learn_131 : decode cX10_learn 131 = .ok (.getfield 35, 3) := by decide +kernel
theorem dX10_learn_134 : decode cX10_learn 134 = .ok (.iastore, 1) := by decide +kernel
theorem dX10_learn_135 : decode cX10_learn 135 = .ok (.aload_n 0, 1) := by decide +kernel
theorem dX10_learn_136 : decode cX10_learn 136 = .ok (.getfield 24, 3) := by decide +kernel
theorem dX10_learn_139 : decode cX10_learn 139 = .ok (.aload_n 1, 1) := by decide +kernel
theorem dX10_learn_140 : decode cX10_learn 140 = .ok (.getfield 53, 3) := by decide +kernel
theorem dX10_learn_143 : decode cX10_learn 143 = .ok (.aload_n 1, 1) := by decide +kernel
theorem dX10_learn_144 : decode cX10_learn 144 = .ok (.getfield 47, 3) := by decide +kernel
theorem dX10_learn_147 : decode cX10_learn 147 = .ok (.iconst 2, 1) := by decide +kernel
theorem dX10_learn_148 : decode cX10_learn 148 = .ok (.if_icmp .ne 7, 3) := by decide +kernel
theorem dX10_learn_151 : decode cX10_learn 151 = .ok (.aload_n 1, 1) := by decide +kernel
theorem dX10_learn_152 : decode cX10_learn 152 = .ok (.goto 4, 3) := by decide +kernel
theorem dX10_learn_155 : decode cX10_learn 155 = .ok (.aconst_null, 1) := by decide +kernel
theorem dX10_learn_156 : decode cX10_learn 156 = .ok (.aastore, 1) := by decide +kernel
theorem dX10_learn_157 : decode cX10_learn 157 = .ok (.return_, 1) := by decide +kernel
theorem dX10_markLive_0 : decode cX10_markLive 0 = .ok (.aload_n 0, 1) := by decide +kernel
theorem dX10_markLive_1 : decode cX10_markLive 1 = .ok (.invokevirtual 56, 3) := by decide +kernel
theorem dX10_markLive_4 : decode cX10_markLive 4 = .ok (.iconst 0, 1) := by decide +kernel
theorem dX10_markLive_5 : decode cX10_markLive 5 = .ok (.istore_n 2, 1) := by decide +kernel
theorem dX10_markLive_6 : decode cX10_markLive 6 = .ok (.iload_n 2, 1) := by decide +kernel
theorem dX10_markLive_7 : decode cX10_markLive 7 = .ok (.aload_n 1, 1) := by decide +kernel
theorem dX10_markLive_8 : decode cX10_markLive 8 = .ok (.getfield 59, 3) := by decide +kernel
theorem dX10_markLive_11 : decode cX10_markLive 11 = .ok (.invokevirtual 65, 3) := by decide +kernel
theorem dX10_markLive_14 : decode cX10_markLive 14 = .ok (.if_icmp .ge 50, 3) := by decide +kernel
theorem dX10_markLive_17 : decode cX10_markLive 17 = .ok (.aload_n 1, 1) := by decide +kernel
theorem dX10_markLive_18 : decode cX10_markLive 18 = .ok (.getfield 59, 3) := by decide +kernel
theorem dX10_markLive_21 : decode cX10_markLive 21 = .ok (.iload_n 2, 1) := by decide +kernel
theorem dX10_markLive_22 : decode cX10_markLive 22 = .ok (.invokevirtual 71, 3) := by decide +kernel
theorem dX10_markLive_25 : decode cX10_markLive 25 = .ok (.checkcast 75, 3) := by decide +kernel
theorem dX10_markLive_28 : decode cX10_markLive 28 = .ok (.astore_n 3, 1) := by decide +kernel
theorem dX10_markLive_29 : decode cX10_markLive 29 = .ok (.iconst 0, 1) := by decide +kernel
theorem dX10_markLive_30 : decode cX10_markLive 30 = .ok (.istore 4, 2) := by decide +kernel
theorem dX10_markLive_32 : decode cX10_markLive 32 = .ok (.iload 4, 2) := by decide +kernel
theorem dX10_markLive_34 : decode cX10_markLive 34 = .ok (.aload_n 3, 1) := by decide +kernel
theorem dX10_markLive_35 : decode cX10_markLive 35 = .ok (.getfield 77, 3) := by decide +kernel
theorem dX10_markLive_38 : decode cX10_markLive 38 = .ok (.if_icmp .ge 20, 3) := by decide +kernel
theorem dX10_markLive_41 : decode cX10_markLive 41 = .ok (.aload_n 0, 1) := by decide +kernel
theorem dX10_markLive_42 : decode cX10_markLive 42 = .ok (.aload_n 3, 1) := by decide +kernel
theorem dX10_markLive_43 : decode cX10_markLive 43 = .ok (.getfield 80, 3) := by decide +kernel
theorem dX10_markLive_46 : decode cX10_markLive 46 = .ok (.iload 4, 2) := by decide +kernel
theorem dX10_markLive_48 : decode cX10_markLive 48 = .ok (.aaload, 1) := by decide +kernel
theorem dX10_markLive_49 : decode cX10_markLive 49 = .ok (.invokevirtual 83, 3) := by decide +kernel
theorem dX10_markLive_52 : decode cX10_markLive 52 = .ok (.iinc 4 1, 3) := by decide +kernel
theorem dX10_markLive_55 : decode cX10_markLive 55 = .ok (.goto (-23), 3) := by decide +kernel
theorem dX10_markLive_58 : decode cX10_markLive 58 = .ok (.iinc 2 1, 3) := by decide +kernel
theorem dX10_markLive_61 : decode cX10_markLive 61 = .ok (.goto (-55), 3) := by decide +kernel
theorem dX10_markLive_64 : decode cX10_markLive 64 = .ok (.iconst 0, 1) := by decide +kernel
theorem dX10_markLive_65 : decode cX10_markLive 65 = .ok (.istore_n 2, 1) := by decide +kernel
theorem dX10_markLive_66 : decode cX10_markLive 66 = .ok (.iload_n 2, 1) := by decide +kernel
theorem dX10_markLive_67 : decode cX10_markLive 67 = .ok (.aload_n 1, 1) := by decide +kernel
theorem dX10_markLive_68 : decode cX10_markLive 68 = .ok (.getfield 59, 3) := by decide +kernel
theorem dX10_markLive_71 : decode cX10_markLive 71 = .ok (.invokevirtual 65, 3) := by decide +kernel
theorem dX10_markLive_74 : decode cX10_markLive 74 = .ok (.if_icmp .ge 95, 3) := by decide +kernel
theorem dX10_markLive_77 : decode cX10_markLive 77 = .ok (.aload_n 1, 1) := by decide +kernel
theorem dX10_markLive_78 : decode cX10_markLive 78 = .ok (.getfield 59, 3) := by decide +kernel
theorem dX10_markLive_81 : decode cX10_markLive 81 = .ok (.iload_n 2, 1) := by decide +kernel
theorem dX10_markLive_82 : decode cX10_markLive 82 = .ok (.invokevirtual 71, 3) := by decide +kernel
theorem dX10_markLive_85 : decode cX10_markLive 85 = .ok (.checkcast 75, 3) := by decide +kernel
theorem dX10_markLive_88 : decode cX10_markLive 88 = .ok (.astore_n 3, 1) := by decide +kernel
theorem dX10_markLive_89 : decode cX10_markLive 89 = .ok (.aload_n 3, 1) := by decide +kernel
theorem dX10_markLive_90 : decode cX10_markLive 90 = .ok (.iconst 0, 1) := by decide +kernel
theorem dX10_markLive_91 : decode cX10_markLive 91 = .ok (.putfield 87, 3) := by decide +kernel
theorem dX10_markLive_94 : decode cX10_markLive 94 = .ok (.iconst 0, 1) := by decide +kernel
theorem dX10_markLive_95 : decode cX10_markLive 95 = .ok (.istore 4, 2) := by decide +kernel
theorem dX10_markLive_97 : decode cX10_markLive 97 = .ok (.iload 4, 2) := by decide +kernel
theorem dX10_markLive_99 : decode cX10_markLive 99 = .ok (.aload_n 3, 1) := by decide +kernel
theorem dX10_markLive_100 : decode cX10_markLive 100 = .ok (.getfield 77, 3) := by decide +kernel
theorem dX10_markLive_103 : decode cX10_markLive 103 = .ok (.if_icmp .ge 60, 3) := by decide +kernel
theorem dX10_markLive_106 : decode cX10_markLive 106 = .ok (.aload_n 3, 1) := by decide +kernel
theorem dX10_markLive_107 : decode cX10_markLive 107 = .ok (.getfield 90, 3) := by decide +kernel
theorem dX10_markLive_110 : decode cX10_markLive 110 = .ok (.iload 4, 2) := by decide +kernel
theorem dX10_markLive_112 : decode cX10_markLive 112 = .ok (.aload_n 0, 1) := by decide +kernel
theorem dX10_markLive_113 : decode cX10_markLive 113 = .ok (.aload_n 3, 1) := by decide +kernel
theorem dX10_markLive_114 : decode cX10_markLive 114 = .ok (.getfield 80, 3) := by decide +kernel
theorem dX10_markLive_117 : decode cX10_markLive 117 = .ok (.iload 4, 2) := by decide +kernel
theorem dX10_markLive_119 : decode cX10_markLive 119 = .ok (.aaload, 1) := by decide +kernel
theorem dX10_markLive_120 : decode cX10_markLive 120 = .ok (.invokevirtual 93, 3) := by decide +kernel
theorem dX10_markLive_123 : decode cX10_markLive 123 = .ok (.bastore, 1) := by decide +kernel
theorem dX10_markLive_124 : decode cX10_markLive 124 = .ok (.aload_n 3, 1) := by decide +kernel
theorem dX10_markLive_125 : decode cX10_markLive 125 = .ok (.dup, 1) := by decide +kernel
theorem dX10_markLive_126 : decode cX10_markLive 126 = .ok (.getfield 87, 3) := by decide +kernel
theorem dX10_markLive_129 : decode cX10_markLive 129 = .ok (.aload_n 3, 1) := by decide +kernel
theorem dX10_markLive_130 : decode cX10_markLive 130 = .ok (.getfield 90, 3) := by decide +kernel
theorem dX10_markLive_133 : decode cX10_markLive 133 = .ok (.iload 4, 2) := by decide +kernel
theorem dX10_markLive_135 : decode cX10_markLive 135 = .ok (.baload, 1) := by decide +kernel
theorem dX10_markLive_136 : decode cX10_markLive 136 = .ok (.ifCond .eq 16, 3) := by decide +kernel
theorem dX10_markLive_139 : decode cX10_markLive 139 = .ok (.aload_n 3, 1) := by decide +kernel
theorem dX10_markLive_140 : decode cX10_markLive 140 = .ok (.getfield 80, 3) := by decide +kernel
theorem dX10_markLive_143 : decode cX10_markLive 143 = .ok (.iload 4, 2) := by decide +kernel
theorem dX10_markLive_145 : decode cX10_markLive 145 = .ok (.aaload, 1) := by decide +kernel
theorem dX10_markLive_146 : decode cX10_markLive 146 = .ok (.getfield 97, 3) := by decide +kernel
theorem dX10_markLive_149 : decode cX10_markLive 149 = .ok (.goto 4, 3) := by decide +kernel
theorem dX10_markLive_152 : decode cX10_markLive 152 = .ok (.iconst 0, 1) := by decide +kernel
theorem dX10_markLive_153 : decode cX10_markLive 153 = .ok (.iadd, 1) := by decide +kernel
theorem dX10_markLive_154 : decode cX10_markLive 154 = .ok (.putfield 87, 3) := by decide +kernel
theorem dX10_markLive_157 : decode cX10_markLive 157 = .ok (.iinc 4 1, 3) := by decide +kernel
theorem dX10_markLive_160 : decode cX10_markLive 160 = .ok (.goto (-63), 3) := by decide +kernel
theorem dX10_markLive_163 : decode cX10_markLive 163 = .ok (.iinc 2 1, 3) := by decide +kernel
theorem dX10_markLive_166 : decode cX10_markLive 166 = .ok (.goto (-100), 3) := by decide +kernel
theorem dX10_markLive_169 : decode cX10_markLive 169 = .ok (.return_, 1) := by decide +kernel
theorem dX10_isLive_0 : decode cX10_isLive 0 = .ok (.aload_n 1, 1) := by decide +kernel
theorem dX10_isLive_1 : decode cX10_isLive 1 = .ok (.getfield 47, 3) := by decide +kernel
theorem dX10_isLive_4 : decode cX10_isLive 4 = .ok (.iconst 2, 1) := by decide +kernel
theorem dX10_isLive_5 : decode cX10_isLive 5 = .ok (.if_icmp .ne 25, 3) := by decide +kernel
theorem dX10_isLive_8 : decode cX10_isLive 8 = .ok (.aload_n 1, 1) := by decide +kernel
theorem dX10_isLive_9 : decode cX10_isLive 9 = .ok (.getfield 35, 3) := by decide +kernel
theorem dX10_isLive_12 : decode cX10_isLive 12 = .ok (.aload_n 0, 1) := by decide +kernel
theorem dX10_isLive_13 : decode cX10_isLive 13 = .ok (.getfield 19, 3) := by decide +kernel
theorem dX10_isLive_16 : decode cX10_isLive 16 = .ok (.aload_n 1, 1) := by decide +kernel
theorem dX10_isLive_17 : decode cX10_isLive 17 = .ok (.getfield 53, 3) := by decide +kernel
theorem dX10_isLive_20 : decode cX10_isLive 20 = .ok (.iaload, 1) := by decide +kernel
theorem dX10_isLive_21 : decode cX10_isLive 21 = .ok (.if_icmp .ne 7, 3) := by decide +kernel
theorem dX10_isLive_24 : decode cX10_isLive 24 = .ok (.iconst 1, 1) := by decide +kernel
theorem dX10_isLive_25 : decode cX10_isLive 25 = .ok (.goto 4, 3) := by decide +kernel
theorem dX10_isLive_28 : decode cX10_isLive 28 = .ok (.iconst 0, 1) := by decide +kernel
theorem dX10_isLive_29 : decode cX10_isLive 29 = .ok (.ireturn, 1) := by decide +kernel
theorem dX10_isLive_30 : decode cX10_isLive 30 = .ok (.aload_n 1, 1) := by decide +kernel
theorem dX10_isLive_31 : decode cX10_isLive 31 = .ok (.getfield 47, 3) := by decide +kernel
theorem dX10_isLive_34 : decode cX10_isLive 34 = .ok (.iconst 3, 1) := by decide +kernel
theorem dX10_isLive_35 : decode cX10_isLive 35 = .ok (.if_icmp .ne 26, 3) := by decide +kernel
theorem dX10_isLive_38 : decode cX10_isLive 38 = .ok (.aload_n 1, 1) := by decide +kernel
theorem dX10_isLive_39 : decode cX10_isLive 39 = .ok (.getfield 100, 3) := by decide +kernel
theorem dX10_isLive_42 : decode cX10_isLive 42 = .ok (.ifnull 17, 3) := by decide +kernel
theorem dX10_isLive_45 : decode cX10_isLive 45 = .ok (.aload_n 1, 1) := by decide +kernel
theorem dX10_isLive_46 : decode cX10_isLive 46 = .ok (.getfield 100, 3) := by decide +kernel
theorem dX10_isLive_49 : decode cX10_isLive 49 = .ok (.getfield 104, 3) := by decide +kernel
theorem dX10_isLive_52 : decode cX10_isLive 52 = .ok (.ifCond .ne 7, 3) := by decide +kernel
theorem dX10_isLive_55 : decode cX10_isLive 55 = .ok (.iconst 1, 1) := by decide +kernel
theorem dX10_isLive_56 : decode cX10_isLive 56 = .ok (.goto 4, 3) := by decide +kernel
theorem dX10_isLive_59 : decode cX10_isLive 59 = .ok (.iconst 0, 1) := by decide +kernel
theorem dX10_isLive_60 : decode cX10_isLive 60 = .ok (.ireturn, 1) := by decide +kernel
theorem dX10_isLive_61 : decode cX10_isLive 61 = .ok (.aload_n 1, 1) := by decide +kernel
theorem dX10_isLive_62 : decode cX10_isLive 62 = .ok (.getfield 47, 3) := by decide +kernel
theorem dX10_isLive_65 : decode cX10_isLive 65 = .ok (.iconst 4, 1) := by decide +kernel
theorem dX10_isLive_66 : decode cX10_isLive 66 = .ok (.if_icmp .ne 25, 3) := by decide +kernel
theorem dX10_isLive_69 : decode cX10_isLive 69 = .ok (.aload_n 1, 1) := by decide +kernel
theorem dX10_isLive_70 : decode cX10_isLive 70 = .ok (.getfield 107, 3) := by decide +kernel
theorem dX10_isLive_73 : decode cX10_isLive 73 = .ok (.aload_n 0, 1) := by decide +kernel
theorem dX10_isLive_74 : decode cX10_isLive 74 = .ok (.getfield 9, 3) := by decide +kernel
theorem dX10_isLive_77 : decode cX10_isLive 77 = .ok (.aload_n 1, 1) := by decide +kernel
theorem dX10_isLive_78 : decode cX10_isLive 78 = .ok (.getfield 44, 3) := by decide +kernel
theorem dX10_isLive_81 : decode cX10_isLive 81 = .ok (.iaload, 1) := by decide +kernel
theorem dX10_isLive_82 : decode cX10_isLive 82 = .ok (.if_icmp .lt 7, 3) := by decide +kernel
theorem dX10_isLive_85 : decode cX10_isLive 85 = .ok (.iconst 1, 1) := by decide +kernel
theorem dX10_isLive_86 : decode cX10_isLive 86 = .ok (.goto 4, 3) := by decide +kernel
theorem dX10_isLive_89 : decode cX10_isLive 89 = .ok (.iconst 0, 1) := by decide +kernel
theorem dX10_isLive_90 : decode cX10_isLive 90 = .ok (.ireturn, 1) := by decide +kernel
theorem dX10_isLive_91 : decode cX10_isLive 91 = .ok (.aload_n 1, 1) := by decide +kernel
theorem dX10_isLive_92 : decode cX10_isLive 92 = .ok (.getfield 47, 3) := by decide +kernel
theorem dX10_isLive_95 : decode cX10_isLive 95 = .ok (.iconst 1, 1) := by decide +kernel
theorem dX10_isLive_96 : decode cX10_isLive 96 = .ok (.if_icmp .ne 31, 3) := by decide +kernel
theorem dX10_isLive_99 : decode cX10_isLive 99 = .ok (.aload_n 1, 1) := by decide +kernel
theorem dX10_isLive_100 : decode cX10_isLive 100 = .ok (.getfield 42, 3) := by decide +kernel
theorem dX10_isLive_103 : decode cX10_isLive 103 = .ok (.aload_n 0, 1) := by decide +kernel
theorem dX10_isLive_104 : decode cX10_isLive 104 = .ok (.getfield 9, 3) := by decide +kernel
theorem dX10_isLive_107 : decode cX10_isLive 107 = .ok (.aload_n 1, 1) := by decide +kernel
theorem dX10_isLive_108 : decode cX10_isLive 108 = .ok (.getfield 44, 3) := by decide +kernel
theorem dX10_isLive_111 : decode cX10_isLive 111 = .ok (.iaload, 1) := by decide +kernel
theorem dX10_isLive_112 : decode cX10_isLive 112 = .ok (.if_icmp .ne 15, 3) := by decide +kernel
theorem dX10_isLive_115 : decode cX10_isLive 115 = .ok (.aload_n 0, 1) := by decide +kernel
theorem dX10_isLive_116 : decode cX10_isLive 116 = .ok (.getfield 15, 3) := by decide +kernel
theorem dX10_isLive_119 : decode cX10_isLive 119 = .ok (.aload_n 1, 1) := by decide +kernel
theorem dX10_isLive_120 : decode cX10_isLive 120 = .ok (.getfield 44, 3) := by decide +kernel
theorem dX10_isLive_123 : decode cX10_isLive 123 = .ok (.baload, 1) := by decide +kernel
theorem dX10_isLive_124 : decode cX10_isLive 124 = .ok (.ifCond .eq 5, 3) := by decide +kernel
theorem dX10_isLive_127 : decode cX10_isLive 127 = .ok (.iconst 0, 1) := by decide +kernel
theorem dX10_isLive_128 : decode cX10_isLive 128 = .ok (.ireturn, 1) := by decide +kernel
theorem dX10_isLive_129 : decode cX10_isLive 129 = .ok (.aload_n 0, 1) := by decide +kernel
theorem dX10_isLive_130 : decode cX10_isLive 130 = .ok (.getfield 15, 3) := by decide +kernel
theorem dX10_isLive_133 : decode cX10_isLive 133 = .ok (.aload_n 1, 1) := by decide +kernel
theorem dX10_isLive_134 : decode cX10_isLive 134 = .ok (.getfield 44, 3) := by decide +kernel
theorem dX10_isLive_137 : decode cX10_isLive 137 = .ok (.iconst 1, 1) := by decide +kernel
theorem dX10_isLive_138 : decode cX10_isLive 138 = .ok (.bastore, 1) := by decide +kernel
theorem dX10_isLive_139 : decode cX10_isLive 139 = .ok (.iconst 1, 1) := by decide +kernel
theorem dX10_isLive_140 : decode cX10_isLive 140 = .ok (.ireturn, 1) := by decide +kernel
