theorem d_62_0 : decode (mB 62) 0 = .ok (.aload_n 0, 1) := by decide +kernel
theorem d_62_1 : decode (mB 62) 1 = .ok (.invokespecial 1, 3) := by decide +kernel
theorem d_62_4 : decode (mB 62) 4 = .ok (.aload_n 0, 1) := by decide +kernel
theorem d_62_5 : decode (mB 62) 5 = .ok (.new 7, 3) := by decide +kernel
theorem d_62_8 : decode (mB 62) 8 = .ok (.dup, 1) := by decide +kernel
theorem d_62_9 : decode (mB 62) 9 = .ok (.iload_n 1, 1) := by decide +kernel
theorem d_62_10 : decode (mB 62) 10 = .ok (.iconst 4, 1) := by decide +kernel
theorem d_62_11 : decode (mB 62) 11 = .ok (.bipush 8, 2) := by decide +kernel
theorem d_62_13 : decode (mB 62) 13 = .ok (.invokestatic 9, 3) := by decide +kernel
theorem d_62_16 : decode (mB 62) 16 = .ok (.iload_n 2, 1) := by decide +kernel
theorem d_62_17 : decode (mB 62) 17 = .ok (.iconst 2, 1) := by decide +kernel
theorem d_62_18 : decode (mB 62) 18 = .ok (.iconst 3, 1) := by decide +kernel
theorem d_62_19 : decode (mB 62) 19 = .ok (.invokestatic 9, 3) := by decide +kernel
theorem d_62_22 : decode (mB 62) 22 = .ok (.iload_n 3, 1) := by decide +kernel
theorem d_62_23 : decode (mB 62) 23 = .ok (.bipush 6, 2) := by decide +kernel
theorem d_62_25 : decode (mB 62) 25 = .ok (.bipush 16, 2) := by decide +kernel
theorem d_62_27 : decode (mB 62) 27 = .ok (.invokestatic 9, 3) := by decide +kernel
theorem d_62_30 : decode (mB 62) 30 = .ok (.iload 4, 2) := by decide +kernel
theorem d_62_32 : decode (mB 62) 32 = .ok (.iconst 5, 1) := by decide +kernel
theorem d_62_33 : decode (mB 62) 33 = .ok (.bipush 16, 2) := by decide +kernel
theorem d_62_35 : decode (mB 62) 35 = .ok (.invokestatic 9, 3) := by decide +kernel
theorem d_62_38 : decode (mB 62) 38 = .ok (.invokespecial 15, 3) := by decide +kernel
theorem d_62_41 : decode (mB 62) 41 = .ok (.putfield 18, 3) := by decide +kernel
theorem d_62_44 : decode (mB 62) 44 = .ok (.aload_n 0, 1) := by decide +kernel
theorem d_62_45 : decode (mB 62) 45 = .ok (.new 22, 3) := by decide +kernel
theorem d_62_48 : decode (mB 62) 48 = .ok (.dup, 1) := by decide +kernel
theorem d_62_49 : decode (mB 62) 49 = .ok (.aload_n 0, 1) := by decide +kernel
theorem d_62_50 : decode (mB 62) 50 = .ok (.getfield 18, 3) := by decide +kernel
theorem d_62_53 : decode (mB 62) 53 = .ok (.invokespecial 24, 3) := by decide +kernel
theorem d_62_56 : decode (mB 62) 56 = .ok (.putfield 27, 3) := by decide +kernel
theorem d_62_59 : decode (mB 62) 59 = .ok (.aload_n 0, 1) := by decide +kernel
theorem d_62_60 : decode (mB 62) 60 = .ok (.bipush 6, 2) := by decide +kernel
theorem d_62_62 : decode (mB 62) 62 = .ok (.anewarray 31, 3) := by decide +kernel
theorem d_62_65 : decode (mB 62) 65 = .ok (.putfield 33, 3) := by decide +kernel
theorem d_62_68 : decode (mB 62) 68 = .ok (.iconst 0, 1) := by decide +kernel
theorem d_62_69 : decode (mB 62) 69 = .ok (.istore 5, 2) := by decide +kernel
theorem d_62_71 : decode (mB 62) 71 = .ok (.iload 5, 2) := by decide +kernel
theorem d_62_73 : decode (mB 62) 73 = .ok (.aload_n 0, 1) := by decide +kernel
theorem d_62_74 : decode (mB 62) 74 = .ok (.getfield 33, 3) := by decide +kernel
theorem d_62_77 : decode (mB 62) 77 = .ok (.arraylength, 1) := by decide +kernel
theorem d_62_78 : decode (mB 62) 78 = .ok (.if_icmp .ge 23, 3) := by decide +kernel
theorem d_62_81 : decode (mB 62) 81 = .ok (.aload_n 0, 1) := by decide +kernel
theorem d_62_82 : decode (mB 62) 82 = .ok (.getfield 33, 3) := by decide +kernel
theorem d_62_85 : decode (mB 62) 85 = .ok (.iload 5, 2) := by decide +kernel
theorem d_62_87 : decode (mB 62) 87 = .ok (.new 31, 3) := by decide +kernel
theorem d_62_90 : decode (mB 62) 90 = .ok (.dup, 1) := by decide +kernel
theorem d_62_91 : decode (mB 62) 91 = .ok (.invokespecial 37, 3) := by decide +kernel
theorem d_62_94 : decode (mB 62) 94 = .ok (.aastore, 1) := by decide +kernel
theorem d_62_95 : decode (mB 62) 95 = .ok (.iinc 5 1, 3) := by decide +kernel
theorem d_62_98 : decode (mB 62) 98 = .ok (.goto (-27), 3) := by decide +kernel
theorem d_62_101 : decode (mB 62) 101 = .ok (.aload_n 0, 1) := by decide +kernel
theorem d_62_102 : decode (mB 62) 102 = .ok (.bipush 40, 2) := by decide +kernel
theorem d_62_104 : decode (mB 62) 104 = .ok (.anewarray 38, 3) := by decide +kernel
theorem d_62_107 : decode (mB 62) 107 = .ok (.putfield 40, 3) := by decide +kernel
theorem d_62_110 : decode (mB 62) 110 = .ok (.return_, 1) := by decide +kernel
theorem d_63_0 : decode (mB 63) 0 = .ok (.iload_n 1, 1) := by decide +kernel
theorem d_63_1 : decode (mB 63) 1 = .ok (.invokestatic 44, 3) := by decide +kernel
theorem d_63_4 : decode (mB 63) 4 = .ok (.ifCond .eq 19, 3) := by decide +kernel
theorem d_63_7 : decode (mB 63) 7 = .ok (.iload_n 2, 1) := by decide +kernel
theorem d_63_8 : decode (mB 63) 8 = .ok (.ifCond .lt 15, 3) := by decide +kernel
theorem d_63_11 : decode (mB 63) 11 = .ok (.iload_n 2, 1) := by decide +kernel
theorem d_63_12 : decode (mB 63) 12 = .ok (.iconst 3, 1) := by decide +kernel
theorem d_63_13 : decode (mB 63) 13 = .ok (.if_icmp .gt 10, 3) := by decide +kernel
theorem d_63_16 : decode (mB 63) 16 = .ok (.iload_n 3, 1) := by decide +kernel
theorem d_63_17 : decode (mB 63) 17 = .ok (.invokestatic 48, 3) := by decide +kernel
theorem d_63_20 : decode (mB 63) 20 = .ok (.ifCond .ne 5, 3) := by decide +kernel
theorem d_63_23 : decode (mB 63) 23 = .ok (.iconst (-1), 1) := by decide +kernel
theorem d_63_24 : decode (mB 63) 24 = .ok (.ireturn, 1) := by decide +kernel
theorem d_63_25 : decode (mB 63) 25 = .ok (.aload_n 0, 1) := by decide +kernel
theorem d_63_26 : decode (mB 63) 26 = .ok (.getfield 33, 3) := by decide +kernel
theorem d_63_29 : decode (mB 63) 29 = .ok (.iload_n 1, 1) := by decide +kernel
theorem d_63_30 : decode (mB 63) 30 = .ok (.aaload, 1) := by decide +kernel
theorem d_63_31 : decode (mB 63) 31 = .ok (.astore 6, 2) := by decide +kernel
theorem d_63_33 : decode (mB 63) 33 = .ok (.aload 6, 2) := by decide +kernel
theorem d_63_35 : decode (mB 63) 35 = .ok (.getfield 51, 3) := by decide +kernel
theorem d_63_38 : decode (mB 63) 38 = .ok (.bipush 40, 2) := by decide +kernel
theorem d_63_40 : decode (mB 63) 40 = .ok (.if_icmp .lt 5, 3) := by decide +kernel
theorem d_63_43 : decode (mB 63) 43 = .ok (.iconst (-1), 1) := by decide +kernel
theorem d_63_44 : decode (mB 63) 44 = .ok (.ireturn, 1) := by decide +kernel
theorem d_63_45 : decode (mB 63) 45 = .ok (.new 55, 3) := by decide +kernel
theorem d_63_48 : decode (mB 63) 48 = .ok (.dup, 1) := by decide +kernel
theorem d_63_49 : decode (mB 63) 49 = .ok (.iload_n 1, 1) := by decide +kernel
theorem d_63_50 : decode (mB 63) 50 = .ok (.aload 6, 2) := by decide +kernel
theorem d_63_52 : decode (mB 63) 52 = .ok (.getfield 51, 3) := by decide +kernel
theorem d_63_55 : decode (mB 63) 55 = .ok (.iconst 1, 1) := by decide +kernel
theorem d_63_56 : decode (mB 63) 56 = .ok (.iadd, 1) := by decide +kernel
theorem d_63_57 : decode (mB 63) 57 = .ok (.iload_n 2, 1) := by decide +kernel
theorem d_63_58 : decode (mB 63) 58 = .ok (.iload_n 3, 1) := by decide +kernel
theorem d_63_59 : decode (mB 63) 59 = .ok (.iload 4, 2) := by decide +kernel
theorem d_63_61 : decode (mB 63) 61 = .ok (.iload 5, 2) := by decide +kernel
theorem d_63_63 : decode (mB 63) 63 = .ok (.invokespecial 57, 3) := by decide +kernel
theorem d_63_66 : decode (mB 63) 66 = .ok (.astore 7, 2) := by decide +kernel
theorem d_63_68 : decode (mB 63) 68 = .ok (.aload_n 0, 1) := by decide +kernel
theorem d_63_69 : decode (mB 63) 69 = .ok (.aload 7, 2) := by decide +kernel
theorem d_63_71 : decode (mB 63) 71 = .ok (.aload 6, 2) := by decide +kernel
theorem d_63_73 : decode (mB 63) 73 = .ok (.invokevirtual 60, 3) := by decide +kernel
theorem d_63_76 : decode (mB 63) 76 = .ok (.istore 8, 2) := by decide +kernel
theorem d_63_78 : decode (mB 63) 78 = .ok (.iload 8, 2) := by decide +kernel
theorem d_63_80 : decode (mB 63) 80 = .ok (.ifCond .ge 6, 3) := by decide +kernel
theorem d_63_83 : decode (mB 63) 83 = .ok (.iload 8, 2) := by decide +kernel
theorem d_63_85 : decode (mB 63) 85 = .ok (.ireturn, 1) := by decide +kernel
theorem d_63_86 : decode (mB 63) 86 = .ok (.aload 6, 2) := by decide +kernel
theorem d_63_88 : decode (mB 63) 88 = .ok (.aload 7, 2) := by decide +kernel
theorem d_63_90 : decode (mB 63) 90 = .ok (.invokevirtual 64, 3) := by decide +kernel
theorem d_63_93 : decode (mB 63) 93 = .ok (.aload 7, 2) := by decide +kernel
theorem d_63_95 : decode (mB 63) 95 = .ok (.getfield 68, 3) := by decide +kernel
theorem d_63_98 : decode (mB 63) 98 = .ok (.ireturn, 1) := by decide +kernel
theorem d_64_0 : decode (mB 64) 0 = .ok (.aload_n 0, 1) := by decide +kernel
theorem d_64_1 : decode (mB 64) 1 = .ok (.iload_n 1, 1) := by decide +kernel
theorem d_64_2 : decode (mB 64) 2 = .ok (.iload_n 2, 1) := by decide +kernel
theorem d_64_3 : decode (mB 64) 3 = .ok (.invokevirtual 71, 3) := by decide +kernel
theorem d_64_6 : decode (mB 64) 6 = .ok (.astore_n 3, 1) := by decide +kernel
theorem d_64_7 : decode (mB 64) 7 = .ok (.aload_n 3, 1) := by decide +kernel
theorem d_64_8 : decode (mB 64) 8 = .ok (.ifnonnull 5, 3) := by decide +kernel
theorem d_64_11 : decode (mB 64) 11 = .ok (.iconst (-1), 1) := by decide +kernel
theorem d_64_12 : decode (mB 64) 12 = .ok (.ireturn, 1) := by decide +kernel
theorem d_64_13 : decode (mB 64) 13 = .ok (.aload_n 0, 1) := by decide +kernel
theorem d_64_14 : decode (mB 64) 14 = .ok (.aload_n 3, 1) := by decide +kernel
theorem d_64_15 : decode (mB 64) 15 = .ok (.aload_n 0, 1) := by decide +kernel
theorem d_64_16 : decode (mB 64) 16 = .ok (.getfield 33, 3) := by decide +kernel
theorem d_64_19 : decode (mB 64) 19 = .ok (.iload_n 1, 1) := by decide +kernel
theorem d_64_20 : decode (mB 64) 20 = .ok (.aaload, 1) := by decide +kernel
theorem d_64_21 : decode (mB 64) 21 = .ok (.invokevirtual 60, 3) := by decide +kernel
theorem d_64_24 : decode (mB 64) 24 = .ok (.ireturn, 1) := by decide +kernel
theorem d_65_0 : decode (mB 65) 0 = .ok (.aload_n 0, 1) := by decide +kernel
theorem d_65_1 : decode (mB 65) 1 = .ok (.iload_n 1, 1) := by decide +kernel
theorem d_65_2 : decode (mB 65) 2 = .ok (.invokevirtual 75, 3) := by decide +kernel
theorem d_65_5 : decode (mB 65) 5 = .ok (.astore_n 2, 1) := by decide +kernel
theorem d_65_6 : decode (mB 65) 6 = .ok (.aload_n 2, 1) := by decide +kernel
theorem d_65_7 : decode (mB 65) 7 = .ok (.ifnonnull 5, 3) := by decide +kernel
theorem d_65_10 : decode (mB 65) 10 = .ok (.iconst (-1), 1) := by decide +kernel
theorem d_65_11 : decode (mB 65) 11 = .ok (.ireturn, 1) := by decide +kernel
theorem d_65_12 : decode (mB 65) 12 = .ok (.aload_n 2, 1) := by decide +kernel
theorem d_65_13 : decode (mB 65) 13 = .ok (.getfield 79, 3) := by decide +kernel
theorem d_65_16 : decode (mB 65) 16 = .ok (.ifnull 37, 3) := by decide +kernel
theorem d_65_19 : decode (mB 65) 19 = .ok (.aload_n 0, 1) := by decide +kernel
theorem d_65_20 : decode (mB 65) 20 = .ok (.getfield 40, 3) := by decide +kernel
theorem d_65_23 : decode (mB 65) 23 = .ok (.iload_n 1, 1) := by decide +kernel
theorem d_65_24 : decode (mB 65) 24 = .ok (.aconst_null, 1) := by decide +kernel
theorem d_65_25 : decode (mB 65) 25 = .ok (.aastore, 1) := by decide +kernel
theorem d_65_26 : decode (mB 65) 26 = .ok (.aload_n 0, 1) := by decide +kernel
theorem d_65_27 : decode (mB 65) 27 = .ok (.getfield 33, 3) := by decide +kernel
theorem d_65_30 : decode (mB 65) 30 = .ok (.aload_n 2, 1) := by decide +kernel
theorem d_65_31 : decode (mB 65) 31 = .ok (.getfield 83, 3) := by decide +kernel
theorem d_65_34 : decode (mB 65) 34 = .ok (.getfield 87, 3) := by decide +kernel
theorem d_65_37 : decode (mB 65) 37 = .ok (.aaload, 1) := by decide +kernel
theorem d_65_38 : decode (mB 65) 38 = .ok (.aload_n 2, 1) := by decide +kernel
theorem d_65_39 : decode (mB 65) 39 = .ok (.getfield 83, 3) := by decide +kernel
theorem d_65_42 : decode (mB 65) 42 = .ok (.getfield 68, 3) := by decide +kernel
theorem d_65_45 : decode (mB 65) 45 = .ok (.aload_n 2, 1) := by decide +kernel
theorem d_65_46 : decode (mB 65) 46 = .ok (.getfield 79, 3) := by decide +kernel
theorem d_65_49 : decode (mB 65) 49 = .ok (.invokevirtual 90, 3) := by decide +kernel
theorem d_65_52 : decode (mB 65) 52 = .ok (.ireturn, 1) := by decide +kernel
theorem d_65_53 : decode (mB 65) 53 = .ok (.aload_n 2, 1) := by decide +kernel
theorem d_65_54 : decode (mB 65) 54 = .ok (.getfield 94, 3) := by decide +kernel
theorem d_65_57 : decode (mB 65) 57 = .ok (.astore_n 3, 1) := by decide +kernel
theorem d_65_58 : decode (mB 65) 58 = .ok (.aload_n 3, 1) := by decide +kernel
theorem d_65_59 : decode (mB 65) 59 = .ok (.ifnull 11, 3) := by decide +kernel
theorem d_65_62 : decode (mB 65) 62 = .ok (.aload_n 3, 1) := by decide +kernel
theorem d_65_63 : decode (mB 65) 63 = .ok (.getfield 98, 3) := by decide +kernel
theorem d_65_66 : decode (mB 65) 66 = .ok (.iconst 2, 1) := by decide +kernel
theorem d_65_67 : decode (mB 65) 67 = .ok (.if_icmp .ne 12, 3) := by decide +kernel
theorem d_65_70 : decode (mB 65) 70 = .ok (.aload_n 0, 1) := by decide +kernel
theorem d_65_71 : decode (mB 65) 71 = .ok (.getfield 40, 3) := by decide +kernel
theorem d_65_74 : decode (mB 65) 74 = .ok (.iload_n 1, 1) := by decide +kernel
theorem d_65_75 : decode (mB 65) 75 = .ok (.aconst_null, 1) := by decide +kernel
theorem d_65_76 : decode (mB 65) 76 = .ok (.aastore, 1) := by decide +kernel
theorem d_65_77 : decode (mB 65) 77 = .ok (.iconst 1, 1) := by decide +kernel
theorem d_65_78 : decode (mB 65) 78 = .ok (.ireturn, 1) := by decide +kernel
theorem d_65_79 : decode (mB 65) 79 = .ok (.aload_n 3, 1) := by decide +kernel
theorem d_65_80 : decode (mB 65) 80 = .ok (.getfield 98, 3) := by decide +kernel
theorem d_65_83 : decode (mB 65) 83 = .ok (.iconst 1, 1) := by decide +kernel
theorem d_65_84 : decode (mB 65) 84 = .ok (.if_icmp .ne 5, 3) := by decide +kernel
theorem d_65_87 : decode (mB 65) 87 = .ok (.iconst 2, 1) := by decide +kernel
theorem d_65_88 : decode (mB 65) 88 = .ok (.ireturn, 1) := by decide +kernel
theorem d_65_89 : decode (mB 65) 89 = .ok (.aload_n 0, 1) := by decide +kernel
theorem d_65_90 : decode (mB 65) 90 = .ok (.aload_n 3, 1) := by decide +kernel
theorem d_65_91 : decode (mB 65) 91 = .ok (.aload_n 2, 1) := by decide +kernel
theorem d_65_92 : decode (mB 65) 92 = .ok (.invokevirtual 103, 3) := by decide +kernel
theorem d_65_95 : decode (mB 65) 95 = .ok (.astore 4, 2) := by decide +kernel
theorem d_65_97 : decode (mB 65) 97 = .ok (.aload 4, 2) := by decide +kernel
theorem d_65_99 : decode (mB 65) 99 = .ok (.ifnonnull 12, 3) := by decide +kernel
theorem d_65_102 : decode (mB 65) 102 = .ok (.aload_n 0, 1) := by decide +kernel
theorem d_65_103 : decode (mB 65) 103 = .ok (.getfield 40, 3) := by decide +kernel
theorem d_65_106 : decode (mB 65) 106 = .ok (.iload_n 1, 1) := by decide +kernel
theorem d_65_107 : decode (mB 65) 107 = .ok (.aconst_null, 1) := by decide +kernel
theorem d_65_108 : decode (mB 65) 108 = .ok (.aastore, 1) := by decide +kernel
theorem d_65_109 : decode (mB 65) 109 = .ok (.iconst 3, 1) := by decide +kernel
theorem d_65_110 : decode (mB 65) 110 = .ok (.ireturn, 1) := by decide +kernel
theorem d_65_111 : decode (mB 65) 111 = .ok (.aload_n 0, 1) := by decide +kernel
theorem d_65_112 : decode (mB 65) 112 = .ok (.getfield 40, 3) := by decide +kernel
theorem d_65_115 : decode (mB 65) 115 = .ok (.iload_n 1, 1) := by decide +kernel
theorem d_65_116 : decode (mB 65) 116 = .ok (.new 38, 3) := by decide +kernel
theorem d_65_119 : decode (mB 65) 119 = .ok (.dup, 1) := by decide +kernel
theorem d_65_120 : decode (mB 65) 120 = .ok (.aload_n 2, 1) := by decide +kernel
theorem d_65_121 : decode (mB 65) 121 = .ok (.getfield 83, 3) := by decide +kernel
theorem d_65_124 : decode (mB 65) 124 = .ok (.aload_n 2, 1) := by decide +kernel
theorem d_65_125 : decode (mB 65) 125 = .ok (.getfield 107, 3) := by decide +kernel
theorem d_65_128 : decode (mB 65) 128 = .ok (.aconst_null, 1) := by decide +kernel
theorem d_65_129 : decode (mB 65) 129 = .ok (.aload 4, 2) := by decide +kernel
theorem d_65_131 : decode (mB 65) 131 = .ok (.invokespecial 110, 3) := by decide +kernel
theorem d_65_134 : decode (mB 65) 134 = .ok (.aastore, 1) := by decide +kernel
theorem d_65_135 : decode (mB 65) 135 = .ok (.iconst 0, 1) := by decide +kernel
theorem d_65_136 : decode (mB 65) 136 = .ok (.ireturn, 1) := by decide +kernel
theorem d_66_0 : decode (mB 66) 0 = .ok (.aload_n 0, 1) := by decide +kernel
theorem d_66_1 : decode (mB 66) 1 = .ok (.iload_n 1, 1) := by decide +kernel
theorem d_66_2 : decode (mB 66) 2 = .ok (.invokevirtual 75, 3) := by decide +kernel
theorem d_66_5 : decode (mB 66) 5 = .ok (.ifnonnull 5, 3) := by decide +kernel
theorem d_66_8 : decode (mB 66) 8 = .ok (.iconst 0, 1) := by decide +kernel
theorem d_66_9 : decode (mB 66) 9 = .ok (.ireturn, 1) := by decide +kernel
theorem d_66_10 : decode (mB 66) 10 = .ok (.aload_n 0, 1) := by decide +kernel
theorem d_66_11 : decode (mB 66) 11 = .ok (.getfield 40, 3) := by decide +kernel
theorem d_66_14 : decode (mB 66) 14 = .ok (.iload_n 1, 1) := by decide +kernel
theorem d_66_15 : decode (mB 66) 15 = .ok (.aconst_null, 1) := by decide +kernel
theorem d_66_16 : decode (mB 66) 16 = .ok (.aastore, 1) := by decide +kernel
theorem d_66_17 : decode (mB 66) 17 = .ok (.iconst 1, 1) := by decide +kernel
theorem d_66_18 : decode (mB 66) 18 = .ok (.ireturn, 1) := by decide +kernel
theorem d_67_0 : decode (mB 67) 0 = .ok (.aload_n 0, 1) := by decide +kernel
theorem d_67_1 : decode (mB 67) 1 = .ok (.iload_n 1, 1) := by decide +kernel
theorem d_67_2 : decode (mB 67) 2 = .ok (.invokevirtual 75, 3) := by decide +kernel
theorem d_67_5 : decode (mB 67) 5 = .ok (.astore_n 2, 1) := by decide +kernel
theorem d_67_6 : decode (mB 67) 6 = .ok (.aload_n 2, 1) := by decide +kernel
theorem d_67_7 : decode (mB 67) 7 = .ok (.ifnonnull 5, 3) := by decide +kernel
theorem d_67_10 : decode (mB 67) 10 = .ok (.iconst (-1), 1) := by decide +kernel
theorem d_67_11 : decode (mB 67) 11 = .ok (.ireturn, 1) := by decide +kernel
theorem d_67_12 : decode (mB 67) 12 = .ok (.aload_n 0, 1) := by decide +kernel
theorem d_67_13 : decode (mB 67) 13 = .ok (.invokevirtual 113, 3) := by decide +kernel
theorem d_67_16 : decode (mB 67) 16 = .ok (.istore_n 3, 1) := by decide +kernel
theorem d_67_17 : decode (mB 67) 17 = .ok (.iload_n 3, 1) := by decide +kernel
theorem d_67_18 : decode (mB 67) 18 = .ok (.iconst (-1), 1) := by decide +kernel
theorem d_67_19 : decode (mB 67) 19 = .ok (.if_icmp .ne 6, 3) := by decide +kernel
theorem d_67_22 : decode (mB 67) 22 = .ok (.bipush (-3), 2) := by decide +kernel
theorem d_67_24 : decode (mB 67) 24 = .ok (.ireturn, 1) := by decide +kernel
theorem d_67_25 : decode (mB 67) 25 = .ok (.aload_n 0, 1) := by decide +kernel
theorem d_67_26 : decode (mB 67) 26 = .ok (.getfield 40, 3) := by decide +kernel
theorem d_67_29 : decode (mB 67) 29 = .ok (.iload_n 3, 1) := by decide +kernel
theorem d_67_30 : decode (mB 67) 30 = .ok (.aload_n 2, 1) := by decide +kernel
theorem d_67_31 : decode (mB 67) 31 = .ok (.aastore, 1) := by decide +kernel
theorem d_67_32 : decode (mB 67) 32 = .ok (.iload_n 3, 1) := by decide +kernel
theorem d_67_33 : decode (mB 67) 33 = .ok (.ireturn, 1) := by decide +kernel
theorem d_68_0 : decode (mB 68) 0 = .ok (.aload_n 0, 1) := by decide +kernel
theorem d_68_1 : decode (mB 68) 1 = .ok (.iload_n 1, 1) := by decide +kernel
theorem d_68_2 : decode (mB 68) 2 = .ok (.invokevirtual 75, 3) := by decide +kernel
theorem d_68_5 : decode (mB 68) 5 = .ok (.astore_n 3, 1) := by decide +kernel
theorem d_68_6 : decode (mB 68) 6 = .ok (.aload_n 3, 1) := by decide +kernel
theorem d_68_7 : decode (mB 68) 7 = .ok (.ifnonnull 13, 3) := by decide +kernel
theorem d_68_10 : decode (mB 68) 10 = .ok (.new 117, 3) := by decide +kernel
theorem d_68_13 : decode (mB 68) 13 = .ok (.dup, 1) := by decide +kernel
theorem d_68_14 : decode (mB 68) 14 = .ok (.ldc 119, 2) := by decide +kernel
theorem d_68_16 : decode (mB 68) 16 = .ok (.invokespecial 121, 3) := by decide +kernel
theorem d_68_19 : decode (mB 68) 19 = .ok (.athrow, 1) := by decide +kernel
theorem d_68_20 : decode (mB 68) 20 = .ok (.iload_n 2, 1) := by decide +kernel
theorem d_68_21 : decode (mB 68) 21 = .ok (.tableswitch 114 0 5 #[39, 52, 60, 68, 87, 106], 39) := by decide +kernel
theorem d_68_60 : decode (mB 68) 60 = .ok (.aload_n 3, 1) := by decide +kernel
theorem d_68_61 : decode (mB 68) 61 = .ok (.getfield 79, 3) := by decide +kernel
theorem d_68_64 : decode (mB 68) 64 = .ok (.ifnonnull 7, 3) := by decide +kernel
theorem d_68_67 : decode (mB 68) 67 = .ok (.iconst 0, 1) := by decide +kernel
theorem d_68_68 : decode (mB 68) 68 = .ok (.goto 4, 3) := by decide +kernel
theorem d_68_71 : decode (mB 68) 71 = .ok (.iconst 1, 1) := by decide +kernel
theorem d_68_72 : decode (mB 68) 72 = .ok (.ireturn, 1) := by decide +kernel
theorem d_68_73 : decode (mB 68) 73 = .ok (.aload_n 3, 1) := by decide +kernel
theorem d_68_74 : decode (mB 68) 74 = .ok (.getfield 83, 3) := by decide +kernel
theorem d_68_77 : decode (mB 68) 77 = .ok (.getfield 87, 3) := by decide +kernel
theorem d_68_80 : decode (mB 68) 80 = .ok (.ireturn, 1) := by decide +kernel
theorem d_68_81 : decode (mB 68) 81 = .ok (.aload_n 3, 1) := by decide +kernel
theorem d_68_82 : decode (mB 68) 82 = .ok (.getfield 83, 3) := by decide +kernel
theorem d_68_85 : decode (mB 68) 85 = .ok (.getfield 68, 3) := by decide +kernel
theorem d_68_88 : decode (mB 68) 88 = .ok (.ireturn, 1) := by decide +kernel
theorem d_68_89 : decode (mB 68) 89 = .ok (.aload_n 3, 1) := by decide +kernel
theorem d_68_90 : decode (mB 68) 90 = .ok (.getfield 94, 3) := by decide +kernel
theorem d_68_93 : decode (mB 68) 93 = .ok (.ifnonnull 7, 3) := by decide +kernel
theorem d_68_96 : decode (mB 68) 96 = .ok (.iconst (-1), 1) := by decide +kernel
theorem d_68_97 : decode (mB 68) 97 = .ok (.goto 10, 3) := by decide +kernel
theorem d_68_100 : decode (mB 68) 100 = .ok (.aload_n 3, 1) := by decide +kernel
theorem d_68_101 : decode (mB 68) 101 = .ok (.getfield 94, 3) := by decide +kernel
theorem d_68_104 : decode (mB 68) 104 = .ok (.getfield 124, 3) := by decide +kernel
theorem d_68_107 : decode (mB 68) 107 = .ok (.ireturn, 1) := by decide +kernel
theorem d_68_108 : decode (mB 68) 108 = .ok (.aload_n 3, 1) := by decide +kernel
theorem d_68_109 : decode (mB 68) 109 = .ok (.getfield 79, 3) := by decide +kernel
theorem d_68_112 : decode (mB 68) 112 = .ok (.ifnonnull 7, 3) := by decide +kernel
theorem d_68_115 : decode (mB 68) 115 = .ok (.iconst (-1), 1) := by decide +kernel
theorem d_68_116 : decode (mB 68) 116 = .ok (.goto 10, 3) := by decide +kernel
theorem d_68_119 : decode (mB 68) 119 = .ok (.aload_n 3, 1) := by decide +kernel
theorem d_68_120 : decode (mB 68) 120 = .ok (.getfield 79, 3) := by decide +kernel
theorem d_68_123 : decode (mB 68) 123 = .ok (.getfield 125, 3) := by decide +kernel
theorem d_68_126 : decode (mB 68) 126 = .ok (.ireturn, 1) := by decide +kernel
theorem d_68_127 : decode (mB 68) 127 = .ok (.aload_n 3, 1) := by decide +kernel
theorem d_68_128 : decode (mB 68) 128 = .ok (.getfield 83, 3) := by decide +kernel
theorem d_68_131 : decode (mB 68) 131 = .ok (.getfield 130, 3) := by decide +kernel
theorem d_68_134 : decode (mB 68) 134 = .ok (.ireturn, 1) := by decide +kernel
theorem d_68_135 : decode (mB 68) 135 = .ok (.new 117, 3) := by decide +kernel
theorem d_68_138 : decode (mB 68) 138 = .ok (.dup, 1) := by decide +kernel
theorem d_68_139 : decode (mB 68) 139 = .ok (.ldc 133, 2) := by decide +kernel
theorem d_68_141 : decode (mB 68) 141 = .ok (.invokespecial 121, 3) := by decide +kernel
theorem d_68_144 : decode (mB 68) 144 = .ok (.athrow, 1) := by decide +kernel
theorem d_69_0 : decode (mB 69) 0 = .ok (.aload_n 0, 1) := by decide +kernel
theorem d_69_1 : decode (mB 69) 1 = .ok (.iload_n 1, 1) := by decide +kernel
theorem d_69_2 : decode (mB 69) 2 = .ok (.iload_n 2, 1) := by decide +kernel
theorem d_69_3 : decode (mB 69) 3 = .ok (.invokevirtual 71, 3) := by decide +kernel
theorem d_69_6 : decode (mB 69) 6 = .ok (.ifnonnull 6, 3) := by decide +kernel
theorem d_69_9 : decode (mB 69) 9 = .ok (.ldc 135, 2) := by decide +kernel
theorem d_69_11 : decode (mB 69) 11 = .ok (.ireturn, 1) := by decide +kernel
theorem d_69_12 : decode (mB 69) 12 = .ok (.aload_n 0, 1) := by decide +kernel
theorem d_69_13 : decode (mB 69) 13 = .ok (.getfield 33, 3) := by decide +kernel
theorem d_69_16 : decode (mB 69) 16 = .ok (.iload_n 1, 1) := by decide +kernel
theorem d_69_17 : decode (mB 69) 17 = .ok (.aaload, 1) := by decide +kernel
theorem d_69_18 : decode (mB 69) 18 = .ok (.getfield 136, 3) := by decide +kernel
theorem d_69_21 : decode (mB 69) 21 = .ok (.iload_n 2, 1) := by decide +kernel
theorem d_69_22 : decode (mB 69) 22 = .ok (.iconst 1, 1) := by decide +kernel
theorem d_69_23 : decode (mB 69) 23 = .ok (.isub, 1) := by decide +kernel
theorem d_69_24 : decode (mB 69) 24 = .ok (.aaload, 1) := by decide +kernel
theorem d_69_25 : decode (mB 69) 25 = .ok (.astore 4, 2) := by decide +kernel
theorem d_69_27 : decode (mB 69) 27 = .ok (.aload 4, 2) := by decide +kernel
theorem d_69_29 : decode (mB 69) 29 = .ok (.ifnonnull 6, 3) := by decide +kernel
theorem d_69_32 : decode (mB 69) 32 = .ok (.ldc 135, 2) := by decide +kernel
theorem d_69_34 : decode (mB 69) 34 = .ok (.ireturn, 1) := by decide +kernel
theorem d_69_35 : decode (mB 69) 35 = .ok (.iload_n 3, 1) := by decide +kernel
theorem d_69_36 : decode (mB 69) 36 = .ok (.tableswitch 46 0 2 #[28, 34, 40], 28) := by decide +kernel
theorem d_69_64 : decode (mB 69) 64 = .ok (.aload 4, 2) := by decide +kernel
theorem d_69_66 : decode (mB 69) 66 = .ok (.getfield 125, 3) := by decide +kernel
theorem d_69_69 : decode (mB 69) 69 = .ok (.ireturn, 1) := by decide +kernel
theorem d_69_70 : decode (mB 69) 70 = .ok (.aload 4, 2) := by decide +kernel
theorem d_69_72 : decode (mB 69) 72 = .ok (.getfield 140, 3) := by decide +kernel
theorem d_69_75 : decode (mB 69) 75 = .ok (.ireturn, 1) := by decide +kernel
theorem d_69_76 : decode (mB 69) 76 = .ok (.aload 4, 2) := by decide +kernel
theorem d_69_78 : decode (mB 69) 78 = .ok (.getfield 143, 3) := by decide +kernel
theorem d_69_81 : decode (mB 69) 81 = .ok (.ireturn, 1) := by decide +kernel
theorem d_69_82 : decode (mB 69) 82 = .ok (.ldc 135, 2) := by decide +kernel
theorem d_69_84 : decode (mB 69) 84 = .ok (.ireturn, 1) := by decide +kernel
theorem d_70_0 : decode (mB 70) 0 = .ok (.iload_n 1, 1) := by decide +kernel
theorem d_70_1 : decode (mB 70) 1 = .ok (.invokestatic 44, 3) := by decide +kernel
theorem d_70_4 : decode (mB 70) 4 = .ok (.ifCond .eq 15, 3) := by decide +kernel
theorem d_70_7 : decode (mB 70) 7 = .ok (.aload_n 0, 1) := by decide +kernel
theorem d_70_8 : decode (mB 70) 8 = .ok (.getfield 33, 3) := by decide +kernel
theorem d_70_11 : decode (mB 70) 11 = .ok (.iload_n 1, 1) := by decide +kernel
theorem d_70_12 : decode (mB 70) 12 = .ok (.aaload, 1) := by decide +kernel
theorem d_70_13 : decode (mB 70) 13 = .ok (.invokevirtual 146, 3) := by decide +kernel
theorem d_70_16 : decode (mB 70) 16 = .ok (.goto 4, 3) := by decide +kernel
theorem d_70_19 : decode (mB 70) 19 = .ok (.iconst (-1), 1) := by decide +kernel
theorem d_70_20 : decode (mB 70) 20 = .ok (.ireturn, 1) := by decide +kernel
theorem d_71_0 : decode (mB 71) 0 = .ok (.aload_n 0, 1) := by decide +kernel
theorem d_71_1 : decode (mB 71) 1 = .ok (.iload_n 1, 1) := by decide +kernel
theorem d_71_2 : decode (mB 71) 2 = .ok (.invokevirtual 149, 3) := by decide +kernel
theorem d_71_5 : decode (mB 71) 5 = .ok (.ifCond .eq 19, 3) := by decide +kernel
theorem d_71_8 : decode (mB 71) 8 = .ok (.aload_n 0, 1) := by decide +kernel
theorem d_71_9 : decode (mB 71) 9 = .ok (.getfield 18, 3) := by decide +kernel
theorem d_71_12 : decode (mB 71) 12 = .ok (.getfield 152, 3) := by decide +kernel
theorem d_71_15 : decode (mB 71) 15 = .ok (.iload_n 1, 1) := by decide +kernel
theorem d_71_16 : decode (mB 71) 16 = .ok (.aaload, 1) := by decide +kernel
theorem d_71_17 : decode (mB 71) 17 = .ok (.getfield 98, 3) := by decide +kernel
theorem d_71_20 : decode (mB 71) 20 = .ok (.iconst 2, 1) := by decide +kernel
theorem d_71_21 : decode (mB 71) 21 = .ok (.if_icmp .ne 5, 3) := by decide +kernel
theorem d_71_24 : decode (mB 71) 24 = .ok (.iconst 0, 1) := by decide +kernel
theorem d_71_25 : decode (mB 71) 25 = .ok (.ireturn, 1) := by decide +kernel
theorem d_71_26 : decode (mB 71) 26 = .ok (.aload_n 0, 1) := by decide +kernel
theorem d_71_27 : decode (mB 71) 27 = .ok (.getfield 27, 3) := by decide +kernel
theorem d_71_30 : decode (mB 71) 30 = .ok (.aload_n 0, 1) := by decide +kernel
theorem d_71_31 : decode (mB 71) 31 = .ok (.getfield 18, 3) := by decide +kernel
theorem d_71_34 : decode (mB 71) 34 = .ok (.getfield 152, 3) := by decide +kernel
theorem d_71_37 : decode (mB 71) 37 = .ok (.iload_n 1, 1) := by decide +kernel
theorem d_71_38 : decode (mB 71) 38 = .ok (.aaload, 1) := by decide +kernel
theorem d_71_39 : decode (mB 71) 39 = .ok (.invokevirtual 156, 3) := by decide +kernel
theorem d_71_42 : decode (mB 71) 42 = .ok (.iconst 1, 1) := by decide +kernel
theorem d_71_43 : decode (mB 71) 43 = .ok (.ireturn, 1) := by decide +kernel
theorem d_72_0 : decode (mB 72) 0 = .ok (.aload_n 0, 1) := by decide +kernel
theorem d_72_1 : decode (mB 72) 1 = .ok (.iload_n 1, 1) := by decide +kernel
theorem d_72_2 : decode (mB 72) 2 = .ok (.iconst 2, 1) := by decide +kernel
theorem d_72_3 : decode (mB 72) 3 = .ok (.iconst 0, 1) := by decide +kernel
theorem d_72_4 : decode (mB 72) 4 = .ok (.invokevirtual 160, 3) := by decide +kernel
theorem d_72_7 : decode (mB 72) 7 = .ok (.ireturn, 1) := by decide +kernel
theorem d_73_0 : decode (mB 73) 0 = .ok (.aload_n 0, 1) := by decide +kernel
theorem d_73_1 : decode (mB 73) 1 = .ok (.iload_n 1, 1) := by decide +kernel
theorem d_73_2 : decode (mB 73) 2 = .ok (.iconst 0, 1) := by decide +kernel
theorem d_73_3 : decode (mB 73) 3 = .ok (.iconst 1, 1) := by decide +kernel
theorem d_73_4 : decode (mB 73) 4 = .ok (.invokevirtual 160, 3) := by decide +kernel
theorem d_73_7 : decode (mB 73) 7 = .ok (.ireturn, 1) := by decide +kernel
theorem d_74_0 : decode (mB 74) 0 = .ok (.aload_n 0, 1) := by decide +kernel
theorem d_74_1 : decode (mB 74) 1 = .ok (.iload_n 1, 1) := by decide +kernel
theorem d_74_2 : decode (mB 74) 2 = .ok (.iconst 1, 1) := by decide +kernel
theorem d_74_3 : decode (mB 74) 3 = .ok (.iconst 0, 1) := by decide +kernel
theorem d_74_4 : decode (mB 74) 4 = .ok (.invokevirtual 160, 3) := by decide +kernel
theorem d_74_7 : decode (mB 74) 7 = .ok (.ireturn, 1) := by decide +kernel
theorem d_75_0 : decode (mB 75) 0 = .ok (.aload_n 0, 1) := by decide +kernel
theorem d_75_1 : decode (mB 75) 1 = .ok (.iload_n 1, 1) := by decide +kernel
theorem d_75_2 : decode (mB 75) 2 = .ok (.invokevirtual 149, 3) := by decide +kernel
theorem d_75_5 : decode (mB 75) 5 = .ok (.ifCond .eq 19, 3) := by decide +kernel
theorem d_75_8 : decode (mB 75) 8 = .ok (.iload_n 2, 1) := by decide +kernel
theorem d_75_9 : decode (mB 75) 9 = .ok (.iconst (-1), 1) := by decide +kernel
theorem d_75_10 : decode (mB 75) 10 = .ok (.if_icmp .lt 14, 3) := by decide +kernel
theorem d_75_13 : decode (mB 75) 13 = .ok (.iload_n 2, 1) := by decide +kernel
theorem d_75_14 : decode (mB 75) 14 = .ok (.aload_n 0, 1) := by decide +kernel
theorem d_75_15 : decode (mB 75) 15 = .ok (.getfield 18, 3) := by decide +kernel
theorem d_75_18 : decode (mB 75) 18 = .ok (.getfield 164, 3) := by decide +kernel
theorem d_75_21 : decode (mB 75) 21 = .ok (.if_icmp .le 5, 3) := by decide +kernel
theorem d_75_24 : decode (mB 75) 24 = .ok (.iconst 0, 1) := by decide +kernel
theorem d_75_25 : decode (mB 75) 25 = .ok (.ireturn, 1) := by decide +kernel
theorem d_75_26 : decode (mB 75) 26 = .ok (.aload_n 0, 1) := by decide +kernel
theorem d_75_27 : decode (mB 75) 27 = .ok (.getfield 18, 3) := by decide +kernel
theorem d_75_30 : decode (mB 75) 30 = .ok (.getfield 152, 3) := by decide +kernel
theorem d_75_33 : decode (mB 75) 33 = .ok (.iload_n 1, 1) := by decide +kernel
theorem d_75_34 : decode (mB 75) 34 = .ok (.aaload, 1) := by decide +kernel
theorem d_75_35 : decode (mB 75) 35 = .ok (.astore_n 3, 1) := by decide +kernel
theorem d_75_36 : decode (mB 75) 36 = .ok (.aload_n 3, 1) := by decide +kernel
theorem d_75_37 : decode (mB 75) 37 = .ok (.getfield 98, 3) := by decide +kernel
theorem d_75_40 : decode (mB 75) 40 = .ok (.ifCond .eq 5, 3) := by decide +kernel
theorem d_75_43 : decode (mB 75) 43 = .ok (.iconst 0, 1) := by decide +kernel
theorem d_75_44 : decode (mB 75) 44 = .ok (.ireturn, 1) := by decide +kernel
theorem d_75_45 : decode (mB 75) 45 = .ok (.aload_n 3, 1) := by decide +kernel
theorem d_75_46 : decode (mB 75) 46 = .ok (.iload_n 2, 1) := by decide +kernel
theorem d_75_47 : decode (mB 75) 47 = .ok (.putfield 167, 3) := by decide +kernel
theorem d_75_50 : decode (mB 75) 50 = .ok (.iconst 1, 1) := by decide +kernel
theorem d_75_51 : decode (mB 75) 51 = .ok (.ireturn, 1) := by decide +kernel
theorem d_76_0 : decode (mB 76) 0 = .ok (.aload_n 0, 1) := by decide +kernel
theorem d_76_1 : decode (mB 76) 1 = .ok (.getfield 18, 3) := by decide +kernel
theorem d_76_4 : decode (mB 76) 4 = .ok (.iload_n 1, 1) := by decide +kernel
theorem d_76_5 : decode (mB 76) 5 = .ok (.putfield 170, 3) := by decide +kernel
theorem d_76_8 : decode (mB 76) 8 = .ok (.return_, 1) := by decide +kernel
theorem d_77_0 : decode (mB 77) 0 = .ok (.iload_n 1, 1) := by decide +kernel
theorem d_77_1 : decode (mB 77) 1 = .ok (.ifCond .lt 9, 3) := by decide +kernel
theorem d_77_4 : decode (mB 77) 4 = .ok (.iload_n 1, 1) := by decide +kernel
theorem d_77_5 : decode (mB 77) 5 = .ok (.bipush 100, 2) := by decide +kernel
theorem d_77_7 : decode (mB 77) 7 = .ok (.if_icmp .le 5, 3) := by decide +kernel
theorem d_77_10 : decode (mB 77) 10 = .ok (.iconst (-1), 1) := by decide +kernel
theorem d_77_11 : decode (mB 77) 11 = .ok (.ireturn, 1) := by decide +kernel
theorem d_77_12 : decode (mB 77) 12 = .ok (.iconst 0, 1) := by decide +kernel
theorem d_77_13 : decode (mB 77) 13 = .ok (.istore_n 2, 1) := by decide +kernel
theorem d_77_14 : decode (mB 77) 14 = .ok (.iconst 0, 1) := by decide +kernel
theorem d_77_15 : decode (mB 77) 15 = .ok (.istore_n 3, 1) := by decide +kernel
theorem d_77_16 : decode (mB 77) 16 = .ok (.iload_n 3, 1) := by decide +kernel
theorem d_77_17 : decode (mB 77) 17 = .ok (.iload_n 1, 1) := by decide +kernel
theorem d_77_18 : decode (mB 77) 18 = .ok (.if_icmp .ge 53, 3) := by decide +kernel
theorem d_77_21 : decode (mB 77) 21 = .ok (.aload_n 0, 1) := by decide +kernel
theorem d_77_22 : decode (mB 77) 22 = .ok (.dup, 1) := by decide +kernel
theorem d_77_23 : decode (mB 77) 23 = .ok (.getfield 174, 3) := by decide +kernel
theorem d_77_26 : decode (mB 77) 26 = .ok (.iconst 1, 1) := by decide +kernel
theorem d_77_27 : decode (mB 77) 27 = .ok (.iadd, 1) := by decide +kernel
theorem d_77_28 : decode (mB 77) 28 = .ok (.putfield 174, 3) := by decide +kernel
theorem d_77_31 : decode (mB 77) 31 = .ok (.aload_n 0, 1) := by decide +kernel
theorem d_77_32 : decode (mB 77) 32 = .ok (.getfield 27, 3) := by decide +kernel
theorem d_77_35 : decode (mB 77) 35 = .ok (.invokevirtual 177, 3) := by decide +kernel
theorem d_77_38 : decode (mB 77) 38 = .ok (.aload_n 0, 1) := by decide +kernel
theorem d_77_39 : decode (mB 77) 39 = .ok (.getfield 18, 3) := by decide +kernel
theorem d_77_42 : decode (mB 77) 42 = .ok (.getfield 170, 3) := by decide +kernel
theorem d_77_45 : decode (mB 77) 45 = .ok (.ifCond .ne 20, 3) := by decide +kernel
theorem d_77_48 : decode (mB 77) 48 = .ok (.aload_n 0, 1) := by decide +kernel
theorem d_77_49 : decode (mB 77) 49 = .ok (.getfield 27, 3) := by decide +kernel
theorem d_77_52 : decode (mB 77) 52 = .ok (.invokevirtual 180, 3) := by decide +kernel
theorem d_77_55 : decode (mB 77) 55 = .ok (.iload_n 2, 1) := by decide +kernel
theorem d_77_56 : decode (mB 77) 56 = .ok (.aload_n 0, 1) := by decide +kernel
theorem d_77_57 : decode (mB 77) 57 = .ok (.getfield 27, 3) := by decide +kernel
theorem d_77_60 : decode (mB 77) 60 = .ok (.invokevirtual 183, 3) := by decide +kernel
theorem d_77_63 : decode (mB 77) 63 = .ok (.iadd, 1) := by decide +kernel
theorem d_77_64 : decode (mB 77) 64 = .ok (.istore_n 2, 1) := by decide +kernel
theorem d_77_65 : decode (mB 77) 65 = .ok (.iinc 3 1, 3) := by decide +kernel
theorem d_77_68 : decode (mB 77) 68 = .ok (.goto (-52), 3) := by decide +kernel
theorem d_77_71 : decode (mB 77) 71 = .ok (.iload_n 2, 1) := by decide +kernel
theorem d_77_72 : decode (mB 77) 72 = .ok (.ireturn, 1) := by decide +kernel
theorem d_78_0 : decode (mB 78) 0 = .ok (.iload_n 1, 1) := by decide +kernel
theorem d_78_1 : decode (mB 78) 1 = .ok (.ifCond .lt 9, 3) := by decide +kernel
theorem d_78_4 : decode (mB 78) 4 = .ok (.iload_n 1, 1) := by decide +kernel
theorem d_78_5 : decode (mB 78) 5 = .ok (.bipush 8, 2) := by decide +kernel
theorem d_78_7 : decode (mB 78) 7 = .ok (.if_icmp .lt 7, 3) := by decide +kernel
theorem d_78_10 : decode (mB 78) 10 = .ok (.iconst (-1), 1) := by decide +kernel
theorem d_78_11 : decode (mB 78) 11 = .ok (.goto 12, 3) := by decide +kernel
theorem d_78_14 : decode (mB 78) 14 = .ok (.aload_n 0, 1) := by decide +kernel
theorem d_78_15 : decode (mB 78) 15 = .ok (.getfield 27, 3) := by decide +kernel
theorem d_78_18 : decode (mB 78) 18 = .ok (.getfield 186, 3) := by decide +kernel
theorem d_78_21 : decode (mB 78) 21 = .ok (.iload_n 1, 1) := by decide +kernel
theorem d_78_22 : decode (mB 78) 22 = .ok (.iaload, 1) := by decide +kernel
theorem d_78_23 : decode (mB 78) 23 = .ok (.ireturn, 1) := by decide +kernel
theorem d_79_0 : decode (mB 79) 0 = .ok (.aload_n 0, 1) := by decide +kernel
theorem d_79_1 : decode (mB 79) 1 = .ok (.iload_n 1, 1) := by decide +kernel
theorem d_79_2 : decode (mB 79) 2 = .ok (.invokevirtual 149, 3) := by decide +kernel
theorem d_79_5 : decode (mB 79) 5 = .ok (.ifCond .ne 5, 3) := by decide +kernel
theorem d_79_8 : decode (mB 79) 8 = .ok (.iconst (-1), 1) := by decide +kernel
theorem d_79_9 : decode (mB 79) 9 = .ok (.ireturn, 1) := by decide +kernel
theorem d_79_10 : decode (mB 79) 10 = .ok (.aload_n 0, 1) := by decide +kernel
theorem d_79_11 : decode (mB 79) 11 = .ok (.getfield 18, 3) := by decide +kernel
theorem d_79_14 : decode (mB 79) 14 = .ok (.getfield 152, 3) := by decide +kernel
theorem d_79_17 : decode (mB 79) 17 = .ok (.iload_n 1, 1) := by decide +kernel
theorem d_79_18 : decode (mB 79) 18 = .ok (.aaload, 1) := by decide +kernel
theorem d_79_19 : decode (mB 79) 19 = .ok (.astore_n 3, 1) := by decide +kernel
theorem d_79_20 : decode (mB 79) 20 = .ok (.iload_n 2, 1) := by decide +kernel
theorem d_79_21 : decode (mB 79) 21 = .ok (.tableswitch 159 0 11 #[63, 68, 81, 89, 94, 105, 105, 105, 115, 124, 129, 134], 63) := by decide +kernel
theorem d_79_84 : decode (mB 79) 84 = .ok (.aload_n 3, 1) := by decide +kernel
theorem d_79_85 : decode (mB 79) 85 = .ok (.getfield 98, 3) := by decide +kernel
theorem d_79_88 : decode (mB 79) 88 = .ok (.ireturn, 1) := by decide +kernel
theorem d_79_89 : decode (mB 79) 89 = .ok (.aload_n 3, 1) := by decide +kernel
theorem d_79_90 : decode (mB 79) 90 = .ok (.getfield 190, 3) := by decide +kernel
theorem d_79_93 : decode (mB 79) 93 = .ok (.ifCond .eq 7, 3) := by decide +kernel
theorem d_79_96 : decode (mB 79) 96 = .ok (.iconst 1, 1) := by decide +kernel
theorem d_79_97 : decode (mB 79) 97 = .ok (.goto 4, 3) := by decide +kernel
theorem d_79_100 : decode (mB 79) 100 = .ok (.iconst 0, 1) := by decide +kernel
theorem d_79_101 : decode (mB 79) 101 = .ok (.ireturn, 1) := by decide +kernel
theorem d_79_102 : decode (mB 79) 102 = .ok (.aload_n 3, 1) := by decide +kernel
theorem d_79_103 : decode (mB 79) 103 = .ok (.getfield 193, 3) := by decide +kernel
theorem d_79_106 : decode (mB 79) 106 = .ok (.invokestatic 196, 3) := by decide +kernel
theorem d_79_109 : decode (mB 79) 109 = .ok (.ireturn, 1) := by decide +kernel
theorem d_79_110 : decode (mB 79) 110 = .ok (.aload_n 3, 1) := by decide +kernel
theorem d_79_111 : decode (mB 79) 111 = .ok (.getfield 202, 3) := by decide +kernel
theorem d_79_114 : decode (mB 79) 114 = .ok (.ireturn, 1) := by decide +kernel
theorem d_79_115 : decode (mB 79) 115 = .ok (.aload_n 3, 1) := by decide +kernel
theorem d_79_116 : decode (mB 79) 116 = .ok (.getfield 205, 3) := by decide +kernel
theorem d_79_119 : decode (mB 79) 119 = .ok (.getfield 209, 3) := by decide +kernel
theorem d_79_122 : decode (mB 79) 122 = .ok (.invokevirtual 215, 3) := by decide +kernel
theorem d_79_125 : decode (mB 79) 125 = .ok (.ireturn, 1) := by decide +kernel
theorem d_79_126 : decode (mB 79) 126 = .ok (.aload_n 0, 1) := by decide +kernel
theorem d_79_127 : decode (mB 79) 127 = .ok (.aload_n 3, 1) := by decide +kernel
theorem d_79_128 : decode (mB 79) 128 = .ok (.getfield 205, 3) := by decide +kernel
theorem d_79_131 : decode (mB 79) 131 = .ok (.iload_n 2, 1) := by decide +kernel
theorem d_79_132 : decode (mB 79) 132 = .ok (.invokevirtual 220, 3) := by decide +kernel
theorem d_79_135 : decode (mB 79) 135 = .ok (.ireturn, 1) := by decide +kernel
theorem d_79_136 : decode (mB 79) 136 = .ok (.aload_n 0, 1) := by decide +kernel
theorem d_79_137 : decode (mB 79) 137 = .ok (.getfield 27, 3) := by decide +kernel
theorem d_79_140 : decode (mB 79) 140 = .ok (.iload_n 1, 1) := by decide +kernel
theorem d_79_141 : decode (mB 79) 141 = .ok (.invokevirtual 224, 3) := by decide +kernel
theorem d_79_144 : decode (mB 79) 144 = .ok (.ireturn, 1) := by decide +kernel
theorem d_79_145 : decode (mB 79) 145 = .ok (.aload_n 3, 1) := by decide +kernel
theorem d_79_146 : decode (mB 79) 146 = .ok (.getfield 167, 3) := by decide +kernel
theorem d_79_149 : decode (mB 79) 149 = .ok (.ireturn, 1) := by decide +kernel
theorem d_79_150 : decode (mB 79) 150 = .ok (.aload_n 3, 1) := by decide +kernel
theorem d_79_151 : decode (mB 79) 151 = .ok (.getfield 227, 3) := by decide +kernel
theorem d_79_154 : decode (mB 79) 154 = .ok (.ireturn, 1) := by decide +kernel
theorem d_79_155 : decode (mB 79) 155 = .ok (.aload_n 3, 1) := by decide +kernel
theorem d_79_156 : decode (mB 79) 156 = .ok (.getfield 205, 3) := by decide +kernel
theorem d_79_159 : decode (mB 79) 159 = .ok (.getfield 230, 3) := by decide +kernel
theorem d_79_162 : decode (mB 79) 162 = .ok (.ifnonnull 7, 3) := by decide +kernel
theorem d_79_165 : decode (mB 79) 165 = .ok (.iconst (-1), 1) := by decide +kernel
theorem d_79_166 : decode (mB 79) 166 = .ok (.goto 13, 3) := by decide +kernel
theorem d_79_169 : decode (mB 79) 169 = .ok (.aload_n 3, 1) := by decide +kernel
theorem d_79_170 : decode (mB 79) 170 = .ok (.getfield 205, 3) := by decide +kernel
theorem d_79_173 : decode (mB 79) 173 = .ok (.getfield 230, 3) := by decide +kernel
theorem d_79_176 : decode (mB 79) 176 = .ok (.getfield 234, 3) := by decide +kernel
theorem d_79_179 : decode (mB 79) 179 = .ok (.ireturn, 1) := by decide +kernel
theorem d_79_180 : decode (mB 79) 180 = .ok (.iconst (-1), 1) := by decide +kernel
theorem d_79_181 : decode (mB 79) 181 = .ok (.ireturn, 1) := by decide +kernel
theorem d_80_0 : decode (mB 80) 0 = .ok (.aload_n 0, 1) := by decide +kernel
theorem d_80_1 : decode (mB 80) 1 = .ok (.iload_n 1, 1) := by decide +kernel
theorem d_80_2 : decode (mB 80) 2 = .ok (.invokevirtual 149, 3) := by decide +kernel
theorem d_80_5 : decode (mB 80) 5 = .ok (.ifCond .eq 29, 3) := by decide +kernel
theorem d_80_8 : decode (mB 80) 8 = .ok (.iload_n 2, 1) := by decide +kernel
theorem d_80_9 : decode (mB 80) 9 = .ok (.ifCond .lt 25, 3) := by decide +kernel
theorem d_80_12 : decode (mB 80) 12 = .ok (.iload_n 2, 1) := by decide +kernel
theorem d_80_13 : decode (mB 80) 13 = .ok (.aload_n 0, 1) := by decide +kernel
theorem d_80_14 : decode (mB 80) 14 = .ok (.getfield 18, 3) := by decide +kernel
theorem d_80_17 : decode (mB 80) 17 = .ok (.getfield 152, 3) := by decide +kernel
theorem d_80_20 : decode (mB 80) 20 = .ok (.iload_n 1, 1) := by decide +kernel
theorem d_80_21 : decode (mB 80) 21 = .ok (.aaload, 1) := by decide +kernel
theorem d_80_22 : decode (mB 80) 22 = .ok (.getfield 205, 3) := by decide +kernel
theorem d_80_25 : decode (mB 80) 25 = .ok (.getfield 209, 3) := by decide +kernel
theorem d_80_28 : decode (mB 80) 28 = .ok (.invokevirtual 215, 3) := by decide +kernel
theorem d_80_31 : decode (mB 80) 31 = .ok (.if_icmp .lt 5, 3) := by decide +kernel
theorem d_80_34 : decode (mB 80) 34 = .ok (.iconst (-1), 1) := by decide +kernel
theorem d_80_35 : decode (mB 80) 35 = .ok (.ireturn, 1) := by decide +kernel
theorem d_80_36 : decode (mB 80) 36 = .ok (.aload_n 0, 1) := by decide +kernel
theorem d_80_37 : decode (mB 80) 37 = .ok (.getfield 18, 3) := by decide +kernel
theorem d_80_40 : decode (mB 80) 40 = .ok (.getfield 152, 3) := by decide +kernel
theorem d_80_43 : decode (mB 80) 43 = .ok (.iload_n 1, 1) := by decide +kernel
theorem d_80_44 : decode (mB 80) 44 = .ok (.aaload, 1) := by decide +kernel
theorem d_80_45 : decode (mB 80) 45 = .ok (.getfield 205, 3) := by decide +kernel
theorem d_80_48 : decode (mB 80) 48 = .ok (.astore 4, 2) := by decide +kernel
theorem d_80_50 : decode (mB 80) 50 = .ok (.aload 4, 2) := by decide +kernel
theorem d_80_52 : decode (mB 80) 52 = .ok (.getfield 209, 3) := by decide +kernel
theorem d_80_55 : decode (mB 80) 55 = .ok (.iload_n 2, 1) := by decide +kernel
theorem d_80_56 : decode (mB 80) 56 = .ok (.invokevirtual 239, 3) := by decide +kernel
theorem d_80_59 : decode (mB 80) 59 = .ok (.checkcast 235, 3) := by decide +kernel
theorem d_80_62 : decode (mB 80) 62 = .ok (.astore 5, 2) := by decide +kernel
theorem d_80_64 : decode (mB 80) 64 = .ok (.iload_n 3, 1) := by decide +kernel
theorem d_80_65 : decode (mB 80) 65 = .ok (.tableswitch 98 0 5 #[39, 45, 51, 57, 75, 81], 39) := by decide +kernel
theorem d_80_104 : decode (mB 80) 104 = .ok (.aload 5, 2) := by decide +kernel
theorem d_80_106 : decode (mB 80) 106 = .ok (.getfield 234, 3) := by decide +kernel
theorem d_80_109 : decode (mB 80) 109 = .ok (.ireturn, 1) := by decide +kernel
theorem d_80_110 : decode (mB 80) 110 = .ok (.aload 5, 2) := by decide +kernel
theorem d_80_112 : decode (mB 80) 112 = .ok (.getfield 243, 3) := by decide +kernel
theorem d_80_115 : decode (mB 80) 115 = .ok (.ireturn, 1) := by decide +kernel
theorem d_80_116 : decode (mB 80) 116 = .ok (.aload 5, 2) := by decide +kernel
theorem d_80_118 : decode (mB 80) 118 = .ok (.getfield 246, 3) := by decide +kernel
theorem d_80_121 : decode (mB 80) 121 = .ok (.ireturn, 1) := by decide +kernel
theorem d_80_122 : decode (mB 80) 122 = .ok (.aload_n 0, 1) := by decide +kernel
theorem d_80_123 : decode (mB 80) 123 = .ok (.getfield 18, 3) := by decide +kernel
theorem d_80_126 : decode (mB 80) 126 = .ok (.getfield 249, 3) := by decide +kernel
theorem d_80_129 : decode (mB 80) 129 = .ok (.aload 4, 2) := by decide +kernel
theorem d_80_131 : decode (mB 80) 131 = .ok (.invokevirtual 253, 3) := by decide +kernel
theorem d_80_134 : decode (mB 80) 134 = .ok (.aload 5, 2) := by decide +kernel
theorem d_80_136 : decode (mB 80) 136 = .ok (.getfield 259, 3) := by decide +kernel
theorem d_80_139 : decode (mB 80) 139 = .ok (.ireturn, 1) := by decide +kernel
theorem d_80_140 : decode (mB 80) 140 = .ok (.aload 5, 2) := by decide +kernel
theorem d_80_142 : decode (mB 80) 142 = .ok (.getfield 262, 3) := by decide +kernel
theorem d_80_145 : decode (mB 80) 145 = .ok (.ireturn, 1) := by decide +kernel
theorem d_80_146 : decode (mB 80) 146 = .ok (.aload 5, 2) := by decide +kernel
theorem d_80_148 : decode (mB 80) 148 = .ok (.getfield 265, 3) := by decide +kernel
theorem d_80_151 : decode (mB 80) 151 = .ok (.aload_n 0, 1) := by decide +kernel
theorem d_80_152 : decode (mB 80) 152 = .ok (.getfield 18, 3) := by decide +kernel
theorem d_80_155 : decode (mB 80) 155 = .ok (.getfield 268, 3) := by decide +kernel
theorem d_80_158 : decode (mB 80) 158 = .ok (.iand, 1) := by decide +kernel
theorem d_80_159 : decode (mB 80) 159 = .ok (.invokestatic 196, 3) := by decide +kernel
theorem d_80_162 : decode (mB 80) 162 = .ok (.ireturn, 1) := by decide +kernel
theorem d_80_163 : decode (mB 80) 163 = .ok (.iconst (-1), 1) := by decide +kernel
theorem d_80_164 : decode (mB 80) 164 = .ok (.ireturn, 1) := by decide +kernel
theorem d_81_0 : decode (mB 81) 0 = .ok (.aload_n 0, 1) := by decide +kernel
theorem d_81_1 : decode (mB 81) 1 = .ok (.iload_n 1, 1) := by decide +kernel
theorem d_81_2 : decode (mB 81) 2 = .ok (.invokevirtual 149, 3) := by decide +kernel
theorem d_81_5 : decode (mB 81) 5 = .ok (.ifCond .eq 19, 3) := by decide +kernel
theorem d_81_8 : decode (mB 81) 8 = .ok (.iload_n 2, 1) := by decide +kernel
theorem d_81_9 : decode (mB 81) 9 = .ok (.invokestatic 48, 3) := by decide +kernel
theorem d_81_12 : decode (mB 81) 12 = .ok (.ifCond .eq 12, 3) := by decide +kernel
theorem d_81_15 : decode (mB 81) 15 = .ok (.iload_n 3, 1) := by decide +kernel
theorem d_81_16 : decode (mB 81) 16 = .ok (.ifCond .lt 8, 3) := by decide +kernel
theorem d_81_19 : decode (mB 81) 19 = .ok (.iload_n 3, 1) := by decide +kernel
theorem d_81_20 : decode (mB 81) 20 = .ok (.iconst 1, 1) := by decide +kernel
theorem d_81_21 : decode (mB 81) 21 = .ok (.if_icmp .le 5, 3) := by decide +kernel
theorem d_81_24 : decode (mB 81) 24 = .ok (.iconst (-1), 1) := by decide +kernel
theorem d_81_25 : decode (mB 81) 25 = .ok (.ireturn, 1) := by decide +kernel
theorem d_81_26 : decode (mB 81) 26 = .ok (.aload_n 0, 1) := by decide +kernel
theorem d_81_27 : decode (mB 81) 27 = .ok (.getfield 18, 3) := by decide +kernel
theorem d_81_30 : decode (mB 81) 30 = .ok (.getfield 152, 3) := by decide +kernel
theorem d_81_33 : decode (mB 81) 33 = .ok (.iload_n 1, 1) := by decide +kernel
theorem d_81_34 : decode (mB 81) 34 = .ok (.aaload, 1) := by decide +kernel
theorem d_81_35 : decode (mB 81) 35 = .ok (.getfield 205, 3) := by decide +kernel
theorem d_81_38 : decode (mB 81) 38 = .ok (.iload_n 2, 1) := by decide +kernel
theorem d_81_39 : decode (mB 81) 39 = .ok (.invokevirtual 271, 3) := by decide +kernel
theorem d_81_42 : decode (mB 81) 42 = .ok (.astore 4, 2) := by decide +kernel
theorem d_81_44 : decode (mB 81) 44 = .ok (.iload_n 3, 1) := by decide +kernel
theorem d_81_45 : decode (mB 81) 45 = .ok (.ifCond .ne 18, 3) := by decide +kernel
theorem d_81_48 : decode (mB 81) 48 = .ok (.aload 4, 2) := by decide +kernel
theorem d_81_50 : decode (mB 81) 50 = .ok (.ifnonnull 7, 3) := by decide +kernel
theorem d_81_53 : decode (mB 81) 53 = .ok (.iconst (-1), 1) := by decide +kernel
theorem d_81_54 : decode (mB 81) 54 = .ok (.goto 8, 3) := by decide +kernel
theorem d_81_57 : decode (mB 81) 57 = .ok (.aload 4, 2) := by decide +kernel
theorem d_81_59 : decode (mB 81) 59 = .ok (.getfield 275, 3) := by decide +kernel
theorem d_81_62 : decode (mB 81) 62 = .ok (.ireturn, 1) := by decide +kernel
theorem d_81_63 : decode (mB 81) 63 = .ok (.aload 4, 2) := by decide +kernel
theorem d_81_65 : decode (mB 81) 65 = .ok (.ifnonnull 7, 3) := by decide +kernel
theorem d_81_68 : decode (mB 81) 68 = .ok (.iconst 0, 1) := by decide +kernel
theorem d_81_69 : decode (mB 81) 69 = .ok (.goto 8, 3) := by decide +kernel
theorem d_81_72 : decode (mB 81) 72 = .ok (.aload 4, 2) := by decide +kernel
theorem d_81_74 : decode (mB 81) 74 = .ok (.getfield 278, 3) := by decide +kernel
theorem d_81_77 : decode (mB 81) 77 = .ok (.ireturn, 1) := by decide +kernel
theorem d_82_0 : decode (mB 82) 0 = .ok (.iload_n 1, 1) := by decide +kernel
theorem d_82_1 : decode (mB 82) 1 = .ok (.tableswitch 162 0 11 #[63, 68, 73, 81, 89, 100, 109, 117, 125, 133, 149, 157], 63) := by decide +kernel
theorem d_82_64 : decode (mB 82) 64 = .ok (.aload_n 0, 1) := by decide +kernel
theorem d_82_65 : decode (mB 82) 65 = .ok (.getfield 174, 3) := by decide +kernel
theorem d_82_68 : decode (mB 82) 68 = .ok (.ireturn, 1) := by decide +kernel
theorem d_82_69 : decode (mB 82) 69 = .ok (.aload_n 0, 1) := by decide +kernel
theorem d_82_70 : decode (mB 82) 70 = .ok (.invokevirtual 279, 3) := by decide +kernel
theorem d_82_73 : decode (mB 82) 73 = .ok (.ireturn, 1) := by decide +kernel
theorem d_82_74 : decode (mB 82) 74 = .ok (.aload_n 0, 1) := by decide +kernel
theorem d_82_75 : decode (mB 82) 75 = .ok (.getfield 18, 3) := by decide +kernel
theorem d_82_78 : decode (mB 82) 78 = .ok (.getfield 282, 3) := by decide +kernel
theorem d_82_81 : decode (mB 82) 81 = .ok (.ireturn, 1) := by decide +kernel
theorem d_82_82 : decode (mB 82) 82 = .ok (.aload_n 0, 1) := by decide +kernel
theorem d_82_83 : decode (mB 82) 83 = .ok (.getfield 18, 3) := by decide +kernel
theorem d_82_86 : decode (mB 82) 86 = .ok (.getfield 285, 3) := by decide +kernel
theorem d_82_89 : decode (mB 82) 89 = .ok (.ireturn, 1) := by decide +kernel
theorem d_82_90 : decode (mB 82) 90 = .ok (.aload_n 0, 1) := by decide +kernel
theorem d_82_91 : decode (mB 82) 91 = .ok (.getfield 27, 3) := by decide +kernel
theorem d_82_94 : decode (mB 82) 94 = .ok (.getfield 288, 3) := by decide +kernel
theorem d_82_97 : decode (mB 82) 97 = .ok (.invokevirtual 215, 3) := by decide +kernel
theorem d_82_100 : decode (mB 82) 100 = .ok (.ireturn, 1) := by decide +kernel
theorem d_82_101 : decode (mB 82) 101 = .ok (.aload_n 0, 1) := by decide +kernel
theorem d_82_102 : decode (mB 82) 102 = .ok (.getfield 27, 3) := by decide +kernel
theorem d_82_105 : decode (mB 82) 105 = .ok (.iconst (-1), 1) := by decide +kernel
theorem d_82_106 : decode (mB 82) 106 = .ok (.invokevirtual 291, 3) := by decide +kernel
theorem d_82_109 : decode (mB 82) 109 = .ok (.ireturn, 1) := by decide +kernel
theorem d_82_110 : decode (mB 82) 110 = .ok (.aload_n 0, 1) := by decide +kernel
theorem d_82_111 : decode (mB 82) 111 = .ok (.getfield 27, 3) := by decide +kernel
theorem d_82_114 : decode (mB 82) 114 = .ok (.getfield 294, 3) := by decide +kernel
theorem d_82_117 : decode (mB 82) 117 = .ok (.ireturn, 1) := by decide +kernel
theorem d_82_118 : decode (mB 82) 118 = .ok (.aload_n 0, 1) := by decide +kernel
theorem d_82_119 : decode (mB 82) 119 = .ok (.getfield 18, 3) := by decide +kernel
theorem d_82_122 : decode (mB 82) 122 = .ok (.getfield 297, 3) := by decide +kernel
theorem d_82_125 : decode (mB 82) 125 = .ok (.ireturn, 1) := by decide +kernel
theorem d_82_126 : decode (mB 82) 126 = .ok (.aload_n 0, 1) := by decide +kernel
theorem d_82_127 : decode (mB 82) 127 = .ok (.getfield 27, 3) := by decide +kernel
theorem d_82_130 : decode (mB 82) 130 = .ok (.getfield 300, 3) := by decide +kernel
theorem d_82_133 : decode (mB 82) 133 = .ok (.ireturn, 1) := by decide +kernel
theorem d_82_134 : decode (mB 82) 134 = .ok (.aload_n 0, 1) := by decide +kernel
theorem d_82_135 : decode (mB 82) 135 = .ok (.getfield 18, 3) := by decide +kernel
theorem d_82_138 : decode (mB 82) 138 = .ok (.getfield 170, 3) := by decide +kernel
theorem d_82_141 : decode (mB 82) 141 = .ok (.ifCond .eq 7, 3) := by decide +kernel
theorem d_82_144 : decode (mB 82) 144 = .ok (.iconst 1, 1) := by decide +kernel
theorem d_82_145 : decode (mB 82) 145 = .ok (.goto 4, 3) := by decide +kernel
theorem d_82_148 : decode (mB 82) 148 = .ok (.iconst 0, 1) := by decide +kernel
theorem d_82_149 : decode (mB 82) 149 = .ok (.ireturn, 1) := by decide +kernel
theorem d_82_150 : decode (mB 82) 150 = .ok (.aload_n 0, 1) := by decide +kernel
theorem d_82_151 : decode (mB 82) 151 = .ok (.getfield 18, 3) := by decide +kernel
theorem d_82_154 : decode (mB 82) 154 = .ok (.getfield 303, 3) := by decide +kernel
theorem d_82_157 : decode (mB 82) 157 = .ok (.ireturn, 1) := by decide +kernel
theorem d_82_158 : decode (mB 82) 158 = .ok (.aload_n 0, 1) := by decide +kernel
theorem d_82_159 : decode (mB 82) 159 = .ok (.getfield 306, 3) := by decide +kernel
theorem d_82_162 : decode (mB 82) 162 = .ok (.ireturn, 1) := by decide +kernel
theorem d_82_163 : decode (mB 82) 163 = .ok (.iconst (-1), 1) := by decide +kernel
theorem d_82_164 : decode (mB 82) 164 = .ok (.ireturn, 1) := by decide +kernel
theorem d_83_0 : decode (mB 83) 0 = .ok (.aload_n 2, 1) := by decide +kernel
theorem d_83_1 : decode (mB 83) 1 = .ok (.getfield 83, 3) := by decide +kernel
theorem d_83_4 : decode (mB 83) 4 = .ok (.astore_n 3, 1) := by decide +kernel
theorem d_83_5 : decode (mB 83) 5 = .ok (.aload_n 1, 1) := by decide +kernel
theorem d_83_6 : decode (mB 83) 6 = .ok (.getfield 190, 3) := by decide +kernel
theorem d_83_9 : decode (mB 83) 9 = .ok (.ifCond .eq 11, 3) := by decide +kernel
theorem d_83_12 : decode (mB 83) 12 = .ok (.aload_n 0, 1) := by decide +kernel
theorem d_83_13 : decode (mB 83) 13 = .ok (.getfield 27, 3) := by decide +kernel
theorem d_83_16 : decode (mB 83) 16 = .ok (.aload_n 1, 1) := by decide +kernel
theorem d_83_17 : decode (mB 83) 17 = .ok (.invokevirtual 309, 3) := by decide +kernel
theorem d_83_20 : decode (mB 83) 20 = .ok (.aload_n 1, 1) := by decide +kernel
theorem d_83_21 : decode (mB 83) 21 = .ok (.getfield 193, 3) := by decide +kernel
theorem d_83_24 : decode (mB 83) 24 = .ok (.aload_n 3, 1) := by decide +kernel
theorem d_83_25 : decode (mB 83) 25 = .ok (.getfield 312, 3) := by decide +kernel
theorem d_83_28 : decode (mB 83) 28 = .ok (.invokestatic 315, 3) := by decide +kernel
theorem d_83_31 : decode (mB 83) 31 = .ok (.ishr, 1) := by decide +kernel
theorem d_83_32 : decode (mB 83) 32 = .ok (.iconst 1, 1) := by decide +kernel
theorem d_83_33 : decode (mB 83) 33 = .ok (.iand, 1) := by decide +kernel
theorem d_83_34 : decode (mB 83) 34 = .ok (.ifCond .ne 14, 3) := by decide +kernel
theorem d_83_37 : decode (mB 83) 37 = .ok (.new 126, 3) := by decide +kernel
theorem d_83_40 : decode (mB 83) 40 = .ok (.dup, 1) := by decide +kernel
theorem d_83_41 : decode (mB 83) 41 = .ok (.iconst 3, 1) := by decide +kernel
theorem d_83_42 : decode (mB 83) 42 = .ok (.iconst 0, 1) := by decide +kernel
theorem d_83_43 : decode (mB 83) 43 = .ok (.iconst 0, 1) := by decide +kernel
theorem d_83_44 : decode (mB 83) 44 = .ok (.invokespecial 318, 3) := by decide +kernel
theorem d_83_47 : decode (mB 83) 47 = .ok (.areturn, 1) := by decide +kernel
theorem d_83_48 : decode (mB 83) 48 = .ok (.aload_n 3, 1) := by decide +kernel
theorem d_83_49 : decode (mB 83) 49 = .ok (.getfield 130, 3) := by decide +kernel
theorem d_83_52 : decode (mB 83) 52 = .ok (.ifCond .ne 15, 3) := by decide +kernel
theorem d_83_55 : decode (mB 83) 55 = .ok (.aload_n 0, 1) := by decide +kernel
theorem d_83_56 : decode (mB 83) 56 = .ok (.aload_n 1, 1) := by decide +kernel
theorem d_83_57 : decode (mB 83) 57 = .ok (.aload_n 3, 1) := by decide +kernel
theorem d_83_58 : decode (mB 83) 58 = .ok (.getfield 312, 3) := by decide +kernel
theorem d_83_61 : decode (mB 83) 61 = .ok (.invokevirtual 321, 3) := by decide +kernel
theorem d_83_64 : decode (mB 83) 64 = .ok (.goto 9, 3) := by decide +kernel
theorem d_83_67 : decode (mB 83) 67 = .ok (.aload_n 0, 1) := by decide +kernel
theorem d_83_68 : decode (mB 83) 68 = .ok (.aload_n 1, 1) := by decide +kernel
theorem d_83_69 : decode (mB 83) 69 = .ok (.aload_n 2, 1) := by decide +kernel
theorem d_83_70 : decode (mB 83) 70 = .ok (.invokevirtual 325, 3) := by decide +kernel
theorem d_83_73 : decode (mB 83) 73 = .ok (.areturn, 1) := by decide +kernel
theorem d_84_0 : decode (mB 84) 0 = .ok (.aload_n 0, 1) := by decide +kernel
theorem d_84_1 : decode (mB 84) 1 = .ok (.getfield 18, 3) := by decide +kernel
theorem d_84_4 : decode (mB 84) 4 = .ok (.aload_n 1, 1) := by decide +kernel
theorem d_84_5 : decode (mB 84) 5 = .ok (.iconst 0, 1) := by decide +kernel
theorem d_84_6 : decode (mB 84) 6 = .ok (.iconst 1, 1) := by decide +kernel
theorem d_84_7 : decode (mB 84) 7 = .ok (.invokevirtual 328, 3) := by decide +kernel
theorem d_84_10 : decode (mB 84) 10 = .ok (.ifCond .ne 14, 3) := by decide +kernel
theorem d_84_13 : decode (mB 84) 13 = .ok (.new 126, 3) := by decide +kernel
theorem d_84_16 : decode (mB 84) 16 = .ok (.dup, 1) := by decide +kernel
theorem d_84_17 : decode (mB 84) 17 = .ok (.iconst 4, 1) := by decide +kernel
theorem d_84_18 : decode (mB 84) 18 = .ok (.iconst 0, 1) := by decide +kernel
theorem d_84_19 : decode (mB 84) 19 = .ok (.iconst 0, 1) := by decide +kernel
theorem d_84_20 : decode (mB 84) 20 = .ok (.invokespecial 318, 3) := by decide +kernel
theorem d_84_23 : decode (mB 84) 23 = .ok (.areturn, 1) := by decide +kernel
theorem d_84_24 : decode (mB 84) 24 = .ok (.aload_n 1, 1) := by decide +kernel
theorem d_84_25 : decode (mB 84) 25 = .ok (.getfield 205, 3) := by decide +kernel
theorem d_84_28 : decode (mB 84) 28 = .ok (.iload_n 2, 1) := by decide +kernel
theorem d_84_29 : decode (mB 84) 29 = .ok (.invokevirtual 271, 3) := by decide +kernel
theorem d_84_32 : decode (mB 84) 32 = .ok (.astore_n 3, 1) := by decide +kernel
theorem d_84_33 : decode (mB 84) 33 = .ok (.aload_n 3, 1) := by decide +kernel
theorem d_84_34 : decode (mB 84) 34 = .ok (.ifnonnull 16, 3) := by decide +kernel
theorem d_84_37 : decode (mB 84) 37 = .ok (.new 126, 3) := by decide +kernel
theorem d_84_40 : decode (mB 84) 40 = .ok (.dup, 1) := by decide +kernel
theorem d_84_41 : decode (mB 84) 41 = .ok (.iconst 1, 1) := by decide +kernel
theorem d_84_42 : decode (mB 84) 42 = .ok (.iconst 0, 1) := by decide +kernel
theorem d_84_43 : decode (mB 84) 43 = .ok (.iconst 0, 1) := by decide +kernel
theorem d_84_44 : decode (mB 84) 44 = .ok (.invokespecial 318, 3) := by decide +kernel
theorem d_84_47 : decode (mB 84) 47 = .ok (.goto 19, 3) := by decide +kernel
theorem d_84_50 : decode (mB 84) 50 = .ok (.new 126, 3) := by decide +kernel
theorem d_84_53 : decode (mB 84) 53 = .ok (.dup, 1) := by decide +kernel
theorem d_84_54 : decode (mB 84) 54 = .ok (.iconst 0, 1) := by decide +kernel
theorem d_84_55 : decode (mB 84) 55 = .ok (.aload_n 3, 1) := by decide +kernel
theorem d_84_56 : decode (mB 84) 56 = .ok (.getfield 275, 3) := by decide +kernel
theorem d_84_59 : decode (mB 84) 59 = .ok (.aload_n 3, 1) := by decide +kernel
theorem d_84_60 : decode (mB 84) 60 = .ok (.getfield 278, 3) := by decide +kernel
theorem d_84_63 : decode (mB 84) 63 = .ok (.invokespecial 318, 3) := by decide +kernel
theorem d_84_66 : decode (mB 84) 66 = .ok (.areturn, 1) := by decide +kernel
theorem d_85_0 : decode (mB 85) 0 = .ok (.aload_n 2, 1) := by decide +kernel
theorem d_85_1 : decode (mB 85) 1 = .ok (.getfield 83, 3) := by decide +kernel
theorem d_85_4 : decode (mB 85) 4 = .ok (.astore_n 3, 1) := by decide +kernel
theorem d_85_5 : decode (mB 85) 5 = .ok (.aload_n 1, 1) := by decide +kernel
theorem d_85_6 : decode (mB 85) 6 = .ok (.getfield 205, 3) := by decide +kernel
theorem d_85_9 : decode (mB 85) 9 = .ok (.aload_n 3, 1) := by decide +kernel
theorem d_85_10 : decode (mB 85) 10 = .ok (.getfield 87, 3) := by decide +kernel
theorem d_85_13 : decode (mB 85) 13 = .ok (.invokevirtual 332, 3) := by decide +kernel
theorem d_85_16 : decode (mB 85) 16 = .ok (.aload_n 2, 1) := by decide +kernel
theorem d_85_17 : decode (mB 85) 17 = .ok (.getfield 107, 3) := by decide +kernel
theorem d_85_20 : decode (mB 85) 20 = .ok (.invokestatic 335, 3) := by decide +kernel
theorem d_85_23 : decode (mB 85) 23 = .ok (.istore 4, 2) := by decide +kernel
theorem d_85_25 : decode (mB 85) 25 = .ok (.aload_n 1, 1) := by decide +kernel
theorem d_85_26 : decode (mB 85) 26 = .ok (.aload_n 3, 1) := by decide +kernel
theorem d_85_27 : decode (mB 85) 27 = .ok (.iload 4, 2) := by decide +kernel
theorem d_85_29 : decode (mB 85) 29 = .ok (.invokestatic 341, 3) := by decide +kernel
theorem d_85_32 : decode (mB 85) 32 = .ok (.astore 5, 2) := by decide +kernel
theorem d_85_34 : decode (mB 85) 34 = .ok (.aload 5, 2) := by decide +kernel
theorem d_85_36 : decode (mB 85) 36 = .ok (.ifnull 6, 3) := by decide +kernel
theorem d_85_39 : decode (mB 85) 39 = .ok (.aload 5, 2) := by decide +kernel
theorem d_85_41 : decode (mB 85) 41 = .ok (.areturn, 1) := by decide +kernel
theorem d_85_42 : decode (mB 85) 42 = .ok (.aload_n 3, 1) := by decide +kernel
theorem d_85_43 : decode (mB 85) 43 = .ok (.iload 4, 2) := by decide +kernel
theorem d_85_45 : decode (mB 85) 45 = .ok (.invokestatic 345, 3) := by decide +kernel
theorem d_85_48 : decode (mB 85) 48 = .ok (.astore 6, 2) := by decide +kernel
theorem d_85_50 : decode (mB 85) 50 = .ok (.aload_n 1, 1) := by decide +kernel
theorem d_85_51 : decode (mB 85) 51 = .ok (.aload_n 3, 1) := by decide +kernel
theorem d_85_52 : decode (mB 85) 52 = .ok (.aload 6, 2) := by decide +kernel
theorem d_85_54 : decode (mB 85) 54 = .ok (.invokestatic 349, 3) := by decide +kernel
theorem d_85_57 : decode (mB 85) 57 = .ok (.astore 7, 2) := by decide +kernel
theorem d_85_59 : decode (mB 85) 59 = .ok (.aload 6, 2) := by decide +kernel
theorem d_85_61 : decode (mB 85) 61 = .ok (.getfield 353, 3) := by decide +kernel
theorem d_85_64 : decode (mB 85) 64 = .ok (.aload 7, 2) := by decide +kernel
theorem d_85_66 : decode (mB 85) 66 = .ok (.ifnonnull 7, 3) := by decide +kernel
theorem d_85_69 : decode (mB 85) 69 = .ok (.iconst 0, 1) := by decide +kernel
theorem d_85_70 : decode (mB 85) 70 = .ok (.goto 8, 3) := by decide +kernel
theorem d_85_73 : decode (mB 85) 73 = .ok (.aload 7, 2) := by decide +kernel
theorem d_85_75 : decode (mB 85) 75 = .ok (.getfield 353, 3) := by decide +kernel
theorem d_85_78 : decode (mB 85) 78 = .ok (.iadd, 1) := by decide +kernel
theorem d_85_79 : decode (mB 85) 79 = .ok (.istore 8, 2) := by decide +kernel
theorem d_85_81 : decode (mB 85) 81 = .ok (.aload_n 0, 1) := by decide +kernel
theorem d_85_82 : decode (mB 85) 82 = .ok (.getfield 18, 3) := by decide +kernel
theorem d_85_85 : decode (mB 85) 85 = .ok (.aload_n 1, 1) := by decide +kernel
theorem d_85_86 : decode (mB 85) 86 = .ok (.iload 8, 2) := by decide +kernel
theorem d_85_88 : decode (mB 85) 88 = .ok (.iconst 1, 1) := by decide +kernel
theorem d_85_89 : decode (mB 85) 89 = .ok (.invokevirtual 328, 3) := by decide +kernel
theorem d_85_92 : decode (mB 85) 92 = .ok (.ifCond .ne 14, 3) := by decide +kernel
theorem d_85_95 : decode (mB 85) 95 = .ok (.new 126, 3) := by decide +kernel
theorem d_85_98 : decode (mB 85) 98 = .ok (.dup, 1) := by decide +kernel
theorem d_85_99 : decode (mB 85) 99 = .ok (.iconst 4, 1) := by decide +kernel
theorem d_85_100 : decode (mB 85) 100 = .ok (.iconst 0, 1) := by decide +kernel
theorem d_85_101 : decode (mB 85) 101 = .ok (.iconst 0, 1) := by decide +kernel
theorem d_85_102 : decode (mB 85) 102 = .ok (.invokespecial 318, 3) := by decide +kernel
theorem d_85_105 : decode (mB 85) 105 = .ok (.areturn, 1) := by decide +kernel
theorem d_85_106 : decode (mB 85) 106 = .ok (.aload 7, 2) := by decide +kernel
theorem d_85_108 : decode (mB 85) 108 = .ok (.ifnull 29, 3) := by decide +kernel
theorem d_85_111 : decode (mB 85) 111 = .ok (.aload 7, 2) := by decide +kernel
theorem d_85_113 : decode (mB 85) 113 = .ok (.getfield 354, 3) := by decide +kernel
theorem d_85_116 : decode (mB 85) 116 = .ok (.iconst 3, 1) := by decide +kernel
theorem d_85_117 : decode (mB 85) 117 = .ok (.if_icmp .ne 20, 3) := by decide +kernel
theorem d_85_120 : decode (mB 85) 120 = .ok (.aload 7, 2) := by decide +kernel
theorem d_85_122 : decode (mB 85) 122 = .ok (.aload_n 1, 1) := by decide +kernel
theorem d_85_123 : decode (mB 85) 123 = .ok (.getfield 205, 3) := by decide +kernel
theorem d_85_126 : decode (mB 85) 126 = .ok (.aload 7, 2) := by decide +kernel
theorem d_85_128 : decode (mB 85) 128 = .ok (.getfield 355, 3) := by decide +kernel
theorem d_85_131 : decode (mB 85) 131 = .ok (.invokevirtual 356, 3) := by decide +kernel
theorem d_85_134 : decode (mB 85) 134 = .ok (.putfield 360, 3) := by decide +kernel
theorem d_85_137 : decode (mB 85) 137 = .ok (.aload_n 1, 1) := by decide +kernel
theorem d_85_138 : decode (mB 85) 138 = .ok (.getfield 167, 3) := by decide +kernel
theorem d_85_141 : decode (mB 85) 141 = .ok (.istore 9, 2) := by decide +kernel
theorem d_85_143 : decode (mB 85) 143 = .ok (.aload_n 0, 1) := by decide +kernel
theorem d_85_144 : decode (mB 85) 144 = .ok (.getfield 18, 3) := by decide +kernel
theorem d_85_147 : decode (mB 85) 147 = .ok (.aload_n 1, 1) := by decide +kernel
theorem d_85_148 : decode (mB 85) 148 = .ok (.aload 7, 2) := by decide +kernel
theorem d_85_150 : decode (mB 85) 150 = .ok (.aload 6, 2) := by decide +kernel
theorem d_85_152 : decode (mB 85) 152 = .ok (.iload 9, 2) := by decide +kernel
theorem d_85_154 : decode (mB 85) 154 = .ok (.invokevirtual 363, 3) := by decide +kernel
theorem d_85_157 : decode (mB 85) 157 = .ok (.aload 7, 2) := by decide +kernel
theorem d_85_159 : decode (mB 85) 159 = .ok (.ifnull 18, 3) := by decide +kernel
theorem d_85_162 : decode (mB 85) 162 = .ok (.iload 9, 2) := by decide +kernel
theorem d_85_164 : decode (mB 85) 164 = .ok (.ifCond .eq 13, 3) := by decide +kernel
theorem d_85_167 : decode (mB 85) 167 = .ok (.aload_n 0, 1) := by decide +kernel
theorem d_85_168 : decode (mB 85) 168 = .ok (.dup, 1) := by decide +kernel
theorem d_85_169 : decode (mB 85) 169 = .ok (.getfield 306, 3) := by decide +kernel
theorem d_85_172 : decode (mB 85) 172 = .ok (.iconst 1, 1) := by decide +kernel
theorem d_85_173 : decode (mB 85) 173 = .ok (.iadd, 1) := by decide +kernel
theorem d_85_174 : decode (mB 85) 174 = .ok (.putfield 306, 3) := by decide +kernel
theorem d_85_177 : decode (mB 85) 177 = .ok (.iload 9, 2) := by decide +kernel
theorem d_85_179 : decode (mB 85) 179 = .ok (.iconst (-1), 1) := by decide +kernel
theorem d_85_180 : decode (mB 85) 180 = .ok (.if_icmp .eq 13, 3) := by decide +kernel
theorem d_85_183 : decode (mB 85) 183 = .ok (.aload_n 0, 1) := by decide +kernel
theorem d_85_184 : decode (mB 85) 184 = .ok (.getfield 27, 3) := by decide +kernel
theorem d_85_187 : decode (mB 85) 187 = .ok (.aload_n 1, 1) := by decide +kernel
theorem d_85_188 : decode (mB 85) 188 = .ok (.invokevirtual 156, 3) := by decide +kernel
theorem d_85_191 : decode (mB 85) 191 = .ok (.aconst_null, 1) := by decide +kernel
theorem d_85_192 : decode (mB 85) 192 = .ok (.areturn, 1) := by decide +kernel
theorem d_85_193 : decode (mB 85) 193 = .ok (.aload 7, 2) := by decide +kernel
theorem d_85_195 : decode (mB 85) 195 = .ok (.ifnull 13, 3) := by decide +kernel
theorem d_85_198 : decode (mB 85) 198 = .ok (.aload_n 1, 1) := by decide +kernel
theorem d_85_199 : decode (mB 85) 199 = .ok (.dup, 1) := by decide +kernel
theorem d_85_200 : decode (mB 85) 200 = .ok (.getfield 202, 3) := by decide +kernel
theorem d_85_203 : decode (mB 85) 203 = .ok (.iconst 1, 1) := by decide +kernel
theorem d_85_204 : decode (mB 85) 204 = .ok (.iadd, 1) := by decide +kernel
theorem d_85_205 : decode (mB 85) 205 = .ok (.putfield 202, 3) := by decide +kernel
theorem d_85_208 : decode (mB 85) 208 = .ok (.new 126, 3) := by decide +kernel
theorem d_85_211 : decode (mB 85) 211 = .ok (.dup, 1) := by decide +kernel
theorem d_85_212 : decode (mB 85) 212 = .ok (.aload 6, 2) := by decide +kernel
theorem d_85_214 : decode (mB 85) 214 = .ok (.getfield 367, 3) := by decide +kernel
theorem d_85_217 : decode (mB 85) 217 = .ok (.aload 6, 2) := by decide +kernel
theorem d_85_219 : decode (mB 85) 219 = .ok (.getfield 275, 3) := by decide +kernel
theorem d_85_222 : decode (mB 85) 222 = .ok (.aload 6, 2) := by decide +kernel
theorem d_85_224 : decode (mB 85) 224 = .ok (.getfield 278, 3) := by decide +kernel
theorem d_85_227 : decode (mB 85) 227 = .ok (.invokespecial 318, 3) := by decide +kernel
theorem d_85_230 : decode (mB 85) 230 = .ok (.areturn, 1) := by decide +kernel
theorem d_86_0 : decode (mB 86) 0 = .ok (.aload_n 1, 1) := by decide +kernel
theorem d_86_1 : decode (mB 86) 1 = .ok (.getfield 68, 3) := by decide +kernel
theorem d_86_4 : decode (mB 86) 4 = .ok (.iload_n 2, 1) := by decide +kernel
theorem d_86_5 : decode (mB 86) 5 = .ok (.if_icmp .ge 14, 3) := by decide +kernel
theorem d_86_8 : decode (mB 86) 8 = .ok (.new 126, 3) := by decide +kernel
theorem d_86_11 : decode (mB 86) 11 = .ok (.dup, 1) := by decide +kernel
theorem d_86_12 : decode (mB 86) 12 = .ok (.iconst 5, 1) := by decide +kernel
theorem d_86_13 : decode (mB 86) 13 = .ok (.iconst 0, 1) := by decide +kernel
theorem d_86_14 : decode (mB 86) 14 = .ok (.iconst 0, 1) := by decide +kernel
theorem d_86_15 : decode (mB 86) 15 = .ok (.invokespecial 318, 3) := by decide +kernel
theorem d_86_18 : decode (mB 86) 18 = .ok (.areturn, 1) := by decide +kernel
theorem d_86_19 : decode (mB 86) 19 = .ok (.aload_n 0, 1) := by decide +kernel
theorem d_86_20 : decode (mB 86) 20 = .ok (.getfield 205, 3) := by decide +kernel
theorem d_86_23 : decode (mB 86) 23 = .ok (.aload_n 1, 1) := by decide +kernel
theorem d_86_24 : decode (mB 86) 24 = .ok (.getfield 87, 3) := by decide +kernel
theorem d_86_27 : decode (mB 86) 27 = .ok (.aload_n 1, 1) := by decide +kernel
theorem d_86_28 : decode (mB 86) 28 = .ok (.getfield 68, 3) := by decide +kernel
theorem d_86_31 : decode (mB 86) 31 = .ok (.invokevirtual 368, 3) := by decide +kernel
theorem d_86_34 : decode (mB 86) 34 = .ok (.astore_n 3, 1) := by decide +kernel
theorem d_86_35 : decode (mB 86) 35 = .ok (.aload_n 3, 1) := by decide +kernel
theorem d_86_36 : decode (mB 86) 36 = .ok (.ifnonnull 7, 3) := by decide +kernel
theorem d_86_39 : decode (mB 86) 39 = .ok (.aconst_null, 1) := by decide +kernel
theorem d_86_40 : decode (mB 86) 40 = .ok (.goto 22, 3) := by decide +kernel
theorem d_86_43 : decode (mB 86) 43 = .ok (.new 126, 3) := by decide +kernel
theorem d_86_46 : decode (mB 86) 46 = .ok (.dup, 1) := by decide +kernel
theorem d_86_47 : decode (mB 86) 47 = .ok (.aload_n 3, 1) := by decide +kernel
theorem d_86_48 : decode (mB 86) 48 = .ok (.getfield 367, 3) := by decide +kernel
theorem d_86_51 : decode (mB 86) 51 = .ok (.aload_n 3, 1) := by decide +kernel
theorem d_86_52 : decode (mB 86) 52 = .ok (.getfield 275, 3) := by decide +kernel
theorem d_86_55 : decode (mB 86) 55 = .ok (.aload_n 3, 1) := by decide +kernel
theorem d_86_56 : decode (mB 86) 56 = .ok (.getfield 278, 3) := by decide +kernel
theorem d_86_59 : decode (mB 86) 59 = .ok (.invokespecial 318, 3) := by decide +kernel
theorem d_86_62 : decode (mB 86) 62 = .ok (.areturn, 1) := by decide +kernel
theorem d_87_0 : decode (mB 87) 0 = .ok (.aload_n 0, 1) := by decide +kernel
theorem d_87_1 : decode (mB 87) 1 = .ok (.getfield 205, 3) := by decide +kernel
theorem d_87_4 : decode (mB 87) 4 = .ok (.aload_n 1, 1) := by decide +kernel
theorem d_87_5 : decode (mB 87) 5 = .ok (.getfield 312, 3) := by decide +kernel
theorem d_87_8 : decode (mB 87) 8 = .ok (.invokevirtual 271, 3) := by decide +kernel
theorem d_87_11 : decode (mB 87) 11 = .ok (.astore_n 3, 1) := by decide +kernel
theorem d_87_12 : decode (mB 87) 12 = .ok (.aload_n 3, 1) := by decide +kernel
theorem d_87_13 : decode (mB 87) 13 = .ok (.ifnonnull 7, 3) := by decide +kernel
theorem d_87_16 : decode (mB 87) 16 = .ok (.iconst 0, 1) := by decide +kernel
theorem d_87_17 : decode (mB 87) 17 = .ok (.goto 7, 3) := by decide +kernel
theorem d_87_20 : decode (mB 87) 20 = .ok (.aload_n 3, 1) := by decide +kernel
theorem d_87_21 : decode (mB 87) 21 = .ok (.getfield 278, 3) := by decide +kernel
theorem d_87_24 : decode (mB 87) 24 = .ok (.istore 4, 2) := by decide +kernel
theorem d_87_26 : decode (mB 87) 26 = .ok (.aload_n 0, 1) := by decide +kernel
theorem d_87_27 : decode (mB 87) 27 = .ok (.getfield 202, 3) := by decide +kernel
theorem d_87_30 : decode (mB 87) 30 = .ok (.iconst 1, 1) := by decide +kernel
theorem d_87_31 : decode (mB 87) 31 = .ok (.iadd, 1) := by decide +kernel
theorem d_87_32 : decode (mB 87) 32 = .ok (.istore 5, 2) := by decide +kernel
theorem d_87_34 : decode (mB 87) 34 = .ok (.aload_n 1, 1) := by decide +kernel
theorem d_87_35 : decode (mB 87) 35 = .ok (.getfield 130, 3) := by decide +kernel
theorem d_87_38 : decode (mB 87) 38 = .ok (.iconst 2, 1) := by decide +kernel
theorem d_87_39 : decode (mB 87) 39 = .ok (.if_icmp .ne 33, 3) := by decide +kernel
theorem d_87_42 : decode (mB 87) 42 = .ok (.iload 4, 2) := by decide +kernel
theorem d_87_44 : decode (mB 87) 44 = .ok (.aload_n 1, 1) := by decide +kernel
theorem d_87_45 : decode (mB 87) 45 = .ok (.getfield 372, 3) := by decide +kernel
theorem d_87_48 : decode (mB 87) 48 = .ok (.if_icmp .eq 24, 3) := by decide +kernel
theorem d_87_51 : decode (mB 87) 51 = .ok (.aload_n 2, 1) := by decide +kernel
theorem d_87_52 : decode (mB 87) 52 = .ok (.iconst 2, 1) := by decide +kernel
theorem d_87_53 : decode (mB 87) 53 = .ok (.aload_n 3, 1) := by decide +kernel
theorem d_87_54 : decode (mB 87) 54 = .ok (.ifnonnull 7, 3) := by decide +kernel
theorem d_87_57 : decode (mB 87) 57 = .ok (.iconst 0, 1) := by decide +kernel
theorem d_87_58 : decode (mB 87) 58 = .ok (.goto 7, 3) := by decide +kernel
theorem d_87_61 : decode (mB 87) 61 = .ok (.aload_n 3, 1) := by decide +kernel
theorem d_87_62 : decode (mB 87) 62 = .ok (.getfield 275, 3) := by decide +kernel
theorem d_87_65 : decode (mB 87) 65 = .ok (.iload 4, 2) := by decide +kernel
theorem d_87_67 : decode (mB 87) 67 = .ok (.invokevirtual 375, 3) := by decide +kernel
theorem d_87_70 : decode (mB 87) 70 = .ok (.aconst_null, 1) := by decide +kernel
theorem d_87_71 : decode (mB 87) 71 = .ok (.areturn, 1) := by decide +kernel
theorem d_87_72 : decode (mB 87) 72 = .ok (.aload_n 1, 1) := by decide +kernel
theorem d_87_73 : decode (mB 87) 73 = .ok (.getfield 130, 3) := by decide +kernel
theorem d_87_76 : decode (mB 87) 76 = .ok (.iconst 3, 1) := by decide +kernel
theorem d_87_77 : decode (mB 87) 77 = .ok (.if_icmp .ne 34, 3) := by decide +kernel
theorem d_87_80 : decode (mB 87) 80 = .ok (.aload_n 3, 1) := by decide +kernel
theorem d_87_81 : decode (mB 87) 81 = .ok (.ifnonnull 12, 3) := by decide +kernel
theorem d_87_84 : decode (mB 87) 84 = .ok (.aload_n 2, 1) := by decide +kernel
theorem d_87_85 : decode (mB 87) 85 = .ok (.iconst 1, 1) := by decide +kernel
theorem d_87_86 : decode (mB 87) 86 = .ok (.iconst 0, 1) := by decide +kernel
theorem d_87_87 : decode (mB 87) 87 = .ok (.iconst 0, 1) := by decide +kernel
theorem d_87_88 : decode (mB 87) 88 = .ok (.invokevirtual 375, 3) := by decide +kernel
theorem d_87_91 : decode (mB 87) 91 = .ok (.aconst_null, 1) := by decide +kernel
theorem d_87_92 : decode (mB 87) 92 = .ok (.areturn, 1) := by decide +kernel
theorem d_87_93 : decode (mB 87) 93 = .ok (.aload_n 2, 1) := by decide +kernel
theorem d_87_94 : decode (mB 87) 94 = .ok (.iconst 0, 1) := by decide +kernel
theorem d_87_95 : decode (mB 87) 95 = .ok (.iconst 0, 1) := by decide +kernel
theorem d_87_96 : decode (mB 87) 96 = .ok (.iload 5, 2) := by decide +kernel
theorem d_87_98 : decode (mB 87) 98 = .ok (.invokevirtual 375, 3) := by decide +kernel
theorem d_87_101 : decode (mB 87) 101 = .ok (.aload_n 1, 1) := by decide +kernel
theorem d_87_102 : decode (mB 87) 102 = .ok (.getfield 312, 3) := by decide +kernel
theorem d_87_105 : decode (mB 87) 105 = .ok (.iload 5, 2) := by decide +kernel
theorem d_87_107 : decode (mB 87) 107 = .ok (.invokestatic 378, 3) := by decide +kernel
theorem d_87_110 : decode (mB 87) 110 = .ok (.areturn, 1) := by decide +kernel
theorem d_87_111 : decode (mB 87) 111 = .ok (.aload_n 2, 1) := by decide +kernel
theorem d_87_112 : decode (mB 87) 112 = .ok (.iconst 0, 1) := by decide +kernel
theorem d_87_113 : decode (mB 87) 113 = .ok (.aload_n 1, 1) := by decide +kernel
theorem d_87_114 : decode (mB 87) 114 = .ok (.getfield 381, 3) := by decide +kernel
theorem d_87_117 : decode (mB 87) 117 = .ok (.iload 5, 2) := by decide +kernel
theorem d_87_119 : decode (mB 87) 119 = .ok (.invokevirtual 375, 3) := by decide +kernel
theorem d_87_122 : decode (mB 87) 122 = .ok (.aload_n 1, 1) := by decide +kernel
theorem d_87_123 : decode (mB 87) 123 = .ok (.getfield 312, 3) := by decide +kernel
theorem d_87_126 : decode (mB 87) 126 = .ok (.aload_n 1, 1) := by decide +kernel
theorem d_87_127 : decode (mB 87) 127 = .ok (.getfield 381, 3) := by decide +kernel
theorem d_87_130 : decode (mB 87) 130 = .ok (.iload 5, 2) := by decide +kernel
theorem d_87_132 : decode (mB 87) 132 = .ok (.invokestatic 384, 3) := by decide +kernel
theorem d_87_135 : decode (mB 87) 135 = .ok (.areturn, 1) := by decide +kernel
theorem d_88_0 : decode (mB 88) 0 = .ok (.iload_n 1, 1) := by decide +kernel
theorem d_88_1 : decode (mB 88) 1 = .ok (.iload_n 2, 1) := by decide +kernel
theorem d_88_2 : decode (mB 88) 2 = .ok (.iload_n 0, 1) := by decide +kernel
theorem d_88_3 : decode (mB 88) 3 = .ok (.invokestatic 388, 3) := by decide +kernel
theorem d_88_6 : decode (mB 88) 6 = .ok (.invokestatic 335, 3) := by decide +kernel
theorem d_88_9 : decode (mB 88) 9 = .ok (.ireturn, 1) := by decide +kernel
theorem d_89_0 : decode (mB 89) 0 = .ok (.iload_n 0, 1) := by decide +kernel
theorem d_89_1 : decode (mB 89) 1 = .ok (.bipush 8, 2) := by decide +kernel
theorem d_89_3 : decode (mB 89) 3 = .ok (.idiv, 1) := by decide +kernel
theorem d_89_4 : decode (mB 89) 4 = .ok (.ireturn, 1) := by decide +kernel
theorem d_90_0 : decode (mB 90) 0 = .ok (.iload_n 0, 1) := by decide +kernel
theorem d_90_1 : decode (mB 90) 1 = .ok (.ifCond .lt 13, 3) := by decide +kernel
theorem d_90_4 : decode (mB 90) 4 = .ok (.iload_n 0, 1) := by decide +kernel
theorem d_90_5 : decode (mB 90) 5 = .ok (.bipush 6, 2) := by decide +kernel
theorem d_90_7 : decode (mB 90) 7 = .ok (.if_icmp .ge 7, 3) := by decide +kernel
theorem d_90_10 : decode (mB 90) 10 = .ok (.iconst 1, 1) := by decide +kernel
theorem d_90_11 : decode (mB 90) 11 = .ok (.goto 4, 3) := by decide +kernel
theorem d_90_14 : decode (mB 90) 14 = .ok (.iconst 0, 1) := by decide +kernel
theorem d_90_15 : decode (mB 90) 15 = .ok (.ireturn, 1) := by decide +kernel
theorem d_91_0 : decode (mB 91) 0 = .ok (.iload_n 0, 1) := by decide +kernel
theorem d_91_1 : decode (mB 91) 1 = .ok (.ifCond .lt 13, 3) := by decide +kernel
theorem d_91_4 : decode (mB 91) 4 = .ok (.iload_n 0, 1) := by decide +kernel
theorem d_91_5 : decode (mB 91) 5 = .ok (.bipush 64, 2) := by decide +kernel
theorem d_91_7 : decode (mB 91) 7 = .ok (.if_icmp .ge 7, 3) := by decide +kernel
theorem d_91_10 : decode (mB 91) 10 = .ok (.iconst 1, 1) := by decide +kernel
theorem d_91_11 : decode (mB 91) 11 = .ok (.goto 4, 3) := by decide +kernel
theorem d_91_14 : decode (mB 91) 14 = .ok (.iconst 0, 1) := by decide +kernel
theorem d_91_15 : decode (mB 91) 15 = .ok (.ireturn, 1) := by decide +kernel
theorem d_92_0 : decode (mB 92) 0 = .ok (.iload_n 1, 1) := by decide +kernel
theorem d_92_1 : decode (mB 92) 1 = .ok (.ifCond .lt 19, 3) := by decide +kernel
theorem d_92_4 : decode (mB 92) 4 = .ok (.iload_n 1, 1) := by decide +kernel
theorem d_92_5 : decode (mB 92) 5 = .ok (.aload_n 0, 1) := by decide +kernel
theorem d_92_6 : decode (mB 92) 6 = .ok (.getfield 18, 3) := by decide +kernel
theorem d_92_9 : decode (mB 92) 9 = .ok (.getfield 152, 3) := by decide +kernel
theorem d_92_12 : decode (mB 92) 12 = .ok (.arraylength, 1) := by decide +kernel
theorem d_92_13 : decode (mB 92) 13 = .ok (.if_icmp .ge 7, 3) := by decide +kernel
theorem d_92_16 : decode (mB 92) 16 = .ok (.iconst 1, 1) := by decide +kernel
theorem d_92_17 : decode (mB 92) 17 = .ok (.goto 4, 3) := by decide +kernel
theorem d_92_20 : decode (mB 92) 20 = .ok (.iconst 0, 1) := by decide +kernel
theorem d_92_21 : decode (mB 92) 21 = .ok (.ireturn, 1) := by decide +kernel
theorem d_93_0 : decode (mB 93) 0 = .ok (.aload_n 0, 1) := by decide +kernel
theorem d_93_1 : decode (mB 93) 1 = .ok (.iload_n 1, 1) := by decide +kernel
theorem d_93_2 : decode (mB 93) 2 = .ok (.invokevirtual 149, 3) := by decide +kernel
theorem d_93_5 : decode (mB 93) 5 = .ok (.ifCond .eq 19, 3) := by decide +kernel
theorem d_93_8 : decode (mB 93) 8 = .ok (.aload_n 0, 1) := by decide +kernel
theorem d_93_9 : decode (mB 93) 9 = .ok (.getfield 18, 3) := by decide +kernel
theorem d_93_12 : decode (mB 93) 12 = .ok (.getfield 152, 3) := by decide +kernel
theorem d_93_15 : decode (mB 93) 15 = .ok (.iload_n 1, 1) := by decide +kernel
theorem d_93_16 : decode (mB 93) 16 = .ok (.aaload, 1) := by decide +kernel
theorem d_93_17 : decode (mB 93) 17 = .ok (.getfield 98, 3) := by decide +kernel
theorem d_93_20 : decode (mB 93) 20 = .ok (.iload_n 2, 1) := by decide +kernel
theorem d_93_21 : decode (mB 93) 21 = .ok (.if_icmp .eq 5, 3) := by decide +kernel
theorem d_93_24 : decode (mB 93) 24 = .ok (.iconst 0, 1) := by decide +kernel
theorem d_93_25 : decode (mB 93) 25 = .ok (.ireturn, 1) := by decide +kernel
theorem d_93_26 : decode (mB 93) 26 = .ok (.aload_n 0, 1) := by decide +kernel
theorem d_93_27 : decode (mB 93) 27 = .ok (.getfield 18, 3) := by decide +kernel
theorem d_93_30 : decode (mB 93) 30 = .ok (.aload_n 0, 1) := by decide +kernel
theorem d_93_31 : decode (mB 93) 31 = .ok (.getfield 18, 3) := by decide +kernel
theorem d_93_34 : decode (mB 93) 34 = .ok (.getfield 152, 3) := by decide +kernel
theorem d_93_37 : decode (mB 93) 37 = .ok (.iload_n 1, 1) := by decide +kernel
theorem d_93_38 : decode (mB 93) 38 = .ok (.aaload, 1) := by decide +kernel
theorem d_93_39 : decode (mB 93) 39 = .ok (.iload_n 3, 1) := by decide +kernel
theorem d_93_40 : decode (mB 93) 40 = .ok (.invokevirtual 391, 3) := by decide +kernel
theorem d_93_43 : decode (mB 93) 43 = .ok (.iconst 1, 1) := by decide +kernel
theorem d_93_44 : decode (mB 93) 44 = .ok (.ireturn, 1) := by decide +kernel
theorem d_94_0 : decode (mB 94) 0 = .ok (.iload_n 1, 1) := by decide +kernel
theorem d_94_1 : decode (mB 94) 1 = .ok (.invokestatic 44, 3) := by decide +kernel
theorem d_94_4 : decode (mB 94) 4 = .ok (.ifCond .eq 21, 3) := by decide +kernel
theorem d_94_7 : decode (mB 94) 7 = .ok (.iload_n 2, 1) := by decide +kernel
theorem d_94_8 : decode (mB 94) 8 = .ok (.iconst 1, 1) := by decide +kernel
theorem d_94_9 : decode (mB 94) 9 = .ok (.if_icmp .lt 16, 3) := by decide +kernel
theorem d_94_12 : decode (mB 94) 12 = .ok (.iload_n 2, 1) := by decide +kernel
theorem d_94_13 : decode (mB 94) 13 = .ok (.aload_n 0, 1) := by decide +kernel
theorem d_94_14 : decode (mB 94) 14 = .ok (.getfield 33, 3) := by decide +kernel
theorem d_94_17 : decode (mB 94) 17 = .ok (.iload_n 1, 1) := by decide +kernel
theorem d_94_18 : decode (mB 94) 18 = .ok (.aaload, 1) := by decide +kernel
theorem d_94_19 : decode (mB 94) 19 = .ok (.getfield 51, 3) := by decide +kernel
theorem d_94_22 : decode (mB 94) 22 = .ok (.if_icmp .le 5, 3) := by decide +kernel
theorem d_94_25 : decode (mB 94) 25 = .ok (.aconst_null, 1) := by decide +kernel
theorem d_94_26 : decode (mB 94) 26 = .ok (.areturn, 1) := by decide +kernel
theorem d_94_27 : decode (mB 94) 27 = .ok (.aload_n 0, 1) := by decide +kernel
theorem d_94_28 : decode (mB 94) 28 = .ok (.getfield 33, 3) := by decide +kernel
theorem d_94_31 : decode (mB 94) 31 = .ok (.iload_n 1, 1) := by decide +kernel
theorem d_94_32 : decode (mB 94) 32 = .ok (.aaload, 1) := by decide +kernel
theorem d_94_33 : decode (mB 94) 33 = .ok (.getfield 395, 3) := by decide +kernel
theorem d_94_36 : decode (mB 94) 36 = .ok (.iload_n 2, 1) := by decide +kernel
theorem d_94_37 : decode (mB 94) 37 = .ok (.iconst 1, 1) := by decide +kernel
theorem d_94_38 : decode (mB 94) 38 = .ok (.isub, 1) := by decide +kernel
theorem d_94_39 : decode (mB 94) 39 = .ok (.aaload, 1) := by decide +kernel
theorem d_94_40 : decode (mB 94) 40 = .ok (.areturn, 1) := by decide +kernel
theorem d_95_0 : decode (mB 95) 0 = .ok (.iload_n 1, 1) := by decide +kernel
theorem d_95_1 : decode (mB 95) 1 = .ok (.ifCond .lt 12, 3) := by decide +kernel
theorem d_95_4 : decode (mB 95) 4 = .ok (.iload_n 1, 1) := by decide +kernel
theorem d_95_5 : decode (mB 95) 5 = .ok (.aload_n 0, 1) := by decide +kernel
theorem d_95_6 : decode (mB 95) 6 = .ok (.getfield 40, 3) := by decide +kernel
theorem d_95_9 : decode (mB 95) 9 = .ok (.arraylength, 1) := by decide +kernel
theorem d_95_10 : decode (mB 95) 10 = .ok (.if_icmp .lt 7, 3) := by decide +kernel
theorem d_95_13 : decode (mB 95) 13 = .ok (.aconst_null, 1) := by decide +kernel
theorem d_95_14 : decode (mB 95) 14 = .ok (.goto 9, 3) := by decide +kernel
theorem d_95_17 : decode (mB 95) 17 = .ok (.aload_n 0, 1) := by decide +kernel
theorem d_95_18 : decode (mB 95) 18 = .ok (.getfield 40, 3) := by decide +kernel
theorem d_95_21 : decode (mB 95) 21 = .ok (.iload_n 1, 1) := by decide +kernel
theorem d_95_22 : decode (mB 95) 22 = .ok (.aaload, 1) := by decide +kernel
theorem d_95_23 : decode (mB 95) 23 = .ok (.areturn, 1) := by decide +kernel
theorem d_96_0 : decode (mB 96) 0 = .ok (.iconst 0, 1) := by decide +kernel
theorem d_96_1 : decode (mB 96) 1 = .ok (.istore_n 1, 1) := by decide +kernel
theorem d_96_2 : decode (mB 96) 2 = .ok (.iload_n 1, 1) := by decide +kernel
theorem d_96_3 : decode (mB 96) 3 = .ok (.aload_n 0, 1) := by decide +kernel
theorem d_96_4 : decode (mB 96) 4 = .ok (.getfield 40, 3) := by decide +kernel
theorem d_96_7 : decode (mB 96) 7 = .ok (.arraylength, 1) := by decide +kernel
theorem d_96_8 : decode (mB 96) 8 = .ok (.if_icmp .ge 20, 3) := by decide +kernel
theorem d_96_11 : decode (mB 96) 11 = .ok (.aload_n 0, 1) := by decide +kernel
theorem d_96_12 : decode (mB 96) 12 = .ok (.getfield 40, 3) := by decide +kernel
theorem d_96_15 : decode (mB 96) 15 = .ok (.iload_n 1, 1) := by decide +kernel
theorem d_96_16 : decode (mB 96) 16 = .ok (.aaload, 1) := by decide +kernel
theorem d_96_17 : decode (mB 96) 17 = .ok (.ifnonnull 5, 3) := by decide +kernel
theorem d_96_20 : decode (mB 96) 20 = .ok (.iload_n 1, 1) := by decide +kernel
theorem d_96_21 : decode (mB 96) 21 = .ok (.ireturn, 1) := by decide +kernel
theorem d_96_22 : decode (mB 96) 22 = .ok (.iinc 1 1, 3) := by decide +kernel
theorem d_96_25 : decode (mB 96) 25 = .ok (.goto (-23), 3) := by decide +kernel
theorem d_96_28 : decode (mB 96) 28 = .ok (.iconst (-1), 1) := by decide +kernel
theorem d_96_29 : decode (mB 96) 29 = .ok (.ireturn, 1) := by decide +kernel
theorem d_97_0 : decode (mB 97) 0 = .ok (.aload_n 0, 1) := by decide +kernel
theorem d_97_1 : decode (mB 97) 1 = .ok (.getfield 27, 3) := by decide +kernel
theorem d_97_4 : decode (mB 97) 4 = .ok (.getfield 186, 3) := by decide +kernel
theorem d_97_7 : decode (mB 97) 7 = .ok (.aload_n 1, 1) := by decide +kernel
theorem d_97_8 : decode (mB 97) 8 = .ok (.getfield 312, 3) := by decide +kernel
theorem d_97_11 : decode (mB 97) 11 = .ok (.invokestatic 315, 3) := by decide +kernel
theorem d_97_14 : decode (mB 97) 14 = .ok (.iaload, 1) := by decide +kernel
theorem d_97_15 : decode (mB 97) 15 = .ok (.istore_n 3, 1) := by decide +kernel
theorem d_97_16 : decode (mB 97) 16 = .ok (.iload_n 3, 1) := by decide +kernel
theorem d_97_17 : decode (mB 97) 17 = .ok (.iconst (-1), 1) := by decide +kernel
theorem d_97_18 : decode (mB 97) 18 = .ok (.if_icmp .ne 6, 3) := by decide +kernel
theorem d_97_21 : decode (mB 97) 21 = .ok (.bipush (-2), 2) := by decide +kernel
theorem d_97_23 : decode (mB 97) 23 = .ok (.ireturn, 1) := by decide +kernel
theorem d_97_24 : decode (mB 97) 24 = .ok (.aload_n 0, 1) := by decide +kernel
theorem d_97_25 : decode (mB 97) 25 = .ok (.invokevirtual 113, 3) := by decide +kernel
theorem d_97_28 : decode (mB 97) 28 = .ok (.istore 4, 2) := by decide +kernel
theorem d_97_30 : decode (mB 97) 30 = .ok (.iload 4, 2) := by decide +kernel
theorem d_97_32 : decode (mB 97) 32 = .ok (.iconst (-1), 1) := by decide +kernel
theorem d_97_33 : decode (mB 97) 33 = .ok (.if_icmp .ne 6, 3) := by decide +kernel
theorem d_97_36 : decode (mB 97) 36 = .ok (.bipush (-3), 2) := by decide +kernel
theorem d_97_38 : decode (mB 97) 38 = .ok (.ireturn, 1) := by decide +kernel
theorem d_97_39 : decode (mB 97) 39 = .ok (.aload_n 0, 1) := by decide +kernel
theorem d_97_40 : decode (mB 97) 40 = .ok (.getfield 40, 3) := by decide +kernel
theorem d_97_43 : decode (mB 97) 43 = .ok (.iload 4, 2) := by decide +kernel
theorem d_97_45 : decode (mB 97) 45 = .ok (.new 38, 3) := by decide +kernel
theorem d_97_48 : decode (mB 97) 48 = .ok (.dup, 1) := by decide +kernel
theorem d_97_49 : decode (mB 97) 49 = .ok (.aload_n 1, 1) := by decide +kernel
theorem d_97_50 : decode (mB 97) 50 = .ok (.aload_n 2, 1) := by decide +kernel
theorem d_97_51 : decode (mB 97) 51 = .ok (.invokevirtual 146, 3) := by decide +kernel
theorem d_97_54 : decode (mB 97) 54 = .ok (.aload_n 0, 1) := by decide +kernel
theorem d_97_55 : decode (mB 97) 55 = .ok (.getfield 18, 3) := by decide +kernel
theorem d_97_58 : decode (mB 97) 58 = .ok (.getfield 152, 3) := by decide +kernel
theorem d_97_61 : decode (mB 97) 61 = .ok (.iload_n 3, 1) := by decide +kernel
theorem d_97_62 : decode (mB 97) 62 = .ok (.aaload, 1) := by decide +kernel
theorem d_97_63 : decode (mB 97) 63 = .ok (.aconst_null, 1) := by decide +kernel
theorem d_97_64 : decode (mB 97) 64 = .ok (.invokespecial 110, 3) := by decide +kernel
theorem d_97_67 : decode (mB 97) 67 = .ok (.aastore, 1) := by decide +kernel
theorem d_97_68 : decode (mB 97) 68 = .ok (.iload 4, 2) := by decide +kernel
theorem d_97_70 : decode (mB 97) 70 = .ok (.ireturn, 1) := by decide +kernel
theorem d_98_0 : decode (mB 98) 0 = .ok (.iconst 0, 1) := by decide +kernel
theorem d_98_1 : decode (mB 98) 1 = .ok (.istore_n 1, 1) := by decide +kernel
theorem d_98_2 : decode (mB 98) 2 = .ok (.iconst 0, 1) := by decide +kernel
theorem d_98_3 : decode (mB 98) 3 = .ok (.istore_n 2, 1) := by decide +kernel
theorem d_98_4 : decode (mB 98) 4 = .ok (.iload_n 2, 1) := by decide +kernel
theorem d_98_5 : decode (mB 98) 5 = .ok (.aload_n 0, 1) := by decide +kernel
theorem d_98_6 : decode (mB 98) 6 = .ok (.getfield 40, 3) := by decide +kernel
theorem d_98_9 : decode (mB 98) 9 = .ok (.arraylength, 1) := by decide +kernel
theorem d_98_10 : decode (mB 98) 10 = .ok (.if_icmp .ge 21, 3) := by decide +kernel
theorem d_98_13 : decode (mB 98) 13 = .ok (.aload_n 0, 1) := by decide +kernel
theorem d_98_14 : decode (mB 98) 14 = .ok (.getfield 40, 3) := by decide +kernel
theorem d_98_17 : decode (mB 98) 17 = .ok (.iload_n 2, 1) := by decide +kernel
theorem d_98_18 : decode (mB 98) 18 = .ok (.aaload, 1) := by decide +kernel
theorem d_98_19 : decode (mB 98) 19 = .ok (.ifnull 6, 3) := by decide +kernel
theorem d_98_22 : decode (mB 98) 22 = .ok (.iinc 1 1, 3) := by decide +kernel
theorem d_98_25 : decode (mB 98) 25 = .ok (.iinc 2 1, 3) := by decide +kernel
theorem d_98_28 : decode (mB 98) 28 = .ok (.goto (-24), 3) := by decide +kernel
theorem d_98_31 : decode (mB 98) 31 = .ok (.iload_n 1, 1) := by decide +kernel
theorem d_98_32 : decode (mB 98) 32 = .ok (.ireturn, 1) := by decide +kernel
theorem d_99_0 : decode (mB 99) 0 = .ok (.aload_n 0, 1) := by decide +kernel
theorem d_99_1 : decode (mB 99) 1 = .ok (.getfield 18, 3) := by decide +kernel
theorem d_99_4 : decode (mB 99) 4 = .ok (.getfield 249, 3) := by decide +kernel
theorem d_99_7 : decode (mB 99) 7 = .ok (.aload_n 1, 1) := by decide +kernel
theorem d_99_8 : decode (mB 99) 8 = .ok (.invokevirtual 253, 3) := by decide +kernel
theorem d_99_11 : decode (mB 99) 11 = .ok (.iconst 0, 1) := by decide +kernel
theorem d_99_12 : decode (mB 99) 12 = .ok (.istore_n 3, 1) := by decide +kernel
theorem d_99_13 : decode (mB 99) 13 = .ok (.iconst 0, 1) := by decide +kernel
theorem d_99_14 : decode (mB 99) 14 = .ok (.istore 4, 2) := by decide +kernel
theorem d_99_16 : decode (mB 99) 16 = .ok (.iconst 0, 1) := by decide +kernel
theorem d_99_17 : decode (mB 99) 17 = .ok (.istore 5, 2) := by decide +kernel
theorem d_99_19 : decode (mB 99) 19 = .ok (.iload 5, 2) := by decide +kernel
theorem d_99_21 : decode (mB 99) 21 = .ok (.aload_n 1, 1) := by decide +kernel
theorem d_99_22 : decode (mB 99) 22 = .ok (.getfield 209, 3) := by decide +kernel
theorem d_99_25 : decode (mB 99) 25 = .ok (.invokevirtual 215, 3) := by decide +kernel
theorem d_99_28 : decode (mB 99) 28 = .ok (.if_icmp .ge 47, 3) := by decide +kernel
theorem d_99_31 : decode (mB 99) 31 = .ok (.iload_n 3, 1) := by decide +kernel
theorem d_99_32 : decode (mB 99) 32 = .ok (.aload_n 1, 1) := by decide +kernel
theorem d_99_33 : decode (mB 99) 33 = .ok (.getfield 209, 3) := by decide +kernel
theorem d_99_36 : decode (mB 99) 36 = .ok (.iload 5, 2) := by decide +kernel
theorem d_99_38 : decode (mB 99) 38 = .ok (.invokevirtual 239, 3) := by decide +kernel
theorem d_99_41 : decode (mB 99) 41 = .ok (.checkcast 235, 3) := by decide +kernel
theorem d_99_44 : decode (mB 99) 44 = .ok (.getfield 259, 3) := by decide +kernel
theorem d_99_47 : decode (mB 99) 47 = .ok (.iadd, 1) := by decide +kernel
theorem d_99_48 : decode (mB 99) 48 = .ok (.istore_n 3, 1) := by decide +kernel
theorem d_99_49 : decode (mB 99) 49 = .ok (.iload 4, 2) := by decide +kernel
theorem d_99_51 : decode (mB 99) 51 = .ok (.aload_n 1, 1) := by decide +kernel
theorem d_99_52 : decode (mB 99) 52 = .ok (.getfield 209, 3) := by decide +kernel
theorem d_99_55 : decode (mB 99) 55 = .ok (.iload 5, 2) := by decide +kernel
theorem d_99_57 : decode (mB 99) 57 = .ok (.invokevirtual 239, 3) := by decide +kernel
theorem d_99_60 : decode (mB 99) 60 = .ok (.checkcast 235, 3) := by decide +kernel
theorem d_99_63 : decode (mB 99) 63 = .ok (.getfield 246, 3) := by decide +kernel
theorem d_99_66 : decode (mB 99) 66 = .ok (.iadd, 1) := by decide +kernel
theorem d_99_67 : decode (mB 99) 67 = .ok (.istore 4, 2) := by decide +kernel
theorem d_99_69 : decode (mB 99) 69 = .ok (.iinc 5 1, 3) := by decide +kernel
theorem d_99_72 : decode (mB 99) 72 = .ok (.goto (-53), 3) := by decide +kernel
theorem d_99_75 : decode (mB 99) 75 = .ok (.iload_n 2, 1) := by decide +kernel
theorem d_99_76 : decode (mB 99) 76 = .ok (.iconst 5, 1) := by decide +kernel
theorem d_99_77 : decode (mB 99) 77 = .ok (.if_icmp .ne 5, 3) := by decide +kernel
theorem d_99_80 : decode (mB 99) 80 = .ok (.iload_n 3, 1) := by decide +kernel
theorem d_99_81 : decode (mB 99) 81 = .ok (.ireturn, 1) := by decide +kernel
theorem d_99_82 : decode (mB 99) 82 = .ok (.iload_n 2, 1) := by decide +kernel
theorem d_99_83 : decode (mB 99) 83 = .ok (.bipush 6, 2) := by decide +kernel
theorem d_99_85 : decode (mB 99) 85 = .ok (.if_icmp .ne 10, 3) := by decide +kernel
theorem d_99_88 : decode (mB 99) 88 = .ok (.iload 4, 2) := by decide +kernel
theorem d_99_90 : decode (mB 99) 90 = .ok (.iload_n 3, 1) := by decide +kernel
theorem d_99_91 : decode (mB 99) 91 = .ok (.isub, 1) := by decide +kernel
theorem d_99_92 : decode (mB 99) 92 = .ok (.goto 21, 3) := by decide +kernel
theorem d_99_95 : decode (mB 99) 95 = .ok (.aload_n 1, 1) := by decide +kernel
theorem d_99_96 : decode (mB 99) 96 = .ok (.getfield 209, 3) := by decide +kernel
theorem d_99_99 : decode (mB 99) 99 = .ok (.invokevirtual 215, 3) := by decide +kernel
theorem d_99_102 : decode (mB 99) 102 = .ok (.aload_n 0, 1) := by decide +kernel
theorem d_99_103 : decode (mB 99) 103 = .ok (.getfield 18, 3) := by decide +kernel
theorem d_99_106 : decode (mB 99) 106 = .ok (.getfield 399, 3) := by decide +kernel
theorem d_99_109 : decode (mB 99) 109 = .ok (.imul, 1) := by decide +kernel
theorem d_99_110 : decode (mB 99) 110 = .ok (.iload 4, 2) := by decide +kernel
theorem d_99_112 : decode (mB 99) 112 = .ok (.isub, 1) := by decide +kernel
theorem d_99_113 : decode (mB 99) 113 = .ok (.ireturn, 1) := by decide +kernel
theorem d_100_0 : decode (mB 100) 0 = .ok (.iload_n 0, 1) := by decide +kernel
theorem d_100_1 : decode (mB 100) 1 = .ok (.iload_n 1, 1) := by decide +kernel
theorem d_100_2 : decode (mB 100) 2 = .ok (.if_icmp .lt 12, 3) := by decide +kernel
theorem d_100_5 : decode (mB 100) 5 = .ok (.iload_n 0, 1) := by decide +kernel
theorem d_100_6 : decode (mB 100) 6 = .ok (.iload_n 2, 1) := by decide +kernel
theorem d_100_7 : decode (mB 100) 7 = .ok (.if_icmp .gt 7, 3) := by decide +kernel
theorem d_100_10 : decode (mB 100) 10 = .ok (.iconst 1, 1) := by decide +kernel
theorem d_100_11 : decode (mB 100) 11 = .ok (.goto 4, 3) := by decide +kernel
theorem d_100_14 : decode (mB 100) 14 = .ok (.iconst 0, 1) := by decide +kernel
theorem d_100_15 : decode (mB 100) 15 = .ok (.ireturn, 1) := by decide +kernel
theorem d_101_0 : decode (mB 101) 0 = .ok (.iload_n 0, 1) := by decide +kernel
theorem d_101_1 : decode (mB 101) 1 = .ok (.iload_n 1, 1) := by decide +kernel
theorem d_101_2 : decode (mB 101) 2 = .ok (.if_icmp .ge 7, 3) := by decide +kernel
theorem d_101_5 : decode (mB 101) 5 = .ok (.iload_n 1, 1) := by decide +kernel
theorem d_101_6 : decode (mB 101) 6 = .ok (.goto 13, 3) := by decide +kernel
theorem d_101_9 : decode (mB 101) 9 = .ok (.iload_n 0, 1) := by decide +kernel
theorem d_101_10 : decode (mB 101) 10 = .ok (.iload_n 2, 1) := by decide +kernel
theorem d_101_11 : decode (mB 101) 11 = .ok (.if_icmp .le 7, 3) := by decide +kernel
theorem d_101_14 : decode (mB 101) 14 = .ok (.iload_n 2, 1) := by decide +kernel
theorem d_101_15 : decode (mB 101) 15 = .ok (.goto 4, 3) := by decide +kernel
theorem d_101_18 : decode (mB 101) 18 = .ok (.iload_n 0, 1) := by decide +kernel
theorem d_101_19 : decode (mB 101) 19 = .ok (.ireturn, 1) := by decide +kernel
theorem d_102_0 : decode (mB 102) 0 = .ok (.aload_n 0, 1) := by decide +kernel
theorem d_102_1 : decode (mB 102) 1 = .ok (.invokespecial 1, 3) := by decide +kernel
theorem d_102_4 : decode (mB 102) 4 = .ok (.aload_n 0, 1) := by decide +kernel
theorem d_102_5 : decode (mB 102) 5 = .ok (.bipush 8, 2) := by decide +kernel
theorem d_102_7 : decode (mB 102) 7 = .ok (.newarray .int, 2) := by decide +kernel
theorem d_102_9 : decode (mB 102) 9 = .ok (.putfield 9, 3) := by decide +kernel
theorem d_102_12 : decode (mB 102) 12 = .ok (.aload_n 0, 1) := by decide +kernel
theorem d_102_13 : decode (mB 102) 13 = .ok (.bipush 8, 2) := by decide +kernel
theorem d_102_15 : decode (mB 102) 15 = .ok (.newarray .boolean, 2) := by decide +kernel
theorem d_102_17 : decode (mB 102) 17 = .ok (.putfield 13, 3) := by decide +kernel
theorem d_102_20 : decode (mB 102) 20 = .ok (.aload_n 0, 1) := by decide +kernel
theorem d_102_21 : decode (mB 102) 21 = .ok (.bipush 64, 2) := by decide +kernel
theorem d_102_23 : decode (mB 102) 23 = .ok (.newarray .boolean, 2) := by decide +kernel
theorem d_102_25 : decode (mB 102) 25 = .ok (.putfield 17, 3) := by decide +kernel
theorem d_102_28 : decode (mB 102) 28 = .ok (.aload_n 0, 1) := by decide +kernel
theorem d_102_29 : decode (mB 102) 29 = .ok (.bipush 8, 2) := by decide +kernel
theorem d_102_31 : decode (mB 102) 31 = .ok (.newarray .boolean, 2) := by decide +kernel
theorem d_102_33 : decode (mB 102) 33 = .ok (.putfield 20, 3) := by decide +kernel
theorem d_102_36 : decode (mB 102) 36 = .ok (.aload_n 0, 1) := by decide +kernel
theorem d_102_37 : decode (mB 102) 37 = .ok (.bipush 8, 2) := by decide +kernel
theorem d_102_39 : decode (mB 102) 39 = .ok (.newarray .int, 2) := by decide +kernel
theorem d_102_41 : decode (mB 102) 41 = .ok (.putfield 23, 3) := by decide +kernel
theorem d_102_44 : decode (mB 102) 44 = .ok (.aload_n 0, 1) := by decide +kernel
theorem d_102_45 : decode (mB 102) 45 = .ok (.bipush 8, 2) := by decide +kernel
theorem d_102_47 : decode (mB 102) 47 = .ok (.newarray .int, 2) := by decide +kernel
theorem d_102_49 : decode (mB 102) 49 = .ok (.putfield 26, 3) := by decide +kernel
theorem d_102_52 : decode (mB 102) 52 = .ok (.aload_n 0, 1) := by decide +kernel
theorem d_102_53 : decode (mB 102) 53 = .ok (.bipush 8, 2) := by decide +kernel
theorem d_102_55 : decode (mB 102) 55 = .ok (.newarray .int, 2) := by decide +kernel
theorem d_102_57 : decode (mB 102) 57 = .ok (.putfield 29, 3) := by decide +kernel
theorem d_102_60 : decode (mB 102) 60 = .ok (.aload_n 0, 1) := by decide +kernel
theorem d_102_61 : decode (mB 102) 61 = .ok (.bipush 8, 2) := by decide +kernel
theorem d_102_63 : decode (mB 102) 63 = .ok (.newarray .int, 2) := by decide +kernel
theorem d_102_65 : decode (mB 102) 65 = .ok (.putfield 32, 3) := by decide +kernel
theorem d_102_68 : decode (mB 102) 68 = .ok (.aload_n 0, 1) := by decide +kernel
theorem d_102_69 : decode (mB 102) 69 = .ok (.bipush 8, 2) := by decide +kernel
theorem d_102_71 : decode (mB 102) 71 = .ok (.newarray .int, 2) := by decide +kernel
theorem d_102_73 : decode (mB 102) 73 = .ok (.putfield 35, 3) := by decide +kernel
theorem d_102_76 : decode (mB 102) 76 = .ok (.aload_n 0, 1) := by decide +kernel
theorem d_102_77 : decode (mB 102) 77 = .ok (.sipush 6000, 3) := by decide +kernel
theorem d_102_80 : decode (mB 102) 80 = .ok (.newarray .int, 2) := by decide +kernel
theorem d_102_82 : decode (mB 102) 82 = .ok (.putfield 38, 3) := by decide +kernel
theorem d_102_85 : decode (mB 102) 85 = .ok (.aload_n 0, 1) := by decide +kernel
theorem d_102_86 : decode (mB 102) 86 = .ok (.sipush 6000, 3) := by decide +kernel
theorem d_102_89 : decode (mB 102) 89 = .ok (.newarray .int, 2) := by decide +kernel
theorem d_102_91 : decode (mB 102) 91 = .ok (.putfield 41, 3) := by decide +kernel
theorem d_102_94 : decode (mB 102) 94 = .ok (.aload_n 0, 1) := by decide +kernel
theorem d_102_95 : decode (mB 102) 95 = .ok (.sipush 6000, 3) := by decide +kernel
theorem d_102_98 : decode (mB 102) 98 = .ok (.newarray .boolean, 2) := by decide +kernel
theorem d_102_100 : decode (mB 102) 100 = .ok (.putfield 44, 3) := by decide +kernel
theorem d_102_103 : decode (mB 102) 103 = .ok (.aload_n 0, 1) := by decide +kernel
theorem d_102_104 : decode (mB 102) 104 = .ok (.sipush 6000, 3) := by decide +kernel
theorem d_102_107 : decode (mB 102) 107 = .ok (.newarray .int, 2) := by decide +kernel
theorem d_102_109 : decode (mB 102) 109 = .ok (.putfield 47, 3) := by decide +kernel
theorem d_102_112 : decode (mB 102) 112 = .ok (.aload_n 0, 1) := by decide +kernel
theorem d_102_113 : decode (mB 102) 113 = .ok (.ldc 50, 2) := by decide +kernel
theorem d_102_115 : decode (mB 102) 115 = .ok (.newarray .int, 2) := by decide +kernel
theorem d_102_117 : decode (mB 102) 117 = .ok (.putfield 51, 3) := by decide +kernel
theorem d_102_120 : decode (mB 102) 120 = .ok (.aload_n 0, 1) := by decide +kernel
theorem d_102_121 : decode (mB 102) 121 = .ok (.sipush 6000, 3) := by decide +kernel
theorem d_102_124 : decode (mB 102) 124 = .ok (.newarray .int, 2) := by decide +kernel
theorem d_102_126 : decode (mB 102) 126 = .ok (.putfield 54, 3) := by decide +kernel
theorem d_102_129 : decode (mB 102) 129 = .ok (.aload_n 0, 1) := by decide +kernel
theorem d_102_130 : decode (mB 102) 130 = .ok (.ldc 57, 2) := by decide +kernel
theorem d_102_132 : decode (mB 102) 132 = .ok (.newarray .int, 2) := by decide +kernel
theorem d_102_134 : decode (mB 102) 134 = .ok (.putfield 58, 3) := by decide +kernel
theorem d_102_137 : decode (mB 102) 137 = .ok (.aload_n 0, 1) := by decide +kernel
theorem d_102_138 : decode (mB 102) 138 = .ok (.ldc 57, 2) := by decide +kernel
theorem d_102_140 : decode (mB 102) 140 = .ok (.newarray .int, 2) := by decide +kernel
theorem d_102_142 : decode (mB 102) 142 = .ok (.putfield 61, 3) := by decide +kernel
theorem d_102_145 : decode (mB 102) 145 = .ok (.aload_n 0, 1) := by decide +kernel
theorem d_102_146 : decode (mB 102) 146 = .ok (.bipush 18, 2) := by decide +kernel
theorem d_102_148 : decode (mB 102) 148 = .ok (.newarray .int, 2) := by decide +kernel
theorem d_102_150 : decode (mB 102) 150 = .ok (.putfield 64, 3) := by decide +kernel
theorem d_102_153 : decode (mB 102) 153 = .ok (.aload_n 0, 1) := by decide +kernel
theorem d_102_154 : decode (mB 102) 154 = .ok (.sipush 6000, 3) := by decide +kernel
theorem d_102_157 : decode (mB 102) 157 = .ok (.newarray .int, 2) := by decide +kernel
theorem d_102_159 : decode (mB 102) 159 = .ok (.putfield 67, 3) := by decide +kernel
theorem d_102_162 : decode (mB 102) 162 = .ok (.aload_n 0, 1) := by decide +kernel
theorem d_102_163 : decode (mB 102) 163 = .ok (.sipush 6000, 3) := by decide +kernel
theorem d_102_166 : decode (mB 102) 166 = .ok (.newarray .int, 2) := by decide +kernel
theorem d_102_168 : decode (mB 102) 168 = .ok (.putfield 70, 3) := by decide +kernel
theorem d_102_171 : decode (mB 102) 171 = .ok (.aload_n 0, 1) := by decide +kernel
theorem d_102_172 : decode (mB 102) 172 = .ok (.ldc 73, 2) := by decide +kernel
theorem d_102_174 : decode (mB 102) 174 = .ok (.newarray .boolean, 2) := by decide +kernel
theorem d_102_176 : decode (mB 102) 176 = .ok (.putfield 74, 3) := by decide +kernel
theorem d_102_179 : decode (mB 102) 179 = .ok (.aload_n 0, 1) := by decide +kernel
theorem d_102_180 : decode (mB 102) 180 = .ok (.bipush 18, 2) := by decide +kernel
theorem d_102_182 : decode (mB 102) 182 = .ok (.newarray .int, 2) := by decide +kernel
theorem d_102_184 : decode (mB 102) 184 = .ok (.putfield 77, 3) := by decide +kernel
theorem d_102_187 : decode (mB 102) 187 = .ok (.aload_n 0, 1) := by decide +kernel
theorem d_102_188 : decode (mB 102) 188 = .ok (.bipush 18, 2) := by decide +kernel
theorem d_102_190 : decode (mB 102) 190 = .ok (.newarray .int, 2) := by decide +kernel
theorem d_102_192 : decode (mB 102) 192 = .ok (.putfield 80, 3) := by decide +kernel
theorem d_102_195 : decode (mB 102) 195 = .ok (.aload_n 0, 1) := by decide +kernel
theorem d_102_196 : decode (mB 102) 196 = .ok (.bipush 6, 2) := by decide +kernel
theorem d_102_198 : decode (mB 102) 198 = .ok (.newarray .int, 2) := by decide +kernel
theorem d_102_200 : decode (mB 102) 200 = .ok (.putfield 83, 3) := by decide +kernel
theorem d_102_203 : decode (mB 102) 203 = .ok (.aload_n 0, 1) := by decide +kernel
theorem d_102_204 : decode (mB 102) 204 = .ok (.sipush 240, 3) := by decide +kernel
theorem d_102_207 : decode (mB 102) 207 = .ok (.newarray .int, 2) := by decide +kernel
theorem d_102_209 : decode (mB 102) 209 = .ok (.putfield 86, 3) := by decide +kernel
theorem d_102_212 : decode (mB 102) 212 = .ok (.aload_n 0, 1) := by decide +kernel
theorem d_102_213 : decode (mB 102) 213 = .ok (.sipush 240, 3) := by decide +kernel
theorem d_102_216 : decode (mB 102) 216 = .ok (.newarray .int, 2) := by decide +kernel
theorem d_102_218 : decode (mB 102) 218 = .ok (.putfield 89, 3) := by decide +kernel
theorem d_102_221 : decode (mB 102) 221 = .ok (.aload_n 0, 1) := by decide +kernel
theorem d_102_222 : decode (mB 102) 222 = .ok (.sipush 240, 3) := by decide +kernel
theorem d_102_225 : decode (mB 102) 225 = .ok (.newarray .int, 2) := by decide +kernel
theorem d_102_227 : decode (mB 102) 227 = .ok (.putfield 92, 3) := by decide +kernel
theorem d_102_230 : decode (mB 102) 230 = .ok (.aload_n 0, 1) := by decide +kernel
theorem d_102_231 : decode (mB 102) 231 = .ok (.sipush 240, 3) := by decide +kernel
theorem d_102_234 : decode (mB 102) 234 = .ok (.newarray .int, 2) := by decide +kernel
theorem d_102_236 : decode (mB 102) 236 = .ok (.putfield 95, 3) := by decide +kernel
theorem d_102_239 : decode (mB 102) 239 = .ok (.aload_n 0, 1) := by decide +kernel
theorem d_102_240 : decode (mB 102) 240 = .ok (.sipush 240, 3) := by decide +kernel
theorem d_102_243 : decode (mB 102) 243 = .ok (.newarray .boolean, 2) := by decide +kernel
theorem d_102_245 : decode (mB 102) 245 = .ok (.putfield 98, 3) := by decide +kernel
theorem d_102_248 : decode (mB 102) 248 = .ok (.aload_n 0, 1) := by decide +kernel
theorem d_102_249 : decode (mB 102) 249 = .ok (.sipush 240, 3) := by decide +kernel
theorem d_102_252 : decode (mB 102) 252 = .ok (.newarray .int, 2) := by decide +kernel
theorem d_102_254 : decode (mB 102) 254 = .ok (.putfield 101, 3) := by decide +kernel
theorem d_102_257 : decode (mB 102) 257 = .ok (.aload_n 0, 1) := by decide +kernel
theorem d_102_258 : decode (mB 102) 258 = .ok (.sipush 240, 3) := by decide +kernel
theorem d_102_261 : decode (mB 102) 261 = .ok (.newarray .int, 2) := by decide +kernel
theorem d_102_263 : decode (mB 102) 263 = .ok (.putfield 104, 3) := by decide +kernel
theorem d_102_266 : decode (mB 102) 266 = .ok (.aload_n 0, 1) := by decide +kernel
theorem d_102_267 : decode (mB 102) 267 = .ok (.sipush 240, 3) := by decide +kernel
theorem d_102_270 : decode (mB 102) 270 = .ok (.newarray .int, 2) := by decide +kernel
theorem d_102_272 : decode (mB 102) 272 = .ok (.putfield 107, 3) := by decide +kernel
theorem d_102_275 : decode (mB 102) 275 = .ok (.aload_n 0, 1) := by decide +kernel
theorem d_102_276 : decode (mB 102) 276 = .ok (.bipush 40, 2) := by decide +kernel
theorem d_102_278 : decode (mB 102) 278 = .ok (.newarray .int, 2) := by decide +kernel
theorem d_102_280 : decode (mB 102) 280 = .ok (.putfield 110, 3) := by decide +kernel
theorem d_102_283 : decode (mB 102) 283 = .ok (.aload_n 0, 1) := by decide +kernel
theorem d_102_284 : decode (mB 102) 284 = .ok (.bipush 40, 2) := by decide +kernel
theorem d_102_286 : decode (mB 102) 286 = .ok (.newarray .int, 2) := by decide +kernel
theorem d_102_288 : decode (mB 102) 288 = .ok (.putfield 113, 3) := by decide +kernel
theorem d_102_291 : decode (mB 102) 291 = .ok (.aload_n 0, 1) := by decide +kernel
theorem d_102_292 : decode (mB 102) 292 = .ok (.bipush 40, 2) := by decide +kernel
theorem d_102_294 : decode (mB 102) 294 = .ok (.newarray .int, 2) := by decide +kernel
theorem d_102_296 : decode (mB 102) 296 = .ok (.putfield 116, 3) := by decide +kernel
theorem d_102_299 : decode (mB 102) 299 = .ok (.aload_n 0, 1) := by decide +kernel
theorem d_102_300 : decode (mB 102) 300 = .ok (.bipush 40, 2) := by decide +kernel
theorem d_102_302 : decode (mB 102) 302 = .ok (.newarray .int, 2) := by decide +kernel
theorem d_102_304 : decode (mB 102) 304 = .ok (.putfield 119, 3) := by decide +kernel
theorem d_102_307 : decode (mB 102) 307 = .ok (.aload_n 0, 1) := by decide +kernel
theorem d_102_308 : decode (mB 102) 308 = .ok (.bipush 40, 2) := by decide +kernel
theorem d_102_310 : decode (mB 102) 310 = .ok (.newarray .int, 2) := by decide +kernel
theorem d_102_312 : decode (mB 102) 312 = .ok (.putfield 122, 3) := by decide +kernel
theorem d_102_315 : decode (mB 102) 315 = .ok (.aload_n 0, 1) := by decide +kernel
theorem d_102_316 : decode (mB 102) 316 = .ok (.bipush 40, 2) := by decide +kernel
theorem d_102_318 : decode (mB 102) 318 = .ok (.newarray .int, 2) := by decide +kernel
theorem d_102_320 : decode (mB 102) 320 = .ok (.putfield 125, 3) := by decide +kernel
theorem d_102_323 : decode (mB 102) 323 = .ok (.aload_n 0, 1) := by decide +kernel
theorem d_102_324 : decode (mB 102) 324 = .ok (.bipush 40, 2) := by decide +kernel
theorem d_102_326 : decode (mB 102) 326 = .ok (.newarray .int, 2) := by decide +kernel
theorem d_102_328 : decode (mB 102) 328 = .ok (.putfield 128, 3) := by decide +kernel
theorem d_102_331 : decode (mB 102) 331 = .ok (.aload_n 0, 1) := by decide +kernel
theorem d_102_332 : decode (mB 102) 332 = .ok (.bipush 40, 2) := by decide +kernel
theorem d_102_334 : decode (mB 102) 334 = .ok (.newarray .int, 2) := by decide +kernel
theorem d_102_336 : decode (mB 102) 336 = .ok (.putfield 131, 3) := by decide +kernel
theorem d_102_339 : decode (mB 102) 339 = .ok (.aload_n 0, 1) := by decide +kernel
theorem d_102_340 : decode (mB 102) 340 = .ok (.bipush 16, 2) := by decide +kernel
theorem d_102_342 : decode (mB 102) 342 = .ok (.newarray .int, 2) := by decide +kernel
theorem d_102_344 : decode (mB 102) 344 = .ok (.putfield 134, 3) := by decide +kernel
theorem d_102_347 : decode (mB 102) 347 = .ok (.aload_n 0, 1) := by decide +kernel
theorem d_102_348 : decode (mB 102) 348 = .ok (.sipush 128, 3) := by decide +kernel
theorem d_102_351 : decode (mB 102) 351 = .ok (.newarray .boolean, 2) := by decide +kernel
theorem d_102_353 : decode (mB 102) 353 = .ok (.putfield 137, 3) := by decide +kernel
theorem d_102_356 : decode (mB 102) 356 = .ok (.aload_n 0, 1) := by decide +kernel
theorem d_102_357 : decode (mB 102) 357 = .ok (.iload_n 1, 1) := by decide +kernel
theorem d_102_358 : decode (mB 102) 358 = .ok (.iconst 4, 1) := by decide +kernel
theorem d_102_359 : decode (mB 102) 359 = .ok (.bipush 8, 2) := by decide +kernel
theorem d_102_361 : decode (mB 102) 361 = .ok (.invokestatic 140, 3) := by decide +kernel
theorem d_102_364 : decode (mB 102) 364 = .ok (.putfield 144, 3) := by decide +kernel
theorem d_102_367 : decode (mB 102) 367 = .ok (.aload_n 0, 1) := by decide +kernel
theorem d_102_368 : decode (mB 102) 368 = .ok (.iload_n 2, 1) := by decide +kernel
theorem d_102_369 : decode (mB 102) 369 = .ok (.iconst 2, 1) := by decide +kernel
theorem d_102_370 : decode (mB 102) 370 = .ok (.iconst 3, 1) := by decide +kernel
theorem d_102_371 : decode (mB 102) 371 = .ok (.invokestatic 140, 3) := by decide +kernel
theorem d_102_374 : decode (mB 102) 374 = .ok (.putfield 148, 3) := by decide +kernel
theorem d_102_377 : decode (mB 102) 377 = .ok (.aload_n 0, 1) := by decide +kernel
theorem d_102_378 : decode (mB 102) 378 = .ok (.iload_n 3, 1) := by decide +kernel
theorem d_102_379 : decode (mB 102) 379 = .ok (.bipush 6, 2) := by decide +kernel
theorem d_102_381 : decode (mB 102) 381 = .ok (.bipush 16, 2) := by decide +kernel
theorem d_102_383 : decode (mB 102) 383 = .ok (.invokestatic 140, 3) := by decide +kernel
theorem d_102_386 : decode (mB 102) 386 = .ok (.putfield 151, 3) := by decide +kernel
theorem d_102_389 : decode (mB 102) 389 = .ok (.aload_n 0, 1) := by decide +kernel
theorem d_102_390 : decode (mB 102) 390 = .ok (.iload 4, 2) := by decide +kernel
theorem d_102_392 : decode (mB 102) 392 = .ok (.iconst 5, 1) := by decide +kernel
theorem d_102_393 : decode (mB 102) 393 = .ok (.bipush 16, 2) := by decide +kernel
theorem d_102_395 : decode (mB 102) 395 = .ok (.invokestatic 140, 3) := by decide +kernel
theorem d_102_398 : decode (mB 102) 398 = .ok (.putfield 154, 3) := by decide +kernel
theorem d_102_401 : decode (mB 102) 401 = .ok (.iconst 0, 1) := by decide +kernel
theorem d_102_402 : decode (mB 102) 402 = .ok (.istore 5, 2) := by decide +kernel
theorem d_102_404 : decode (mB 102) 404 = .ok (.iload 5, 2) := by decide +kernel
theorem d_102_406 : decode (mB 102) 406 = .ok (.bipush 8, 2) := by decide +kernel
theorem d_102_408 : decode (mB 102) 408 = .ok (.if_icmp .ge 42, 3) := by decide +kernel
theorem d_102_411 : decode (mB 102) 411 = .ok (.aload_n 0, 1) := by decide +kernel
theorem d_102_412 : decode (mB 102) 412 = .ok (.getfield 35, 3) := by decide +kernel
theorem d_102_415 : decode (mB 102) 415 = .ok (.iload 5, 2) := by decide +kernel
theorem d_102_417 : decode (mB 102) 417 = .ok (.iload 5, 2) := by decide +kernel
theorem d_102_419 : decode (mB 102) 419 = .ok (.aload_n 0, 1) := by decide +kernel
theorem d_102_420 : decode (mB 102) 420 = .ok (.getfield 144, 3) := by decide +kernel
theorem d_102_423 : decode (mB 102) 423 = .ok (.irem, 1) := by decide +kernel
theorem d_102_424 : decode (mB 102) 424 = .ok (.iastore, 1) := by decide +kernel
theorem d_102_425 : decode (mB 102) 425 = .ok (.aload_n 0, 1) := by decide +kernel
theorem d_102_426 : decode (mB 102) 426 = .ok (.getfield 17, 3) := by decide +kernel
theorem d_102_429 : decode (mB 102) 429 = .ok (.bipush 8, 2) := by decide +kernel
theorem d_102_431 : decode (mB 102) 431 = .ok (.iload 5, 2) := by decide +kernel
theorem d_102_433 : decode (mB 102) 433 = .ok (.aload_n 0, 1) := by decide +kernel
theorem d_102_434 : decode (mB 102) 434 = .ok (.getfield 144, 3) := by decide +kernel
theorem d_102_437 : decode (mB 102) 437 = .ok (.irem, 1) := by decide +kernel
theorem d_102_438 : decode (mB 102) 438 = .ok (.imul, 1) := by decide +kernel
theorem d_102_439 : decode (mB 102) 439 = .ok (.iload 5, 2) := by decide +kernel
theorem d_102_441 : decode (mB 102) 441 = .ok (.iadd, 1) := by decide +kernel
theorem d_102_442 : decode (mB 102) 442 = .ok (.iconst 1, 1) := by decide +kernel
theorem d_102_443 : decode (mB 102) 443 = .ok (.bastore, 1) := by decide +kernel
theorem d_102_444 : decode (mB 102) 444 = .ok (.iinc 5 1, 3) := by decide +kernel
theorem d_102_447 : decode (mB 102) 447 = .ok (.goto (-43), 3) := by decide +kernel
theorem d_102_450 : decode (mB 102) 450 = .ok (.iconst 0, 1) := by decide +kernel
theorem d_102_451 : decode (mB 102) 451 = .ok (.istore 5, 2) := by decide +kernel
theorem d_102_453 : decode (mB 102) 453 = .ok (.iload 5, 2) := by decide +kernel
theorem d_102_455 : decode (mB 102) 455 = .ok (.bipush 8, 2) := by decide +kernel
theorem d_102_457 : decode (mB 102) 457 = .ok (.if_icmp .ge 25, 3) := by decide +kernel
theorem d_102_460 : decode (mB 102) 460 = .ok (.aload_n 0, 1) := by decide +kernel
theorem d_102_461 : decode (mB 102) 461 = .ok (.getfield 26, 3) := by decide +kernel
theorem d_102_464 : decode (mB 102) 464 = .ok (.iload 5, 2) := by decide +kernel
theorem d_102_466 : decode (mB 102) 466 = .ok (.iconst (-1), 1) := by decide +kernel
theorem d_102_467 : decode (mB 102) 467 = .ok (.iastore, 1) := by decide +kernel
theorem d_102_468 : decode (mB 102) 468 = .ok (.aload_n 0, 1) := by decide +kernel
theorem d_102_469 : decode (mB 102) 469 = .ok (.getfield 32, 3) := by decide +kernel
theorem d_102_472 : decode (mB 102) 472 = .ok (.iload 5, 2) := by decide +kernel
theorem d_102_474 : decode (mB 102) 474 = .ok (.iconst (-1), 1) := by decide +kernel
theorem d_102_475 : decode (mB 102) 475 = .ok (.iastore, 1) := by decide +kernel
theorem d_102_476 : decode (mB 102) 476 = .ok (.iinc 5 1, 3) := by decide +kernel
theorem d_102_479 : decode (mB 102) 479 = .ok (.goto (-26), 3) := by decide +kernel
theorem d_102_482 : decode (mB 102) 482 = .ok (.iconst 0, 1) := by decide +kernel
theorem d_102_483 : decode (mB 102) 483 = .ok (.istore 5, 2) := by decide +kernel
theorem d_102_485 : decode (mB 102) 485 = .ok (.iload 5, 2) := by decide +kernel
theorem d_102_487 : decode (mB 102) 487 = .ok (.sipush 6000, 3) := by decide +kernel
theorem d_102_490 : decode (mB 102) 490 = .ok (.if_icmp .ge 18, 3) := by decide +kernel
theorem d_102_493 : decode (mB 102) 493 = .ok (.aload_n 0, 1) := by decide +kernel
theorem d_102_494 : decode (mB 102) 494 = .ok (.getfield 38, 3) := by decide +kernel
theorem d_102_497 : decode (mB 102) 497 = .ok (.iload 5, 2) := by decide +kernel
theorem d_102_499 : decode (mB 102) 499 = .ok (.bipush 99, 2) := by decide +kernel
theorem d_102_501 : decode (mB 102) 501 = .ok (.iastore, 1) := by decide +kernel
theorem d_102_502 : decode (mB 102) 502 = .ok (.iinc 5 1, 3) := by decide +kernel
theorem d_102_505 : decode (mB 102) 505 = .ok (.goto (-20), 3) := by decide +kernel
theorem d_102_508 : decode (mB 102) 508 = .ok (.iconst 0, 1) := by decide +kernel
theorem d_102_509 : decode (mB 102) 509 = .ok (.istore 5, 2) := by decide +kernel
theorem d_102_511 : decode (mB 102) 511 = .ok (.iload 5, 2) := by decide +kernel
theorem d_102_513 : decode (mB 102) 513 = .ok (.bipush 40, 2) := by decide +kernel
theorem d_102_515 : decode (mB 102) 515 = .ok (.if_icmp .ge 17, 3) := by decide +kernel
theorem d_102_518 : decode (mB 102) 518 = .ok (.aload_n 0, 1) := by decide +kernel
theorem d_102_519 : decode (mB 102) 519 = .ok (.getfield 110, 3) := by decide +kernel
theorem d_102_522 : decode (mB 102) 522 = .ok (.iload 5, 2) := by decide +kernel
theorem d_102_524 : decode (mB 102) 524 = .ok (.iconst (-1), 1) := by decide +kernel
theorem d_102_525 : decode (mB 102) 525 = .ok (.iastore, 1) := by decide +kernel
theorem d_102_526 : decode (mB 102) 526 = .ok (.iinc 5 1, 3) := by decide +kernel
theorem d_102_529 : decode (mB 102) 529 = .ok (.goto (-18), 3) := by decide +kernel
theorem d_102_532 : decode (mB 102) 532 = .ok (.return_, 1) := by decide +kernel
theorem d_103_0 : decode (mB 103) 0 = .ok (.aload_n 0, 1) := by decide +kernel
theorem d_103_1 : decode (mB 103) 1 = .ok (.getfield 157, 3) := by decide +kernel
theorem d_103_4 : decode (mB 103) 4 = .ok (.ireturn, 1) := by decide +kernel
theorem d_104_0 : decode (mB 104) 0 = .ok (.iload_n 1, 1) := by decide +kernel
theorem d_104_1 : decode (mB 104) 1 = .ok (.iconst 0, 1) := by decide +kernel
theorem d_104_2 : decode (mB 104) 2 = .ok (.aload_n 0, 1) := by decide +kernel
theorem d_104_3 : decode (mB 104) 3 = .ok (.getfield 144, 3) := by decide +kernel
theorem d_104_6 : decode (mB 104) 6 = .ok (.iconst 1, 1) := by decide +kernel
theorem d_104_7 : decode (mB 104) 7 = .ok (.isub, 1) := by decide +kernel
theorem d_104_8 : decode (mB 104) 8 = .ok (.invokestatic 160, 3) := by decide +kernel
theorem d_104_11 : decode (mB 104) 11 = .ok (.ireturn, 1) := by decide +kernel
theorem d_105_0 : decode (mB 105) 0 = .ok (.aload_n 0, 1) := by decide +kernel
theorem d_105_1 : decode (mB 105) 1 = .ok (.getfield 9, 3) := by decide +kernel
theorem d_105_4 : decode (mB 105) 4 = .ok (.iload_n 1, 1) := by decide +kernel
theorem d_105_5 : decode (mB 105) 5 = .ok (.iaload, 1) := by decide +kernel
theorem d_105_6 : decode (mB 105) 6 = .ok (.ifCond .ne 7, 3) := by decide +kernel
theorem d_105_9 : decode (mB 105) 9 = .ok (.iconst 1, 1) := by decide +kernel
theorem d_105_10 : decode (mB 105) 10 = .ok (.goto 4, 3) := by decide +kernel
theorem d_105_13 : decode (mB 105) 13 = .ok (.iconst 0, 1) := by decide +kernel
theorem d_105_14 : decode (mB 105) 14 = .ok (.ireturn, 1) := by decide +kernel
theorem d_106_0 : decode (mB 106) 0 = .ok (.iconst 0, 1) := by decide +kernel
theorem d_106_1 : decode (mB 106) 1 = .ok (.istore_n 2, 1) := by decide +kernel
theorem d_106_2 : decode (mB 106) 2 = .ok (.iconst 0, 1) := by decide +kernel
theorem d_106_3 : decode (mB 106) 3 = .ok (.istore_n 3, 1) := by decide +kernel
theorem d_106_4 : decode (mB 106) 4 = .ok (.iload_n 3, 1) := by decide +kernel
theorem d_106_5 : decode (mB 106) 5 = .ok (.aload_n 0, 1) := by decide +kernel
theorem d_106_6 : decode (mB 106) 6 = .ok (.getfield 144, 3) := by decide +kernel
theorem d_106_9 : decode (mB 106) 9 = .ok (.if_icmp .ge 30, 3) := by decide +kernel
theorem d_106_12 : decode (mB 106) 12 = .ok (.iload_n 2, 1) := by decide +kernel
theorem d_106_13 : decode (mB 106) 13 = .ok (.iload_n 3, 1) := by decide +kernel
theorem d_106_14 : decode (mB 106) 14 = .ok (.iload_n 1, 1) := by decide +kernel
theorem d_106_15 : decode (mB 106) 15 = .ok (.if_icmp .eq 15, 3) := by decide +kernel
theorem d_106_18 : decode (mB 106) 18 = .ok (.aload_n 0, 1) := by decide +kernel
theorem d_106_19 : decode (mB 106) 19 = .ok (.iload_n 3, 1) := by decide +kernel
theorem d_106_20 : decode (mB 106) 20 = .ok (.invokevirtual 164, 3) := by decide +kernel
theorem d_106_23 : decode (mB 106) 23 = .ok (.ifCond .eq 7, 3) := by decide +kernel
theorem d_106_26 : decode (mB 106) 26 = .ok (.iconst 1, 1) := by decide +kernel
theorem d_106_27 : decode (mB 106) 27 = .ok (.goto 4, 3) := by decide +kernel
theorem d_106_30 : decode (mB 106) 30 = .ok (.iconst 0, 1) := by decide +kernel
theorem d_106_31 : decode (mB 106) 31 = .ok (.iadd, 1) := by decide +kernel
theorem d_106_32 : decode (mB 106) 32 = .ok (.istore_n 2, 1) := by decide +kernel
theorem d_106_33 : decode (mB 106) 33 = .ok (.iinc 3 1, 3) := by decide +kernel
theorem d_106_36 : decode (mB 106) 36 = .ok (.goto (-32), 3) := by decide +kernel
theorem d_106_39 : decode (mB 106) 39 = .ok (.iload_n 2, 1) := by decide +kernel
theorem d_106_40 : decode (mB 106) 40 = .ok (.ireturn, 1) := by decide +kernel
theorem d_107_0 : decode (mB 107) 0 = .ok (.iconst 0, 1) := by decide +kernel
theorem d_107_1 : decode (mB 107) 1 = .ok (.istore_n 2, 1) := by decide +kernel
theorem d_107_2 : decode (mB 107) 2 = .ok (.iconst 0, 1) := by decide +kernel
theorem d_107_3 : decode (mB 107) 3 = .ok (.istore_n 3, 1) := by decide +kernel
theorem d_107_4 : decode (mB 107) 4 = .ok (.iload_n 3, 1) := by decide +kernel
theorem d_107_5 : decode (mB 107) 5 = .ok (.bipush 8, 2) := by decide +kernel
theorem d_107_7 : decode (mB 107) 7 = .ok (.if_icmp .ge 27, 3) := by decide +kernel
theorem d_107_10 : decode (mB 107) 10 = .ok (.iload_n 2, 1) := by decide +kernel
theorem d_107_11 : decode (mB 107) 11 = .ok (.aload_n 0, 1) := by decide +kernel
theorem d_107_12 : decode (mB 107) 12 = .ok (.getfield 35, 3) := by decide +kernel
theorem d_107_15 : decode (mB 107) 15 = .ok (.iload_n 3, 1) := by decide +kernel
theorem d_107_16 : decode (mB 107) 16 = .ok (.iaload, 1) := by decide +kernel
theorem d_107_17 : decode (mB 107) 17 = .ok (.iload_n 1, 1) := by decide +kernel
theorem d_107_18 : decode (mB 107) 18 = .ok (.if_icmp .ne 7, 3) := by decide +kernel
theorem d_107_21 : decode (mB 107) 21 = .ok (.iconst 1, 1) := by decide +kernel
theorem d_107_22 : decode (mB 107) 22 = .ok (.goto 4, 3) := by decide +kernel
theorem d_107_25 : decode (mB 107) 25 = .ok (.iconst 0, 1) := by decide +kernel
theorem d_107_26 : decode (mB 107) 26 = .ok (.iadd, 1) := by decide +kernel
theorem d_107_27 : decode (mB 107) 27 = .ok (.istore_n 2, 1) := by decide +kernel
theorem d_107_28 : decode (mB 107) 28 = .ok (.iinc 3 1, 3) := by decide +kernel
theorem d_107_31 : decode (mB 107) 31 = .ok (.goto (-27), 3) := by decide +kernel
theorem d_107_34 : decode (mB 107) 34 = .ok (.iload_n 2, 1) := by decide +kernel
theorem d_107_35 : decode (mB 107) 35 = .ok (.ireturn, 1) := by decide +kernel
theorem d_108_0 : decode (mB 108) 0 = .ok (.iload_n 0, 1) := by decide +kernel
theorem d_108_1 : decode (mB 108) 1 = .ok (.bipush 16, 2) := by decide +kernel
theorem d_108_3 : decode (mB 108) 3 = .ok (.imul, 1) := by decide +kernel
theorem d_108_4 : decode (mB 108) 4 = .ok (.iload_n 1, 1) := by decide +kernel
theorem d_108_5 : decode (mB 108) 5 = .ok (.iadd, 1) := by decide +kernel
theorem d_108_6 : decode (mB 108) 6 = .ok (.iconst 2, 1) := by decide +kernel
theorem d_108_7 : decode (mB 108) 7 = .ok (.imul, 1) := by decide +kernel
theorem d_108_8 : decode (mB 108) 8 = .ok (.iload_n 2, 1) := by decide +kernel
theorem d_108_9 : decode (mB 108) 9 = .ok (.iadd, 1) := by decide +kernel
theorem d_108_10 : decode (mB 108) 10 = .ok (.bipush 9, 2) := by decide +kernel
theorem d_108_12 : decode (mB 108) 12 = .ok (.imul, 1) := by decide +kernel
theorem d_108_13 : decode (mB 108) 13 = .ok (.iload_n 3, 1) := by decide +kernel
theorem d_108_14 : decode (mB 108) 14 = .ok (.iadd, 1) := by decide +kernel
theorem d_108_15 : decode (mB 108) 15 = .ok (.ireturn, 1) := by decide +kernel
theorem d_109_0 : decode (mB 109) 0 = .ok (.iload_n 0, 1) := by decide +kernel
theorem d_109_1 : decode (mB 109) 1 = .ok (.ifCond .ne 7, 3) := by decide +kernel
theorem d_109_4 : decode (mB 109) 4 = .ok (.iconst 0, 1) := by decide +kernel
theorem d_109_5 : decode (mB 109) 5 = .ok (.goto 13, 3) := by decide +kernel
theorem d_109_8 : decode (mB 109) 8 = .ok (.iload_n 0, 1) := by decide +kernel
theorem d_109_9 : decode (mB 109) 9 = .ok (.iconst 3, 1) := by decide +kernel
theorem d_109_10 : decode (mB 109) 10 = .ok (.if_icmp .ne 7, 3) := by decide +kernel
theorem d_109_13 : decode (mB 109) 13 = .ok (.iconst 2, 1) := by decide +kernel
theorem d_109_14 : decode (mB 109) 14 = .ok (.goto 4, 3) := by decide +kernel
theorem d_109_17 : decode (mB 109) 17 = .ok (.iconst 1, 1) := by decide +kernel
theorem d_109_18 : decode (mB 109) 18 = .ok (.ireturn, 1) := by decide +kernel
theorem d_110_0 : decode (mB 110) 0 = .ok (.aload_n 0, 1) := by decide +kernel
theorem d_110_1 : decode (mB 110) 1 = .ok (.getfield 51, 3) := by decide +kernel
theorem d_110_4 : decode (mB 110) 4 = .ok (.iload_n 1, 1) := by decide +kernel
theorem d_110_5 : decode (mB 110) 5 = .ok (.iload_n 2, 1) := by decide +kernel
theorem d_110_6 : decode (mB 110) 6 = .ok (.iconst 0, 1) := by decide +kernel
theorem d_110_7 : decode (mB 110) 7 = .ok (.iconst 0, 1) := by decide +kernel
theorem d_110_8 : decode (mB 110) 8 = .ok (.invokestatic 168, 3) := by decide +kernel
theorem d_110_11 : decode (mB 110) 11 = .ok (.iaload, 1) := by decide +kernel
theorem d_110_12 : decode (mB 110) 12 = .ok (.invokestatic 172, 3) := by decide +kernel
theorem d_110_15 : decode (mB 110) 15 = .ok (.aload_n 0, 1) := by decide +kernel
theorem d_110_16 : decode (mB 110) 16 = .ok (.getfield 51, 3) := by decide +kernel
theorem d_110_19 : decode (mB 110) 19 = .ok (.iload_n 1, 1) := by decide +kernel
theorem d_110_20 : decode (mB 110) 20 = .ok (.iload_n 2, 1) := by decide +kernel
theorem d_110_21 : decode (mB 110) 21 = .ok (.iconst 1, 1) := by decide +kernel
theorem d_110_22 : decode (mB 110) 22 = .ok (.iconst 0, 1) := by decide +kernel
theorem d_110_23 : decode (mB 110) 23 = .ok (.invokestatic 168, 3) := by decide +kernel
theorem d_110_26 : decode (mB 110) 26 = .ok (.iaload, 1) := by decide +kernel
theorem d_110_27 : decode (mB 110) 27 = .ok (.invokestatic 172, 3) := by decide +kernel
theorem d_110_30 : decode (mB 110) 30 = .ok (.iadd, 1) := by decide +kernel
theorem d_110_31 : decode (mB 110) 31 = .ok (.ireturn, 1) := by decide +kernel
theorem d_111_0 : decode (mB 111) 0 = .ok (.iconst 0, 1) := by decide +kernel
theorem d_111_1 : decode (mB 111) 1 = .ok (.istore_n 2, 1) := by decide +kernel
theorem d_111_2 : decode (mB 111) 2 = .ok (.iconst 0, 1) := by decide +kernel
theorem d_111_3 : decode (mB 111) 3 = .ok (.istore_n 3, 1) := by decide +kernel
theorem d_111_4 : decode (mB 111) 4 = .ok (.iload_n 3, 1) := by decide +kernel
theorem d_111_5 : decode (mB 111) 5 = .ok (.aload_n 0, 1) := by decide +kernel
theorem d_111_6 : decode (mB 111) 6 = .ok (.getfield 47, 3) := by decide +kernel
theorem d_111_9 : decode (mB 111) 9 = .ok (.iload_n 1, 1) := by decide +kernel
theorem d_111_10 : decode (mB 111) 10 = .ok (.iaload, 1) := by decide +kernel
theorem d_111_11 : decode (mB 111) 11 = .ok (.if_icmp .ge 18, 3) := by decide +kernel
theorem d_111_14 : decode (mB 111) 14 = .ok (.iload_n 2, 1) := by decide +kernel
theorem d_111_15 : decode (mB 111) 15 = .ok (.aload_n 0, 1) := by decide +kernel
theorem d_111_16 : decode (mB 111) 16 = .ok (.iload_n 1, 1) := by decide +kernel
theorem d_111_17 : decode (mB 111) 17 = .ok (.iload_n 3, 1) := by decide +kernel
theorem d_111_18 : decode (mB 111) 18 = .ok (.invokevirtual 176, 3) := by decide +kernel
theorem d_111_21 : decode (mB 111) 21 = .ok (.iadd, 1) := by decide +kernel
theorem d_111_22 : decode (mB 111) 22 = .ok (.istore_n 2, 1) := by decide +kernel
theorem d_111_23 : decode (mB 111) 23 = .ok (.iinc 3 1, 3) := by decide +kernel
theorem d_111_26 : decode (mB 111) 26 = .ok (.goto (-22), 3) := by decide +kernel
theorem d_111_29 : decode (mB 111) 29 = .ok (.iload_n 2, 1) := by decide +kernel
theorem d_111_30 : decode (mB 111) 30 = .ok (.ireturn, 1) := by decide +kernel
theorem d_112_0 : decode (mB 112) 0 = .ok (.iconst 0, 1) := by decide +kernel
theorem d_112_1 : decode (mB 112) 1 = .ok (.istore_n 2, 1) := by decide +kernel
theorem d_112_2 : decode (mB 112) 2 = .ok (.iconst 0, 1) := by decide +kernel
theorem d_112_3 : decode (mB 112) 3 = .ok (.istore_n 3, 1) := by decide +kernel
theorem d_112_4 : decode (mB 112) 4 = .ok (.iload_n 3, 1) := by decide +kernel
theorem d_112_5 : decode (mB 112) 5 = .ok (.aload_n 0, 1) := by decide +kernel
theorem d_112_6 : decode (mB 112) 6 = .ok (.getfield 180, 3) := by decide +kernel
theorem d_112_9 : decode (mB 112) 9 = .ok (.if_icmp .ge 27, 3) := by decide +kernel
theorem d_112_12 : decode (mB 112) 12 = .ok (.iload_n 2, 1) := by decide +kernel
theorem d_112_13 : decode (mB 112) 13 = .ok (.aload_n 0, 1) := by decide +kernel
theorem d_112_14 : decode (mB 112) 14 = .ok (.getfield 38, 3) := by decide +kernel
theorem d_112_17 : decode (mB 112) 17 = .ok (.iload_n 3, 1) := by decide +kernel
theorem d_112_18 : decode (mB 112) 18 = .ok (.iaload, 1) := by decide +kernel
theorem d_112_19 : decode (mB 112) 19 = .ok (.iload_n 1, 1) := by decide +kernel
theorem d_112_20 : decode (mB 112) 20 = .ok (.if_icmp .ne 7, 3) := by decide +kernel
theorem d_112_23 : decode (mB 112) 23 = .ok (.iconst 1, 1) := by decide +kernel
theorem d_112_24 : decode (mB 112) 24 = .ok (.goto 4, 3) := by decide +kernel
theorem d_112_27 : decode (mB 112) 27 = .ok (.iconst 0, 1) := by decide +kernel
theorem d_112_28 : decode (mB 112) 28 = .ok (.iadd, 1) := by decide +kernel
theorem d_112_29 : decode (mB 112) 29 = .ok (.istore_n 2, 1) := by decide +kernel
theorem d_112_30 : decode (mB 112) 30 = .ok (.iinc 3 1, 3) := by decide +kernel
theorem d_112_33 : decode (mB 112) 33 = .ok (.goto (-29), 3) := by decide +kernel
theorem d_112_36 : decode (mB 112) 36 = .ok (.iload_n 2, 1) := by decide +kernel
theorem d_112_37 : decode (mB 112) 37 = .ok (.ireturn, 1) := by decide +kernel
theorem d_113_0 : decode (mB 113) 0 = .ok (.iconst (-1), 1) := by decide +kernel
theorem d_113_1 : decode (mB 113) 1 = .ok (.istore_n 3, 1) := by decide +kernel
theorem d_113_2 : decode (mB 113) 2 = .ok (.iconst 0, 1) := by decide +kernel
theorem d_113_3 : decode (mB 113) 3 = .ok (.istore 4, 2) := by decide +kernel
theorem d_113_5 : decode (mB 113) 5 = .ok (.iload 4, 2) := by decide +kernel
theorem d_113_7 : decode (mB 113) 7 = .ok (.aload_n 0, 1) := by decide +kernel
theorem d_113_8 : decode (mB 113) 8 = .ok (.getfield 180, 3) := by decide +kernel
theorem d_113_11 : decode (mB 113) 11 = .ok (.if_icmp .ge 55, 3) := by decide +kernel
theorem d_113_14 : decode (mB 113) 14 = .ok (.aload_n 0, 1) := by decide +kernel
theorem d_113_15 : decode (mB 113) 15 = .ok (.getfield 38, 3) := by decide +kernel
theorem d_113_18 : decode (mB 113) 18 = .ok (.iload 4, 2) := by decide +kernel
theorem d_113_20 : decode (mB 113) 20 = .ok (.iaload, 1) := by decide +kernel
theorem d_113_21 : decode (mB 113) 21 = .ok (.iload_n 1, 1) := by decide +kernel
theorem d_113_22 : decode (mB 113) 22 = .ok (.if_icmp .ne 38, 3) := by decide +kernel
theorem d_113_25 : decode (mB 113) 25 = .ok (.aload_n 0, 1) := by decide +kernel
theorem d_113_26 : decode (mB 113) 26 = .ok (.getfield 41, 3) := by decide +kernel
theorem d_113_29 : decode (mB 113) 29 = .ok (.iload 4, 2) := by decide +kernel
theorem d_113_31 : decode (mB 113) 31 = .ok (.iaload, 1) := by decide +kernel
theorem d_113_32 : decode (mB 113) 32 = .ok (.iload_n 2, 1) := by decide +kernel
theorem d_113_33 : decode (mB 113) 33 = .ok (.if_icmp .le 27, 3) := by decide +kernel
theorem d_113_36 : decode (mB 113) 36 = .ok (.iload_n 3, 1) := by decide +kernel
theorem d_113_37 : decode (mB 113) 37 = .ok (.iconst (-1), 1) := by decide +kernel
theorem d_113_38 : decode (mB 113) 38 = .ok (.if_icmp .eq 19, 3) := by decide +kernel
theorem d_113_41 : decode (mB 113) 41 = .ok (.aload_n 0, 1) := by decide +kernel
theorem d_113_42 : decode (mB 113) 42 = .ok (.getfield 41, 3) := by decide +kernel
theorem d_113_45 : decode (mB 113) 45 = .ok (.iload 4, 2) := by decide +kernel
theorem d_113_47 : decode (mB 113) 47 = .ok (.iaload, 1) := by decide +kernel
theorem d_113_48 : decode (mB 113) 48 = .ok (.aload_n 0, 1) := by decide +kernel
theorem d_113_49 : decode (mB 113) 49 = .ok (.getfield 41, 3) := by decide +kernel
theorem d_113_52 : decode (mB 113) 52 = .ok (.iload_n 3, 1) := by decide +kernel
theorem d_113_53 : decode (mB 113) 53 = .ok (.iaload, 1) := by decide +kernel
theorem d_113_54 : decode (mB 113) 54 = .ok (.if_icmp .ge 6, 3) := by decide +kernel
theorem d_113_57 : decode (mB 113) 57 = .ok (.iload 4, 2) := by decide +kernel
theorem d_113_59 : decode (mB 113) 59 = .ok (.istore_n 3, 1) := by decide +kernel
theorem d_113_60 : decode (mB 113) 60 = .ok (.iinc 4 1, 3) := by decide +kernel
theorem d_113_63 : decode (mB 113) 63 = .ok (.goto (-58), 3) := by decide +kernel
theorem d_113_66 : decode (mB 113) 66 = .ok (.iload_n 3, 1) := by decide +kernel
theorem d_113_67 : decode (mB 113) 67 = .ok (.ireturn, 1) := by decide +kernel
theorem d_114_0 : decode (mB 114) 0 = .ok (.iconst 0, 1) := by decide +kernel
theorem d_114_1 : decode (mB 114) 1 = .ok (.istore_n 3, 1) := by decide +kernel
theorem d_114_2 : decode (mB 114) 2 = .ok (.iload_n 3, 1) := by decide +kernel
theorem d_114_3 : decode (mB 114) 3 = .ok (.aload_n 0, 1) := by decide +kernel
theorem d_114_4 : decode (mB 114) 4 = .ok (.getfield 180, 3) := by decide +kernel
theorem d_114_7 : decode (mB 114) 7 = .ok (.if_icmp .ge 31, 3) := by decide +kernel
theorem d_114_10 : decode (mB 114) 10 = .ok (.aload_n 0, 1) := by decide +kernel
theorem d_114_11 : decode (mB 114) 11 = .ok (.getfield 38, 3) := by decide +kernel
theorem d_114_14 : decode (mB 114) 14 = .ok (.iload_n 3, 1) := by decide +kernel
theorem d_114_15 : decode (mB 114) 15 = .ok (.iaload, 1) := by decide +kernel
theorem d_114_16 : decode (mB 114) 16 = .ok (.iload_n 1, 1) := by decide +kernel
theorem d_114_17 : decode (mB 114) 17 = .ok (.if_icmp .ne 15, 3) := by decide +kernel
theorem d_114_20 : decode (mB 114) 20 = .ok (.aload_n 0, 1) := by decide +kernel
theorem d_114_21 : decode (mB 114) 21 = .ok (.getfield 41, 3) := by decide +kernel
theorem d_114_24 : decode (mB 114) 24 = .ok (.iload_n 3, 1) := by decide +kernel
theorem d_114_25 : decode (mB 114) 25 = .ok (.iaload, 1) := by decide +kernel
theorem d_114_26 : decode (mB 114) 26 = .ok (.iload_n 2, 1) := by decide +kernel
theorem d_114_27 : decode (mB 114) 27 = .ok (.if_icmp .ne 5, 3) := by decide +kernel
theorem d_114_30 : decode (mB 114) 30 = .ok (.iconst 1, 1) := by decide +kernel
theorem d_114_31 : decode (mB 114) 31 = .ok (.ireturn, 1) := by decide +kernel
theorem d_114_32 : decode (mB 114) 32 = .ok (.iinc 3 1, 3) := by decide +kernel
theorem d_114_35 : decode (mB 114) 35 = .ok (.goto (-33), 3) := by decide +kernel
theorem d_114_38 : decode (mB 114) 38 = .ok (.iconst 0, 1) := by decide +kernel
theorem d_114_39 : decode (mB 114) 39 = .ok (.ireturn, 1) := by decide +kernel
theorem d_115_0 : decode (mB 115) 0 = .ok (.iconst (-1), 1) := by decide +kernel
theorem d_115_1 : decode (mB 115) 1 = .ok (.istore_n 2, 1) := by decide +kernel
theorem d_115_2 : decode (mB 115) 2 = .ok (.iconst 0, 1) := by decide +kernel
theorem d_115_3 : decode (mB 115) 3 = .ok (.istore_n 3, 1) := by decide +kernel
theorem d_115_4 : decode (mB 115) 4 = .ok (.iload_n 3, 1) := by decide +kernel
theorem d_115_5 : decode (mB 115) 5 = .ok (.aload_n 0, 1) := by decide +kernel
theorem d_115_6 : decode (mB 115) 6 = .ok (.getfield 180, 3) := by decide +kernel
theorem d_115_9 : decode (mB 115) 9 = .ok (.if_icmp .ge 50, 3) := by decide +kernel
theorem d_115_12 : decode (mB 115) 12 = .ok (.aload_n 0, 1) := by decide +kernel
theorem d_115_13 : decode (mB 115) 13 = .ok (.getfield 38, 3) := by decide +kernel
theorem d_115_16 : decode (mB 115) 16 = .ok (.iload_n 3, 1) := by decide +kernel
theorem d_115_17 : decode (mB 115) 17 = .ok (.iaload, 1) := by decide +kernel
theorem d_115_18 : decode (mB 115) 18 = .ok (.iload_n 1, 1) := by decide +kernel
theorem d_115_19 : decode (mB 115) 19 = .ok (.if_icmp .ne 34, 3) := by decide +kernel
theorem d_115_22 : decode (mB 115) 22 = .ok (.aload_n 0, 1) := by decide +kernel
theorem d_115_23 : decode (mB 115) 23 = .ok (.getfield 44, 3) := by decide +kernel
theorem d_115_26 : decode (mB 115) 26 = .ok (.iload_n 3, 1) := by decide +kernel
theorem d_115_27 : decode (mB 115) 27 = .ok (.baload, 1) := by decide +kernel
theorem d_115_28 : decode (mB 115) 28 = .ok (.ifCond .eq 25, 3) := by decide +kernel
theorem d_115_31 : decode (mB 115) 31 = .ok (.iload_n 2, 1) := by decide +kernel
theorem d_115_32 : decode (mB 115) 32 = .ok (.iconst (-1), 1) := by decide +kernel
theorem d_115_33 : decode (mB 115) 33 = .ok (.if_icmp .eq 18, 3) := by decide +kernel
theorem d_115_36 : decode (mB 115) 36 = .ok (.aload_n 0, 1) := by decide +kernel
theorem d_115_37 : decode (mB 115) 37 = .ok (.getfield 41, 3) := by decide +kernel
theorem d_115_40 : decode (mB 115) 40 = .ok (.iload_n 3, 1) := by decide +kernel
theorem d_115_41 : decode (mB 115) 41 = .ok (.iaload, 1) := by decide +kernel
theorem d_115_42 : decode (mB 115) 42 = .ok (.aload_n 0, 1) := by decide +kernel
theorem d_115_43 : decode (mB 115) 43 = .ok (.getfield 41, 3) := by decide +kernel
theorem d_115_46 : decode (mB 115) 46 = .ok (.iload_n 2, 1) := by decide +kernel
theorem d_115_47 : decode (mB 115) 47 = .ok (.iaload, 1) := by decide +kernel
theorem d_115_48 : decode (mB 115) 48 = .ok (.if_icmp .le 5, 3) := by decide +kernel
theorem d_115_51 : decode (mB 115) 51 = .ok (.iload_n 3, 1) := by decide +kernel
theorem d_115_52 : decode (mB 115) 52 = .ok (.istore_n 2, 1) := by decide +kernel
theorem d_115_53 : decode (mB 115) 53 = .ok (.iinc 3 1, 3) := by decide +kernel
theorem d_115_56 : decode (mB 115) 56 = .ok (.goto (-52), 3) := by decide +kernel
theorem d_115_59 : decode (mB 115) 59 = .ok (.iload_n 2, 1) := by decide +kernel
theorem d_115_60 : decode (mB 115) 60 = .ok (.ireturn, 1) := by decide +kernel
theorem d_116_0 : decode (mB 116) 0 = .ok (.bipush 7, 2) := by decide +kernel
theorem d_116_2 : decode (mB 116) 2 = .ok (.iload_n 1, 1) := by decide +kernel
theorem d_116_3 : decode (mB 116) 3 = .ok (.imul, 1) := by decide +kernel
theorem d_116_4 : decode (mB 116) 4 = .ok (.iconst 3, 1) := by decide +kernel
theorem d_116_5 : decode (mB 116) 5 = .ok (.iload_n 2, 1) := by decide +kernel
theorem d_116_6 : decode (mB 116) 6 = .ok (.imul, 1) := by decide +kernel
theorem d_116_7 : decode (mB 116) 7 = .ok (.iadd, 1) := by decide +kernel
theorem d_116_8 : decode (mB 116) 8 = .ok (.aload_n 0, 1) := by decide +kernel
theorem d_116_9 : decode (mB 116) 9 = .ok (.getfield 144, 3) := by decide +kernel
theorem d_116_12 : decode (mB 116) 12 = .ok (.irem, 1) := by decide +kernel
theorem d_116_13 : decode (mB 116) 13 = .ok (.istore 4, 2) := by decide +kernel
theorem d_116_15 : decode (mB 116) 15 = .ok (.iload_n 3, 1) := by decide +kernel
theorem d_116_16 : decode (mB 116) 16 = .ok (.istore 5, 2) := by decide +kernel
theorem d_116_18 : decode (mB 116) 18 = .ok (.iload 4, 2) := by decide +kernel
theorem d_116_20 : decode (mB 116) 20 = .ok (.iload_n 2, 1) := by decide +kernel
theorem d_116_21 : decode (mB 116) 21 = .ok (.if_icmp .eq 14, 3) := by decide +kernel
theorem d_116_24 : decode (mB 116) 24 = .ok (.iload 5, 2) := by decide +kernel
theorem d_116_26 : decode (mB 116) 26 = .ok (.ifCond .ne 6, 3) := by decide +kernel
theorem d_116_29 : decode (mB 116) 29 = .ok (.iload 4, 2) := by decide +kernel
theorem d_116_31 : decode (mB 116) 31 = .ok (.ireturn, 1) := by decide +kernel
theorem d_116_32 : decode (mB 116) 32 = .ok (.iinc 5 (-1), 3) := by decide +kernel
theorem d_116_35 : decode (mB 116) 35 = .ok (.iload 4, 2) := by decide +kernel
theorem d_116_37 : decode (mB 116) 37 = .ok (.iconst 1, 1) := by decide +kernel
theorem d_116_38 : decode (mB 116) 38 = .ok (.iadd, 1) := by decide +kernel
theorem d_116_39 : decode (mB 116) 39 = .ok (.aload_n 0, 1) := by decide +kernel
theorem d_116_40 : decode (mB 116) 40 = .ok (.getfield 144, 3) := by decide +kernel
theorem d_116_43 : decode (mB 116) 43 = .ok (.irem, 1) := by decide +kernel
theorem d_116_44 : decode (mB 116) 44 = .ok (.istore 4, 2) := by decide +kernel
theorem d_116_46 : decode (mB 116) 46 = .ok (.goto (-28), 3) := by decide +kernel
theorem d_117_0 : decode (mB 117) 0 = .ok (.iconst 0, 1) := by decide +kernel
theorem d_117_1 : decode (mB 117) 1 = .ok (.istore_n 3, 1) := by decide +kernel
theorem d_117_2 : decode (mB 117) 2 = .ok (.iload_n 3, 1) := by decide +kernel
theorem d_117_3 : decode (mB 117) 3 = .ok (.aload_n 0, 1) := by decide +kernel
theorem d_117_4 : decode (mB 117) 4 = .ok (.getfield 54, 3) := by decide +kernel
theorem d_117_7 : decode (mB 117) 7 = .ok (.iload_n 1, 1) := by decide +kernel
theorem d_117_8 : decode (mB 117) 8 = .ok (.iaload, 1) := by decide +kernel
theorem d_117_9 : decode (mB 117) 9 = .ok (.if_icmp .ge 26, 3) := by decide +kernel
theorem d_117_12 : decode (mB 117) 12 = .ok (.aload_n 0, 1) := by decide +kernel
theorem d_117_13 : decode (mB 117) 13 = .ok (.getfield 58, 3) := by decide +kernel
theorem d_117_16 : decode (mB 117) 16 = .ok (.bipush 8, 2) := by decide +kernel
theorem d_117_18 : decode (mB 117) 18 = .ok (.iload_n 1, 1) := by decide +kernel
theorem d_117_19 : decode (mB 117) 19 = .ok (.imul, 1) := by decide +kernel
theorem d_117_20 : decode (mB 117) 20 = .ok (.iload_n 3, 1) := by decide +kernel
theorem d_117_21 : decode (mB 117) 21 = .ok (.iadd, 1) := by decide +kernel
theorem d_117_22 : decode (mB 117) 22 = .ok (.iaload, 1) := by decide +kernel
theorem d_117_23 : decode (mB 117) 23 = .ok (.iload_n 2, 1) := by decide +kernel
theorem d_117_24 : decode (mB 117) 24 = .ok (.if_icmp .ne 5, 3) := by decide +kernel
theorem d_117_27 : decode (mB 117) 27 = .ok (.iconst 1, 1) := by decide +kernel
theorem d_117_28 : decode (mB 117) 28 = .ok (.ireturn, 1) := by decide +kernel
theorem d_117_29 : decode (mB 117) 29 = .ok (.iinc 3 1, 3) := by decide +kernel
theorem d_117_32 : decode (mB 117) 32 = .ok (.goto (-30), 3) := by decide +kernel
theorem d_117_35 : decode (mB 117) 35 = .ok (.iconst 0, 1) := by decide +kernel
theorem d_117_36 : decode (mB 117) 36 = .ok (.ireturn, 1) := by decide +kernel
theorem d_118_0 : decode (mB 118) 0 = .ok (.aload_n 0, 1) := by decide +kernel
theorem d_118_1 : decode (mB 118) 1 = .ok (.getfield 58, 3) := by decide +kernel
theorem d_118_4 : decode (mB 118) 4 = .ok (.bipush 8, 2) := by decide +kernel
theorem d_118_6 : decode (mB 118) 6 = .ok (.iload_n 1, 1) := by decide +kernel
theorem d_118_7 : decode (mB 118) 7 = .ok (.imul, 1) := by decide +kernel
theorem d_118_8 : decode (mB 118) 8 = .ok (.aload_n 0, 1) := by decide +kernel
theorem d_118_9 : decode (mB 118) 9 = .ok (.getfield 54, 3) := by decide +kernel
theorem d_118_12 : decode (mB 118) 12 = .ok (.iload_n 1, 1) := by decide +kernel
theorem d_118_13 : decode (mB 118) 13 = .ok (.iaload, 1) := by decide +kernel
theorem d_118_14 : decode (mB 118) 14 = .ok (.iadd, 1) := by decide +kernel
theorem d_118_15 : decode (mB 118) 15 = .ok (.iload_n 2, 1) := by decide +kernel
theorem d_118_16 : decode (mB 118) 16 = .ok (.iastore, 1) := by decide +kernel
theorem d_118_17 : decode (mB 118) 17 = .ok (.aload_n 0, 1) := by decide +kernel
theorem d_118_18 : decode (mB 118) 18 = .ok (.getfield 61, 3) := by decide +kernel
theorem d_118_21 : decode (mB 118) 21 = .ok (.bipush 8, 2) := by decide +kernel
theorem d_118_23 : decode (mB 118) 23 = .ok (.iload_n 1, 1) := by decide +kernel
theorem d_118_24 : decode (mB 118) 24 = .ok (.imul, 1) := by decide +kernel
theorem d_118_25 : decode (mB 118) 25 = .ok (.aload_n 0, 1) := by decide +kernel
theorem d_118_26 : decode (mB 118) 26 = .ok (.getfield 54, 3) := by decide +kernel
theorem d_118_29 : decode (mB 118) 29 = .ok (.iload_n 1, 1) := by decide +kernel
theorem d_118_30 : decode (mB 118) 30 = .ok (.iaload, 1) := by decide +kernel
theorem d_118_31 : decode (mB 118) 31 = .ok (.iadd, 1) := by decide +kernel
theorem d_118_32 : decode (mB 118) 32 = .ok (.aload_n 0, 1) := by decide +kernel
theorem d_118_33 : decode (mB 118) 33 = .ok (.getfield 47, 3) := by decide +kernel
theorem d_118_36 : decode (mB 118) 36 = .ok (.iload_n 1, 1) := by decide +kernel
theorem d_118_37 : decode (mB 118) 37 = .ok (.iaload, 1) := by decide +kernel
theorem d_118_38 : decode (mB 118) 38 = .ok (.iastore, 1) := by decide +kernel
theorem d_118_39 : decode (mB 118) 39 = .ok (.aload_n 0, 1) := by decide +kernel
theorem d_118_40 : decode (mB 118) 40 = .ok (.getfield 54, 3) := by decide +kernel
theorem d_118_43 : decode (mB 118) 43 = .ok (.iload_n 1, 1) := by decide +kernel
theorem d_118_44 : decode (mB 118) 44 = .ok (.dup2, 1) := by decide +kernel
theorem d_118_45 : decode (mB 118) 45 = .ok (.iaload, 1) := by decide +kernel
theorem d_118_46 : decode (mB 118) 46 = .ok (.iconst 1, 1) := by decide +kernel
theorem d_118_47 : decode (mB 118) 47 = .ok (.iadd, 1) := by decide +kernel
theorem d_118_48 : decode (mB 118) 48 = .ok (.iastore, 1) := by decide +kernel
theorem d_118_49 : decode (mB 118) 49 = .ok (.return_, 1) := by decide +kernel
theorem d_119_0 : decode (mB 119) 0 = .ok (.iconst 0, 1) := by decide +kernel
theorem d_119_1 : decode (mB 119) 1 = .ok (.istore_n 2, 1) := by decide +kernel
theorem d_119_2 : decode (mB 119) 2 = .ok (.iconst 0, 1) := by decide +kernel
theorem d_119_3 : decode (mB 119) 3 = .ok (.istore_n 3, 1) := by decide +kernel
theorem d_119_4 : decode (mB 119) 4 = .ok (.iload_n 3, 1) := by decide +kernel
theorem d_119_5 : decode (mB 119) 5 = .ok (.aload_n 0, 1) := by decide +kernel
theorem d_119_6 : decode (mB 119) 6 = .ok (.getfield 54, 3) := by decide +kernel
theorem d_119_9 : decode (mB 119) 9 = .ok (.iload_n 1, 1) := by decide +kernel
theorem d_119_10 : decode (mB 119) 10 = .ok (.iaload, 1) := by decide +kernel
theorem d_119_11 : decode (mB 119) 11 = .ok (.if_icmp .ge 35, 3) := by decide +kernel
theorem d_119_14 : decode (mB 119) 14 = .ok (.iload_n 2, 1) := by decide +kernel
theorem d_119_15 : decode (mB 119) 15 = .ok (.aload_n 0, 1) := by decide +kernel
theorem d_119_16 : decode (mB 119) 16 = .ok (.aload_n 0, 1) := by decide +kernel
theorem d_119_17 : decode (mB 119) 17 = .ok (.getfield 58, 3) := by decide +kernel
theorem d_119_20 : decode (mB 119) 20 = .ok (.bipush 8, 2) := by decide +kernel
theorem d_119_22 : decode (mB 119) 22 = .ok (.iload_n 1, 1) := by decide +kernel
theorem d_119_23 : decode (mB 119) 23 = .ok (.imul, 1) := by decide +kernel
theorem d_119_24 : decode (mB 119) 24 = .ok (.iload_n 3, 1) := by decide +kernel
theorem d_119_25 : decode (mB 119) 25 = .ok (.iadd, 1) := by decide +kernel
theorem d_119_26 : decode (mB 119) 26 = .ok (.iaload, 1) := by decide +kernel
theorem d_119_27 : decode (mB 119) 27 = .ok (.invokevirtual 164, 3) := by decide +kernel
theorem d_119_30 : decode (mB 119) 30 = .ok (.ifCond .eq 7, 3) := by decide +kernel
theorem d_119_33 : decode (mB 119) 33 = .ok (.iconst 1, 1) := by decide +kernel
theorem d_119_34 : decode (mB 119) 34 = .ok (.goto 4, 3) := by decide +kernel
theorem d_119_37 : decode (mB 119) 37 = .ok (.iconst 0, 1) := by decide +kernel
theorem d_119_38 : decode (mB 119) 38 = .ok (.iadd, 1) := by decide +kernel
theorem d_119_39 : decode (mB 119) 39 = .ok (.istore_n 2, 1) := by decide +kernel
theorem d_119_40 : decode (mB 119) 40 = .ok (.iinc 3 1, 3) := by decide +kernel
theorem d_119_43 : decode (mB 119) 43 = .ok (.goto (-39), 3) := by decide +kernel
theorem d_119_46 : decode (mB 119) 46 = .ok (.iload_n 2, 1) := by decide +kernel
theorem d_119_47 : decode (mB 119) 47 = .ok (.ireturn, 1) := by decide +kernel
theorem d_120_0 : decode (mB 120) 0 = .ok (.iconst 0, 1) := by decide +kernel
theorem d_120_1 : decode (mB 120) 1 = .ok (.istore_n 3, 1) := by decide +kernel
theorem d_120_2 : decode (mB 120) 2 = .ok (.iload_n 3, 1) := by decide +kernel
theorem d_120_3 : decode (mB 120) 3 = .ok (.aload_n 0, 1) := by decide +kernel
theorem d_120_4 : decode (mB 120) 4 = .ok (.getfield 180, 3) := by decide +kernel
theorem d_120_7 : decode (mB 120) 7 = .ok (.if_icmp .ge 20, 3) := by decide +kernel
theorem d_120_10 : decode (mB 120) 10 = .ok (.aload_n 0, 1) := by decide +kernel
theorem d_120_11 : decode (mB 120) 11 = .ok (.getfield 38, 3) := by decide +kernel
theorem d_120_14 : decode (mB 120) 14 = .ok (.iload_n 3, 1) := by decide +kernel
theorem d_120_15 : decode (mB 120) 15 = .ok (.iaload, 1) := by decide +kernel
theorem d_120_16 : decode (mB 120) 16 = .ok (.bipush 99, 2) := by decide +kernel
theorem d_120_18 : decode (mB 120) 18 = .ok (.if_icmp .eq 9, 3) := by decide +kernel
theorem d_120_21 : decode (mB 120) 21 = .ok (.iinc 3 1, 3) := by decide +kernel
theorem d_120_24 : decode (mB 120) 24 = .ok (.goto (-22), 3) := by decide +kernel
theorem d_120_27 : decode (mB 120) 27 = .ok (.iload_n 3, 1) := by decide +kernel
theorem d_120_28 : decode (mB 120) 28 = .ok (.aload_n 0, 1) := by decide +kernel
theorem d_120_29 : decode (mB 120) 29 = .ok (.getfield 180, 3) := by decide +kernel
theorem d_120_32 : decode (mB 120) 32 = .ok (.if_icmp .ne 13, 3) := by decide +kernel
theorem d_120_35 : decode (mB 120) 35 = .ok (.aload_n 0, 1) := by decide +kernel
theorem d_120_36 : decode (mB 120) 36 = .ok (.dup, 1) := by decide +kernel
theorem d_120_37 : decode (mB 120) 37 = .ok (.getfield 180, 3) := by decide +kernel
theorem d_120_40 : decode (mB 120) 40 = .ok (.iconst 1, 1) := by decide +kernel
theorem d_120_41 : decode (mB 120) 41 = .ok (.iadd, 1) := by decide +kernel
theorem d_120_42 : decode (mB 120) 42 = .ok (.putfield 180, 3) := by decide +kernel
theorem d_120_45 : decode (mB 120) 45 = .ok (.aload_n 0, 1) := by decide +kernel
theorem d_120_46 : decode (mB 120) 46 = .ok (.getfield 38, 3) := by decide +kernel
theorem d_120_49 : decode (mB 120) 49 = .ok (.iload_n 3, 1) := by decide +kernel
theorem d_120_50 : decode (mB 120) 50 = .ok (.iload_n 1, 1) := by decide +kernel
theorem d_120_51 : decode (mB 120) 51 = .ok (.iastore, 1) := by decide +kernel
theorem d_120_52 : decode (mB 120) 52 = .ok (.aload_n 0, 1) := by decide +kernel
theorem d_120_53 : decode (mB 120) 53 = .ok (.getfield 41, 3) := by decide +kernel
theorem d_120_56 : decode (mB 120) 56 = .ok (.iload_n 3, 1) := by decide +kernel
theorem d_120_57 : decode (mB 120) 57 = .ok (.aload_n 0, 1) := by decide +kernel
theorem d_120_58 : decode (mB 120) 58 = .ok (.getfield 183, 3) := by decide +kernel
theorem d_120_61 : decode (mB 120) 61 = .ok (.iastore, 1) := by decide +kernel
theorem d_120_62 : decode (mB 120) 62 = .ok (.aload_n 0, 1) := by decide +kernel
theorem d_120_63 : decode (mB 120) 63 = .ok (.getfield 44, 3) := by decide +kernel
theorem d_120_66 : decode (mB 120) 66 = .ok (.iload_n 3, 1) := by decide +kernel
theorem d_120_67 : decode (mB 120) 67 = .ok (.iload_n 2, 1) := by decide +kernel
theorem d_120_68 : decode (mB 120) 68 = .ok (.bastore, 1) := by decide +kernel
theorem d_120_69 : decode (mB 120) 69 = .ok (.aload_n 0, 1) := by decide +kernel
theorem d_120_70 : decode (mB 120) 70 = .ok (.getfield 47, 3) := by decide +kernel
theorem d_120_73 : decode (mB 120) 73 = .ok (.iload_n 3, 1) := by decide +kernel
theorem d_120_74 : decode (mB 120) 74 = .ok (.iconst 0, 1) := by decide +kernel
theorem d_120_75 : decode (mB 120) 75 = .ok (.iastore, 1) := by decide +kernel
theorem d_120_76 : decode (mB 120) 76 = .ok (.aload_n 0, 1) := by decide +kernel
theorem d_120_77 : decode (mB 120) 77 = .ok (.getfield 54, 3) := by decide +kernel
theorem d_120_80 : decode (mB 120) 80 = .ok (.iload_n 3, 1) := by decide +kernel
theorem d_120_81 : decode (mB 120) 81 = .ok (.iconst 0, 1) := by decide +kernel
theorem d_120_82 : decode (mB 120) 82 = .ok (.iastore, 1) := by decide +kernel
theorem d_120_83 : decode (mB 120) 83 = .ok (.aload_n 0, 1) := by decide +kernel
theorem d_120_84 : decode (mB 120) 84 = .ok (.dup, 1) := by decide +kernel
theorem d_120_85 : decode (mB 120) 85 = .ok (.getfield 183, 3) := by decide +kernel
theorem d_120_88 : decode (mB 120) 88 = .ok (.iconst 1, 1) := by decide +kernel
theorem d_120_89 : decode (mB 120) 89 = .ok (.iadd, 1) := by decide +kernel
theorem d_120_90 : decode (mB 120) 90 = .ok (.putfield 183, 3) := by decide +kernel
theorem d_120_93 : decode (mB 120) 93 = .ok (.iconst 0, 1) := by decide +kernel
theorem d_120_94 : decode (mB 120) 94 = .ok (.istore 4, 2) := by decide +kernel
theorem d_120_96 : decode (mB 120) 96 = .ok (.iload 4, 2) := by decide +kernel
theorem d_120_98 : decode (mB 120) 98 = .ok (.aload_n 0, 1) := by decide +kernel
theorem d_120_99 : decode (mB 120) 99 = .ok (.getfield 144, 3) := by decide +kernel
theorem d_120_102 : decode (mB 120) 102 = .ok (.iconst 1, 1) := by decide +kernel
theorem d_120_103 : decode (mB 120) 103 = .ok (.isub, 1) := by decide +kernel
theorem d_120_104 : decode (mB 120) 104 = .ok (.if_icmp .ge 60, 3) := by decide +kernel
theorem d_120_107 : decode (mB 120) 107 = .ok (.aload_n 0, 1) := by decide +kernel
theorem d_120_108 : decode (mB 120) 108 = .ok (.getfield 54, 3) := by decide +kernel
theorem d_120_111 : decode (mB 120) 111 = .ok (.iload_n 3, 1) := by decide +kernel
theorem d_120_112 : decode (mB 120) 112 = .ok (.iaload, 1) := by decide +kernel
theorem d_120_113 : decode (mB 120) 113 = .ok (.aload_n 0, 1) := by decide +kernel
theorem d_120_114 : decode (mB 120) 114 = .ok (.getfield 148, 3) := by decide +kernel
theorem d_120_117 : decode (mB 120) 117 = .ok (.if_icmp .ge 47, 3) := by decide +kernel
theorem d_120_120 : decode (mB 120) 120 = .ok (.aload_n 0, 1) := by decide +kernel
theorem d_120_121 : decode (mB 120) 121 = .ok (.aload_n 0, 1) := by decide +kernel
theorem d_120_122 : decode (mB 120) 122 = .ok (.aload_n 0, 1) := by decide +kernel
theorem d_120_123 : decode (mB 120) 123 = .ok (.getfield 41, 3) := by decide +kernel
theorem d_120_126 : decode (mB 120) 126 = .ok (.iload_n 3, 1) := by decide +kernel
theorem d_120_127 : decode (mB 120) 127 = .ok (.iaload, 1) := by decide +kernel
theorem d_120_128 : decode (mB 120) 128 = .ok (.iload_n 1, 1) := by decide +kernel
theorem d_120_129 : decode (mB 120) 129 = .ok (.iload 4, 2) := by decide +kernel
theorem d_120_131 : decode (mB 120) 131 = .ok (.invokevirtual 186, 3) := by decide +kernel
theorem d_120_134 : decode (mB 120) 134 = .ok (.invokevirtual 164, 3) := by decide +kernel
theorem d_120_137 : decode (mB 120) 137 = .ok (.ifCond .eq 21, 3) := by decide +kernel
theorem d_120_140 : decode (mB 120) 140 = .ok (.aload_n 0, 1) := by decide +kernel
theorem d_120_141 : decode (mB 120) 141 = .ok (.iload_n 3, 1) := by decide +kernel
theorem d_120_142 : decode (mB 120) 142 = .ok (.aload_n 0, 1) := by decide +kernel
theorem d_120_143 : decode (mB 120) 143 = .ok (.aload_n 0, 1) := by decide +kernel
theorem d_120_144 : decode (mB 120) 144 = .ok (.getfield 41, 3) := by decide +kernel
theorem d_120_147 : decode (mB 120) 147 = .ok (.iload_n 3, 1) := by decide +kernel
theorem d_120_148 : decode (mB 120) 148 = .ok (.iaload, 1) := by decide +kernel
theorem d_120_149 : decode (mB 120) 149 = .ok (.iload_n 1, 1) := by decide +kernel
theorem d_120_150 : decode (mB 120) 150 = .ok (.iload 4, 2) := by decide +kernel
theorem d_120_152 : decode (mB 120) 152 = .ok (.invokevirtual 186, 3) := by decide +kernel
theorem d_120_155 : decode (mB 120) 155 = .ok (.invokevirtual 189, 3) := by decide +kernel
theorem d_120_158 : decode (mB 120) 158 = .ok (.iinc 4 1, 3) := by decide +kernel
theorem d_120_161 : decode (mB 120) 161 = .ok (.goto (-65), 3) := by decide +kernel
theorem d_120_164 : decode (mB 120) 164 = .ok (.iload_n 3, 1) := by decide +kernel
theorem d_120_165 : decode (mB 120) 165 = .ok (.ireturn, 1) := by decide +kernel
theorem d_121_0 : decode (mB 121) 0 = .ok (.aload_n 0, 1) := by decide +kernel
theorem d_121_1 : decode (mB 121) 1 = .ok (.getfield 38, 3) := by decide +kernel
theorem d_121_4 : decode (mB 121) 4 = .ok (.iload_n 1, 1) := by decide +kernel
theorem d_121_5 : decode (mB 121) 5 = .ok (.iaload, 1) := by decide +kernel
theorem d_121_6 : decode (mB 121) 6 = .ok (.bipush 16, 2) := by decide +kernel
theorem d_121_8 : decode (mB 121) 8 = .ok (.if_icmp .lt 17, 3) := by decide +kernel
theorem d_121_11 : decode (mB 121) 11 = .ok (.iload_n 1, 1) := by decide +kernel
theorem d_121_12 : decode (mB 121) 12 = .ok (.aload_n 0, 1) := by decide +kernel
theorem d_121_13 : decode (mB 121) 13 = .ok (.aload_n 0, 1) := by decide +kernel
theorem d_121_14 : decode (mB 121) 14 = .ok (.getfield 38, 3) := by decide +kernel
theorem d_121_17 : decode (mB 121) 17 = .ok (.iload_n 1, 1) := by decide +kernel
theorem d_121_18 : decode (mB 121) 18 = .ok (.iaload, 1) := by decide +kernel
theorem d_121_19 : decode (mB 121) 19 = .ok (.invokevirtual 193, 3) := by decide +kernel
theorem d_121_22 : decode (mB 121) 22 = .ok (.if_icmp .eq 10, 3) := by decide +kernel
theorem d_121_25 : decode (mB 121) 25 = .ok (.aload_n 0, 1) := by decide +kernel
theorem d_121_26 : decode (mB 121) 26 = .ok (.getfield 47, 3) := by decide +kernel
theorem d_121_29 : decode (mB 121) 29 = .ok (.iload_n 1, 1) := by decide +kernel
theorem d_121_30 : decode (mB 121) 30 = .ok (.iaload, 1) := by decide +kernel
theorem d_121_31 : decode (mB 121) 31 = .ok (.ireturn, 1) := by decide +kernel
theorem d_121_32 : decode (mB 121) 32 = .ok (.iconst 0, 1) := by decide +kernel
theorem d_121_33 : decode (mB 121) 33 = .ok (.istore_n 2, 1) := by decide +kernel
theorem d_121_34 : decode (mB 121) 34 = .ok (.iconst 0, 1) := by decide +kernel
theorem d_121_35 : decode (mB 121) 35 = .ok (.istore_n 3, 1) := by decide +kernel
theorem d_121_36 : decode (mB 121) 36 = .ok (.iload_n 3, 1) := by decide +kernel
theorem d_121_37 : decode (mB 121) 37 = .ok (.aload_n 0, 1) := by decide +kernel
theorem d_121_38 : decode (mB 121) 38 = .ok (.getfield 54, 3) := by decide +kernel
theorem d_121_41 : decode (mB 121) 41 = .ok (.iload_n 1, 1) := by decide +kernel
theorem d_121_42 : decode (mB 121) 42 = .ok (.iaload, 1) := by decide +kernel
theorem d_121_43 : decode (mB 121) 43 = .ok (.if_icmp .ge 54, 3) := by decide +kernel
theorem d_121_46 : decode (mB 121) 46 = .ok (.aload_n 0, 1) := by decide +kernel
theorem d_121_47 : decode (mB 121) 47 = .ok (.aload_n 0, 1) := by decide +kernel
theorem d_121_48 : decode (mB 121) 48 = .ok (.getfield 58, 3) := by decide +kernel
theorem d_121_51 : decode (mB 121) 51 = .ok (.bipush 8, 2) := by decide +kernel
theorem d_121_53 : decode (mB 121) 53 = .ok (.iload_n 1, 1) := by decide +kernel
theorem d_121_54 : decode (mB 121) 54 = .ok (.imul, 1) := by decide +kernel
theorem d_121_55 : decode (mB 121) 55 = .ok (.iload_n 3, 1) := by decide +kernel
theorem d_121_56 : decode (mB 121) 56 = .ok (.iadd, 1) := by decide +kernel
theorem d_121_57 : decode (mB 121) 57 = .ok (.iaload, 1) := by decide +kernel
theorem d_121_58 : decode (mB 121) 58 = .ok (.invokevirtual 164, 3) := by decide +kernel
theorem d_121_61 : decode (mB 121) 61 = .ok (.ifCond .eq 30, 3) := by decide +kernel
theorem d_121_64 : decode (mB 121) 64 = .ok (.aload_n 0, 1) := by decide +kernel
theorem d_121_65 : decode (mB 121) 65 = .ok (.getfield 61, 3) := by decide +kernel
theorem d_121_68 : decode (mB 121) 68 = .ok (.bipush 8, 2) := by decide +kernel
theorem d_121_70 : decode (mB 121) 70 = .ok (.iload_n 1, 1) := by decide +kernel
theorem d_121_71 : decode (mB 121) 71 = .ok (.imul, 1) := by decide +kernel
theorem d_121_72 : decode (mB 121) 72 = .ok (.iload_n 3, 1) := by decide +kernel
theorem d_121_73 : decode (mB 121) 73 = .ok (.iadd, 1) := by decide +kernel
theorem d_121_74 : decode (mB 121) 74 = .ok (.iaload, 1) := by decide +kernel
theorem d_121_75 : decode (mB 121) 75 = .ok (.iload_n 2, 1) := by decide +kernel
theorem d_121_76 : decode (mB 121) 76 = .ok (.if_icmp .le 15, 3) := by decide +kernel
theorem d_121_79 : decode (mB 121) 79 = .ok (.aload_n 0, 1) := by decide +kernel
theorem d_121_80 : decode (mB 121) 80 = .ok (.getfield 61, 3) := by decide +kernel
theorem d_121_83 : decode (mB 121) 83 = .ok (.bipush 8, 2) := by decide +kernel
theorem d_121_85 : decode (mB 121) 85 = .ok (.iload_n 1, 1) := by decide +kernel
theorem d_121_86 : decode (mB 121) 86 = .ok (.imul, 1) := by decide +kernel
theorem d_121_87 : decode (mB 121) 87 = .ok (.iload_n 3, 1) := by decide +kernel
theorem d_121_88 : decode (mB 121) 88 = .ok (.iadd, 1) := by decide +kernel
theorem d_121_89 : decode (mB 121) 89 = .ok (.iaload, 1) := by decide +kernel
theorem d_121_90 : decode (mB 121) 90 = .ok (.istore_n 2, 1) := by decide +kernel
theorem d_121_91 : decode (mB 121) 91 = .ok (.iinc 3 1, 3) := by decide +kernel
theorem d_121_94 : decode (mB 121) 94 = .ok (.goto (-58), 3) := by decide +kernel
theorem d_121_97 : decode (mB 121) 97 = .ok (.iload_n 2, 1) := by decide +kernel
theorem d_121_98 : decode (mB 121) 98 = .ok (.ireturn, 1) := by decide +kernel
theorem d_122_0 : decode (mB 122) 0 = .ok (.iconst 1, 1) := by decide +kernel
theorem d_122_1 : decode (mB 122) 1 = .ok (.istore_n 3, 1) := by decide +kernel
theorem d_122_2 : decode (mB 122) 2 = .ok (.iconst 0, 1) := by decide +kernel
theorem d_122_3 : decode (mB 122) 3 = .ok (.istore 4, 2) := by decide +kernel
theorem d_122_5 : decode (mB 122) 5 = .ok (.iload 4, 2) := by decide +kernel
theorem d_122_7 : decode (mB 122) 7 = .ok (.aload_n 0, 1) := by decide +kernel
theorem d_122_8 : decode (mB 122) 8 = .ok (.getfield 180, 3) := by decide +kernel
theorem d_122_11 : decode (mB 122) 11 = .ok (.if_icmp .ge 133, 3) := by decide +kernel
theorem d_122_14 : decode (mB 122) 14 = .ok (.aload_n 0, 1) := by decide +kernel
theorem d_122_15 : decode (mB 122) 15 = .ok (.getfield 38, 3) := by decide +kernel
theorem d_122_18 : decode (mB 122) 18 = .ok (.iload 4, 2) := by decide +kernel
theorem d_122_20 : decode (mB 122) 20 = .ok (.iaload, 1) := by decide +kernel
theorem d_122_21 : decode (mB 122) 21 = .ok (.iload_n 1, 1) := by decide +kernel
theorem d_122_22 : decode (mB 122) 22 = .ok (.if_icmp .eq 6, 3) := by decide +kernel
theorem d_122_25 : decode (mB 122) 25 = .ok (.goto 113, 3) := by decide +kernel
theorem d_122_28 : decode (mB 122) 28 = .ok (.aload_n 0, 1) := by decide +kernel
theorem d_122_29 : decode (mB 122) 29 = .ok (.iload 4, 2) := by decide +kernel
theorem d_122_31 : decode (mB 122) 31 = .ok (.invokevirtual 196, 3) := by decide +kernel
theorem d_122_34 : decode (mB 122) 34 = .ok (.istore 5, 2) := by decide +kernel
theorem d_122_36 : decode (mB 122) 36 = .ok (.iconst 0, 1) := by decide +kernel
theorem d_122_37 : decode (mB 122) 37 = .ok (.istore 6, 2) := by decide +kernel
theorem d_122_39 : decode (mB 122) 39 = .ok (.iload 6, 2) := by decide +kernel
theorem d_122_41 : decode (mB 122) 41 = .ok (.iload 5, 2) := by decide +kernel
theorem d_122_43 : decode (mB 122) 43 = .ok (.if_icmp .ge 95, 3) := by decide +kernel
theorem d_122_46 : decode (mB 122) 46 = .ok (.iconst 0, 1) := by decide +kernel
theorem d_122_47 : decode (mB 122) 47 = .ok (.istore 7, 2) := by decide +kernel
theorem d_122_49 : decode (mB 122) 49 = .ok (.iload 7, 2) := by decide +kernel
theorem d_122_51 : decode (mB 122) 51 = .ok (.iconst 2, 1) := by decide +kernel
theorem d_122_52 : decode (mB 122) 52 = .ok (.if_icmp .ge 80, 3) := by decide +kernel
theorem d_122_55 : decode (mB 122) 55 = .ok (.iload 4, 2) := by decide +kernel
theorem d_122_57 : decode (mB 122) 57 = .ok (.iload 6, 2) := by decide +kernel
theorem d_122_59 : decode (mB 122) 59 = .ok (.iload 7, 2) := by decide +kernel
theorem d_122_61 : decode (mB 122) 61 = .ok (.iconst 0, 1) := by decide +kernel
theorem d_122_62 : decode (mB 122) 62 = .ok (.invokestatic 168, 3) := by decide +kernel
theorem d_122_65 : decode (mB 122) 65 = .ok (.istore 8, 2) := by decide +kernel
theorem d_122_67 : decode (mB 122) 67 = .ok (.aload_n 0, 1) := by decide +kernel
theorem d_122_68 : decode (mB 122) 68 = .ok (.getfield 51, 3) := by decide +kernel
theorem d_122_71 : decode (mB 122) 71 = .ok (.iload 8, 2) := by decide +kernel
theorem d_122_73 : decode (mB 122) 73 = .ok (.iaload, 1) := by decide +kernel
theorem d_122_74 : decode (mB 122) 74 = .ok (.istore 9, 2) := by decide +kernel
theorem d_122_76 : decode (mB 122) 76 = .ok (.iload 9, 2) := by decide +kernel
theorem d_122_78 : decode (mB 122) 78 = .ok (.iconst 2, 1) := by decide +kernel
theorem d_122_79 : decode (mB 122) 79 = .ok (.if_icmp .eq 9, 3) := by decide +kernel
theorem d_122_82 : decode (mB 122) 82 = .ok (.iload 9, 2) := by decide +kernel
theorem d_122_84 : decode (mB 122) 84 = .ok (.iconst 5, 1) := by decide +kernel
theorem d_122_85 : decode (mB 122) 85 = .ok (.if_icmp .ne 41, 3) := by decide +kernel
theorem d_122_88 : decode (mB 122) 88 = .ok (.aload_n 0, 1) := by decide +kernel
theorem d_122_89 : decode (mB 122) 89 = .ok (.getfield 51, 3) := by decide +kernel
theorem d_122_92 : decode (mB 122) 92 = .ok (.iload 8, 2) := by decide +kernel
theorem d_122_94 : decode (mB 122) 94 = .ok (.iconst 1, 1) := by decide +kernel
theorem d_122_95 : decode (mB 122) 95 = .ok (.iadd, 1) := by decide +kernel
theorem d_122_96 : decode (mB 122) 96 = .ok (.iaload, 1) := by decide +kernel
theorem d_122_97 : decode (mB 122) 97 = .ok (.iload_n 2, 1) := by decide +kernel
theorem d_122_98 : decode (mB 122) 98 = .ok (.if_icmp .ne 28, 3) := by decide +kernel
theorem d_122_101 : decode (mB 122) 101 = .ok (.aload_n 0, 1) := by decide +kernel
theorem d_122_102 : decode (mB 122) 102 = .ok (.getfield 51, 3) := by decide +kernel
theorem d_122_105 : decode (mB 122) 105 = .ok (.iload 8, 2) := by decide +kernel
theorem d_122_107 : decode (mB 122) 107 = .ok (.bipush 7, 2) := by decide +kernel
theorem d_122_109 : decode (mB 122) 109 = .ok (.iadd, 1) := by decide +kernel
theorem d_122_110 : decode (mB 122) 110 = .ok (.iaload, 1) := by decide +kernel
theorem d_122_111 : decode (mB 122) 111 = .ok (.iload_n 3, 1) := by decide +kernel
theorem d_122_112 : decode (mB 122) 112 = .ok (.if_icmp .le 14, 3) := by decide +kernel
theorem d_122_115 : decode (mB 122) 115 = .ok (.aload_n 0, 1) := by decide +kernel
theorem d_122_116 : decode (mB 122) 116 = .ok (.getfield 51, 3) := by decide +kernel
theorem d_122_119 : decode (mB 122) 119 = .ok (.iload 8, 2) := by decide +kernel
theorem d_122_121 : decode (mB 122) 121 = .ok (.bipush 7, 2) := by decide +kernel
theorem d_122_123 : decode (mB 122) 123 = .ok (.iadd, 1) := by decide +kernel
theorem d_122_124 : decode (mB 122) 124 = .ok (.iaload, 1) := by decide +kernel
theorem d_122_125 : decode (mB 122) 125 = .ok (.istore_n 3, 1) := by decide +kernel
theorem d_122_126 : decode (mB 122) 126 = .ok (.iinc 7 1, 3) := by decide +kernel
theorem d_122_129 : decode (mB 122) 129 = .ok (.goto (-80), 3) := by decide +kernel
theorem d_122_132 : decode (mB 122) 132 = .ok (.iinc 6 1, 3) := by decide +kernel
theorem d_122_135 : decode (mB 122) 135 = .ok (.goto (-96), 3) := by decide +kernel
theorem d_122_138 : decode (mB 122) 138 = .ok (.iinc 4 1, 3) := by decide +kernel
theorem d_122_141 : decode (mB 122) 141 = .ok (.goto (-136), 3) := by decide +kernel
theorem d_122_144 : decode (mB 122) 144 = .ok (.iload_n 3, 1) := by decide +kernel
theorem d_122_145 : decode (mB 122) 145 = .ok (.ireturn, 1) := by decide +kernel
theorem d_123_0 : decode (mB 123) 0 = .ok (.iconst 0, 1) := by decide +kernel
theorem d_123_1 : decode (mB 123) 1 = .ok (.istore_n 3, 1) := by decide +kernel
theorem d_123_2 : decode (mB 123) 2 = .ok (.iconst 0, 1) := by decide +kernel
theorem d_123_3 : decode (mB 123) 3 = .ok (.istore 4, 2) := by decide +kernel
theorem d_123_5 : decode (mB 123) 5 = .ok (.iload 4, 2) := by decide +kernel
theorem d_123_7 : decode (mB 123) 7 = .ok (.aload_n 0, 1) := by decide +kernel
theorem d_123_8 : decode (mB 123) 8 = .ok (.getfield 180, 3) := by decide +kernel
theorem d_123_11 : decode (mB 123) 11 = .ok (.if_icmp .ge 133, 3) := by decide +kernel
theorem d_123_14 : decode (mB 123) 14 = .ok (.aload_n 0, 1) := by decide +kernel
theorem d_123_15 : decode (mB 123) 15 = .ok (.getfield 38, 3) := by decide +kernel
theorem d_123_18 : decode (mB 123) 18 = .ok (.iload 4, 2) := by decide +kernel
theorem d_123_20 : decode (mB 123) 20 = .ok (.iaload, 1) := by decide +kernel
theorem d_123_21 : decode (mB 123) 21 = .ok (.iload_n 1, 1) := by decide +kernel
theorem d_123_22 : decode (mB 123) 22 = .ok (.if_icmp .eq 6, 3) := by decide +kernel
theorem d_123_25 : decode (mB 123) 25 = .ok (.goto 113, 3) := by decide +kernel
theorem d_123_28 : decode (mB 123) 28 = .ok (.aload_n 0, 1) := by decide +kernel
theorem d_123_29 : decode (mB 123) 29 = .ok (.iload 4, 2) := by decide +kernel
theorem d_123_31 : decode (mB 123) 31 = .ok (.invokevirtual 196, 3) := by decide +kernel
theorem d_123_34 : decode (mB 123) 34 = .ok (.istore 5, 2) := by decide +kernel
theorem d_123_36 : decode (mB 123) 36 = .ok (.iconst 0, 1) := by decide +kernel
theorem d_123_37 : decode (mB 123) 37 = .ok (.istore 6, 2) := by decide +kernel
theorem d_123_39 : decode (mB 123) 39 = .ok (.iload 6, 2) := by decide +kernel
theorem d_123_41 : decode (mB 123) 41 = .ok (.iload 5, 2) := by decide +kernel
theorem d_123_43 : decode (mB 123) 43 = .ok (.if_icmp .ge 95, 3) := by decide +kernel
theorem d_123_46 : decode (mB 123) 46 = .ok (.iconst 0, 1) := by decide +kernel
theorem d_123_47 : decode (mB 123) 47 = .ok (.istore 7, 2) := by decide +kernel
theorem d_123_49 : decode (mB 123) 49 = .ok (.iload 7, 2) := by decide +kernel
theorem d_123_51 : decode (mB 123) 51 = .ok (.iconst 2, 1) := by decide +kernel
theorem d_123_52 : decode (mB 123) 52 = .ok (.if_icmp .ge 80, 3) := by decide +kernel
theorem d_123_55 : decode (mB 123) 55 = .ok (.iload 4, 2) := by decide +kernel
theorem d_123_57 : decode (mB 123) 57 = .ok (.iload 6, 2) := by decide +kernel
theorem d_123_59 : decode (mB 123) 59 = .ok (.iload 7, 2) := by decide +kernel
theorem d_123_61 : decode (mB 123) 61 = .ok (.iconst 0, 1) := by decide +kernel
theorem d_123_62 : decode (mB 123) 62 = .ok (.invokestatic 168, 3) := by decide +kernel
theorem d_123_65 : decode (mB 123) 65 = .ok (.istore 8, 2) := by decide +kernel
theorem d_123_67 : decode (mB 123) 67 = .ok (.aload_n 0, 1) := by decide +kernel
theorem d_123_68 : decode (mB 123) 68 = .ok (.getfield 51, 3) := by decide +kernel
theorem d_123_71 : decode (mB 123) 71 = .ok (.iload 8, 2) := by decide +kernel
theorem d_123_73 : decode (mB 123) 73 = .ok (.iaload, 1) := by decide +kernel
theorem d_123_74 : decode (mB 123) 74 = .ok (.istore 9, 2) := by decide +kernel
theorem d_123_76 : decode (mB 123) 76 = .ok (.iload 9, 2) := by decide +kernel
theorem d_123_78 : decode (mB 123) 78 = .ok (.iconst 3, 1) := by decide +kernel
theorem d_123_79 : decode (mB 123) 79 = .ok (.if_icmp .eq 9, 3) := by decide +kernel
theorem d_123_82 : decode (mB 123) 82 = .ok (.iload 9, 2) := by decide +kernel
theorem d_123_84 : decode (mB 123) 84 = .ok (.iconst 4, 1) := by decide +kernel
theorem d_123_85 : decode (mB 123) 85 = .ok (.if_icmp .ne 41, 3) := by decide +kernel
theorem d_123_88 : decode (mB 123) 88 = .ok (.aload_n 0, 1) := by decide +kernel
theorem d_123_89 : decode (mB 123) 89 = .ok (.getfield 51, 3) := by decide +kernel
theorem d_123_92 : decode (mB 123) 92 = .ok (.iload 8, 2) := by decide +kernel
theorem d_123_94 : decode (mB 123) 94 = .ok (.iconst 3, 1) := by decide +kernel
theorem d_123_95 : decode (mB 123) 95 = .ok (.iadd, 1) := by decide +kernel
theorem d_123_96 : decode (mB 123) 96 = .ok (.iaload, 1) := by decide +kernel
theorem d_123_97 : decode (mB 123) 97 = .ok (.iload_n 2, 1) := by decide +kernel
theorem d_123_98 : decode (mB 123) 98 = .ok (.if_icmp .ne 28, 3) := by decide +kernel
theorem d_123_101 : decode (mB 123) 101 = .ok (.aload_n 0, 1) := by decide +kernel
theorem d_123_102 : decode (mB 123) 102 = .ok (.getfield 51, 3) := by decide +kernel
theorem d_123_105 : decode (mB 123) 105 = .ok (.iload 8, 2) := by decide +kernel
theorem d_123_107 : decode (mB 123) 107 = .ok (.bipush 6, 2) := by decide +kernel
theorem d_123_109 : decode (mB 123) 109 = .ok (.iadd, 1) := by decide +kernel
theorem d_123_110 : decode (mB 123) 110 = .ok (.iaload, 1) := by decide +kernel
theorem d_123_111 : decode (mB 123) 111 = .ok (.iload_n 3, 1) := by decide +kernel
theorem d_123_112 : decode (mB 123) 112 = .ok (.if_icmp .le 14, 3) := by decide +kernel
theorem d_123_115 : decode (mB 123) 115 = .ok (.aload_n 0, 1) := by decide +kernel
theorem d_123_116 : decode (mB 123) 116 = .ok (.getfield 51, 3) := by decide +kernel
theorem d_123_119 : decode (mB 123) 119 = .ok (.iload 8, 2) := by decide +kernel
theorem d_123_121 : decode (mB 123) 121 = .ok (.bipush 6, 2) := by decide +kernel
theorem d_123_123 : decode (mB 123) 123 = .ok (.iadd, 1) := by decide +kernel
theorem d_123_124 : decode (mB 123) 124 = .ok (.iaload, 1) := by decide +kernel
theorem d_123_125 : decode (mB 123) 125 = .ok (.istore_n 3, 1) := by decide +kernel
theorem d_123_126 : decode (mB 123) 126 = .ok (.iinc 7 1, 3) := by decide +kernel
theorem d_123_129 : decode (mB 123) 129 = .ok (.goto (-80), 3) := by decide +kernel
theorem d_123_132 : decode (mB 123) 132 = .ok (.iinc 6 1, 3) := by decide +kernel
theorem d_123_135 : decode (mB 123) 135 = .ok (.goto (-96), 3) := by decide +kernel
theorem d_123_138 : decode (mB 123) 138 = .ok (.iinc 4 1, 3) := by decide +kernel
theorem d_123_141 : decode (mB 123) 141 = .ok (.goto (-136), 3) := by decide +kernel
theorem d_123_144 : decode (mB 123) 144 = .ok (.iload_n 3, 1) := by decide +kernel
theorem d_123_145 : decode (mB 123) 145 = .ok (.ireturn, 1) := by decide +kernel
theorem d_124_0 : decode (mB 124) 0 = .ok (.aload_n 0, 1) := by decide +kernel
theorem d_124_1 : decode (mB 124) 1 = .ok (.iload_n 1, 1) := by decide +kernel
theorem d_124_2 : decode (mB 124) 2 = .ok (.iload_n 2, 1) := by decide +kernel
theorem d_124_3 : decode (mB 124) 3 = .ok (.invokevirtual 199, 3) := by decide +kernel
theorem d_124_6 : decode (mB 124) 6 = .ok (.istore_n 3, 1) := by decide +kernel
theorem d_124_7 : decode (mB 124) 7 = .ok (.iconst 0, 1) := by decide +kernel
theorem d_124_8 : decode (mB 124) 8 = .ok (.istore 4, 2) := by decide +kernel
theorem d_124_10 : decode (mB 124) 10 = .ok (.iload 4, 2) := by decide +kernel
theorem d_124_12 : decode (mB 124) 12 = .ok (.aload_n 0, 1) := by decide +kernel
theorem d_124_13 : decode (mB 124) 13 = .ok (.getfield 180, 3) := by decide +kernel
theorem d_124_16 : decode (mB 124) 16 = .ok (.if_icmp .ge 124, 3) := by decide +kernel
theorem d_124_19 : decode (mB 124) 19 = .ok (.aload_n 0, 1) := by decide +kernel
theorem d_124_20 : decode (mB 124) 20 = .ok (.getfield 38, 3) := by decide +kernel
theorem d_124_23 : decode (mB 124) 23 = .ok (.iload 4, 2) := by decide +kernel
theorem d_124_25 : decode (mB 124) 25 = .ok (.iaload, 1) := by decide +kernel
theorem d_124_26 : decode (mB 124) 26 = .ok (.iload_n 1, 1) := by decide +kernel
theorem d_124_27 : decode (mB 124) 27 = .ok (.if_icmp .eq 6, 3) := by decide +kernel
theorem d_124_30 : decode (mB 124) 30 = .ok (.goto 104, 3) := by decide +kernel
theorem d_124_33 : decode (mB 124) 33 = .ok (.aload_n 0, 1) := by decide +kernel
theorem d_124_34 : decode (mB 124) 34 = .ok (.iload 4, 2) := by decide +kernel
theorem d_124_36 : decode (mB 124) 36 = .ok (.invokevirtual 196, 3) := by decide +kernel
theorem d_124_39 : decode (mB 124) 39 = .ok (.istore 5, 2) := by decide +kernel
theorem d_124_41 : decode (mB 124) 41 = .ok (.iconst 0, 1) := by decide +kernel
theorem d_124_42 : decode (mB 124) 42 = .ok (.istore 6, 2) := by decide +kernel
theorem d_124_44 : decode (mB 124) 44 = .ok (.iload 6, 2) := by decide +kernel
theorem d_124_46 : decode (mB 124) 46 = .ok (.iload 5, 2) := by decide +kernel
theorem d_124_48 : decode (mB 124) 48 = .ok (.if_icmp .ge 86, 3) := by decide +kernel
theorem d_124_51 : decode (mB 124) 51 = .ok (.iconst 0, 1) := by decide +kernel
theorem d_124_52 : decode (mB 124) 52 = .ok (.istore 7, 2) := by decide +kernel
theorem d_124_54 : decode (mB 124) 54 = .ok (.iload 7, 2) := by decide +kernel
theorem d_124_56 : decode (mB 124) 56 = .ok (.iconst 2, 1) := by decide +kernel
theorem d_124_57 : decode (mB 124) 57 = .ok (.if_icmp .ge 71, 3) := by decide +kernel
theorem d_124_60 : decode (mB 124) 60 = .ok (.iload 4, 2) := by decide +kernel
theorem d_124_62 : decode (mB 124) 62 = .ok (.iload 6, 2) := by decide +kernel
theorem d_124_64 : decode (mB 124) 64 = .ok (.iload 7, 2) := by decide +kernel
theorem d_124_66 : decode (mB 124) 66 = .ok (.iconst 0, 1) := by decide +kernel
theorem d_124_67 : decode (mB 124) 67 = .ok (.invokestatic 168, 3) := by decide +kernel
theorem d_124_70 : decode (mB 124) 70 = .ok (.istore 8, 2) := by decide +kernel
theorem d_124_72 : decode (mB 124) 72 = .ok (.aload_n 0, 1) := by decide +kernel
theorem d_124_73 : decode (mB 124) 73 = .ok (.getfield 51, 3) := by decide +kernel
theorem d_124_76 : decode (mB 124) 76 = .ok (.iload 8, 2) := by decide +kernel
theorem d_124_78 : decode (mB 124) 78 = .ok (.iaload, 1) := by decide +kernel
theorem d_124_79 : decode (mB 124) 79 = .ok (.iconst 3, 1) := by decide +kernel
theorem d_124_80 : decode (mB 124) 80 = .ok (.if_icmp .ne 42, 3) := by decide +kernel
theorem d_124_83 : decode (mB 124) 83 = .ok (.aload_n 0, 1) := by decide +kernel
theorem d_124_84 : decode (mB 124) 84 = .ok (.getfield 51, 3) := by decide +kernel
theorem d_124_87 : decode (mB 124) 87 = .ok (.iload 8, 2) := by decide +kernel
theorem d_124_89 : decode (mB 124) 89 = .ok (.iconst 3, 1) := by decide +kernel
theorem d_124_90 : decode (mB 124) 90 = .ok (.iadd, 1) := by decide +kernel
theorem d_124_91 : decode (mB 124) 91 = .ok (.iaload, 1) := by decide +kernel
theorem d_124_92 : decode (mB 124) 92 = .ok (.iload_n 2, 1) := by decide +kernel
theorem d_124_93 : decode (mB 124) 93 = .ok (.if_icmp .ne 29, 3) := by decide +kernel
theorem d_124_96 : decode (mB 124) 96 = .ok (.aload_n 0, 1) := by decide +kernel
theorem d_124_97 : decode (mB 124) 97 = .ok (.getfield 51, 3) := by decide +kernel
theorem d_124_100 : decode (mB 124) 100 = .ok (.iload 8, 2) := by decide +kernel
theorem d_124_102 : decode (mB 124) 102 = .ok (.bipush 6, 2) := by decide +kernel
theorem d_124_104 : decode (mB 124) 104 = .ok (.iadd, 1) := by decide +kernel
theorem d_124_105 : decode (mB 124) 105 = .ok (.iaload, 1) := by decide +kernel
theorem d_124_106 : decode (mB 124) 106 = .ok (.iload_n 3, 1) := by decide +kernel
theorem d_124_107 : decode (mB 124) 107 = .ok (.if_icmp .eq 6, 3) := by decide +kernel
theorem d_124_110 : decode (mB 124) 110 = .ok (.goto 12, 3) := by decide +kernel
theorem d_124_113 : decode (mB 124) 113 = .ok (.aload_n 0, 1) := by decide +kernel
theorem d_124_114 : decode (mB 124) 114 = .ok (.iload 4, 2) := by decide +kernel
theorem d_124_116 : decode (mB 124) 116 = .ok (.putfield 202, 3) := by decide +kernel
theorem d_124_119 : decode (mB 124) 119 = .ok (.iload 8, 2) := by decide +kernel
theorem d_124_121 : decode (mB 124) 121 = .ok (.ireturn, 1) := by decide +kernel
theorem d_124_122 : decode (mB 124) 122 = .ok (.iinc 7 1, 3) := by decide +kernel
theorem d_124_125 : decode (mB 124) 125 = .ok (.goto (-71), 3) := by decide +kernel
theorem d_124_128 : decode (mB 124) 128 = .ok (.iinc 6 1, 3) := by decide +kernel
theorem d_124_131 : decode (mB 124) 131 = .ok (.goto (-87), 3) := by decide +kernel
theorem d_124_134 : decode (mB 124) 134 = .ok (.iinc 4 1, 3) := by decide +kernel
theorem d_124_137 : decode (mB 124) 137 = .ok (.goto (-127), 3) := by decide +kernel
theorem d_124_140 : decode (mB 124) 140 = .ok (.iconst (-1), 1) := by decide +kernel
theorem d_124_141 : decode (mB 124) 141 = .ok (.ireturn, 1) := by decide +kernel
theorem d_125_0 : decode (mB 125) 0 = .ok (.iconst 0, 1) := by decide +kernel
theorem d_125_1 : decode (mB 125) 1 = .ok (.istore 4, 2) := by decide +kernel
theorem d_125_3 : decode (mB 125) 3 = .ok (.iload 4, 2) := by decide +kernel
theorem d_125_5 : decode (mB 125) 5 = .ok (.aload_n 0, 1) := by decide +kernel
theorem d_125_6 : decode (mB 125) 6 = .ok (.getfield 180, 3) := by decide +kernel
theorem d_125_9 : decode (mB 125) 9 = .ok (.if_icmp .ge 114, 3) := by decide +kernel
theorem d_125_12 : decode (mB 125) 12 = .ok (.aload_n 0, 1) := by decide +kernel
theorem d_125_13 : decode (mB 125) 13 = .ok (.getfield 38, 3) := by decide +kernel
theorem d_125_16 : decode (mB 125) 16 = .ok (.iload 4, 2) := by decide +kernel
theorem d_125_18 : decode (mB 125) 18 = .ok (.iaload, 1) := by decide +kernel
theorem d_125_19 : decode (mB 125) 19 = .ok (.iload_n 1, 1) := by decide +kernel
theorem d_125_20 : decode (mB 125) 20 = .ok (.if_icmp .eq 6, 3) := by decide +kernel
theorem d_125_23 : decode (mB 125) 23 = .ok (.goto 94, 3) := by decide +kernel
theorem d_125_26 : decode (mB 125) 26 = .ok (.aload_n 0, 1) := by decide +kernel
theorem d_125_27 : decode (mB 125) 27 = .ok (.iload 4, 2) := by decide +kernel
theorem d_125_29 : decode (mB 125) 29 = .ok (.invokevirtual 196, 3) := by decide +kernel
theorem d_125_32 : decode (mB 125) 32 = .ok (.istore 5, 2) := by decide +kernel
theorem d_125_34 : decode (mB 125) 34 = .ok (.iconst 0, 1) := by decide +kernel
theorem d_125_35 : decode (mB 125) 35 = .ok (.istore 6, 2) := by decide +kernel
theorem d_125_37 : decode (mB 125) 37 = .ok (.iload 6, 2) := by decide +kernel
theorem d_125_39 : decode (mB 125) 39 = .ok (.iload 5, 2) := by decide +kernel
theorem d_125_41 : decode (mB 125) 41 = .ok (.if_icmp .ge 76, 3) := by decide +kernel
theorem d_125_44 : decode (mB 125) 44 = .ok (.iconst 0, 1) := by decide +kernel
theorem d_125_45 : decode (mB 125) 45 = .ok (.istore 7, 2) := by decide +kernel
theorem d_125_47 : decode (mB 125) 47 = .ok (.iload 7, 2) := by decide +kernel
theorem d_125_49 : decode (mB 125) 49 = .ok (.iconst 2, 1) := by decide +kernel
theorem d_125_50 : decode (mB 125) 50 = .ok (.if_icmp .ge 61, 3) := by decide +kernel
theorem d_125_53 : decode (mB 125) 53 = .ok (.iload 4, 2) := by decide +kernel
theorem d_125_55 : decode (mB 125) 55 = .ok (.iload 6, 2) := by decide +kernel
theorem d_125_57 : decode (mB 125) 57 = .ok (.iload 7, 2) := by decide +kernel
theorem d_125_59 : decode (mB 125) 59 = .ok (.iconst 0, 1) := by decide +kernel
theorem d_125_60 : decode (mB 125) 60 = .ok (.invokestatic 168, 3) := by decide +kernel
theorem d_125_63 : decode (mB 125) 63 = .ok (.istore 8, 2) := by decide +kernel
theorem d_125_65 : decode (mB 125) 65 = .ok (.aload_n 0, 1) := by decide +kernel
theorem d_125_66 : decode (mB 125) 66 = .ok (.getfield 51, 3) := by decide +kernel
theorem d_125_69 : decode (mB 125) 69 = .ok (.iload 8, 2) := by decide +kernel
theorem d_125_71 : decode (mB 125) 71 = .ok (.iaload, 1) := by decide +kernel
theorem d_125_72 : decode (mB 125) 72 = .ok (.iconst 5, 1) := by decide +kernel
theorem d_125_73 : decode (mB 125) 73 = .ok (.if_icmp .ne 32, 3) := by decide +kernel
theorem d_125_76 : decode (mB 125) 76 = .ok (.aload_n 0, 1) := by decide +kernel
theorem d_125_77 : decode (mB 125) 77 = .ok (.getfield 51, 3) := by decide +kernel
theorem d_125_80 : decode (mB 125) 80 = .ok (.iload 8, 2) := by decide +kernel
theorem d_125_82 : decode (mB 125) 82 = .ok (.iconst 1, 1) := by decide +kernel
theorem d_125_83 : decode (mB 125) 83 = .ok (.iadd, 1) := by decide +kernel
theorem d_125_84 : decode (mB 125) 84 = .ok (.iaload, 1) := by decide +kernel
theorem d_125_85 : decode (mB 125) 85 = .ok (.iload_n 2, 1) := by decide +kernel
theorem d_125_86 : decode (mB 125) 86 = .ok (.if_icmp .ne 19, 3) := by decide +kernel
theorem d_125_89 : decode (mB 125) 89 = .ok (.aload_n 0, 1) := by decide +kernel
theorem d_125_90 : decode (mB 125) 90 = .ok (.getfield 51, 3) := by decide +kernel
theorem d_125_93 : decode (mB 125) 93 = .ok (.iload 8, 2) := by decide +kernel
theorem d_125_95 : decode (mB 125) 95 = .ok (.iconst 2, 1) := by decide +kernel
theorem d_125_96 : decode (mB 125) 96 = .ok (.iadd, 1) := by decide +kernel
theorem d_125_97 : decode (mB 125) 97 = .ok (.iaload, 1) := by decide +kernel
theorem d_125_98 : decode (mB 125) 98 = .ok (.iload_n 3, 1) := by decide +kernel
theorem d_125_99 : decode (mB 125) 99 = .ok (.if_icmp .ne 6, 3) := by decide +kernel
theorem d_125_102 : decode (mB 125) 102 = .ok (.iload 8, 2) := by decide +kernel
theorem d_125_104 : decode (mB 125) 104 = .ok (.ireturn, 1) := by decide +kernel
theorem d_125_105 : decode (mB 125) 105 = .ok (.iinc 7 1, 3) := by decide +kernel
theorem d_125_108 : decode (mB 125) 108 = .ok (.goto (-61), 3) := by decide +kernel
theorem d_125_111 : decode (mB 125) 111 = .ok (.iinc 6 1, 3) := by decide +kernel
theorem d_125_114 : decode (mB 125) 114 = .ok (.goto (-77), 3) := by decide +kernel
theorem d_125_117 : decode (mB 125) 117 = .ok (.iinc 4 1, 3) := by decide +kernel
theorem d_125_120 : decode (mB 125) 120 = .ok (.goto (-117), 3) := by decide +kernel
theorem d_125_123 : decode (mB 125) 123 = .ok (.iconst (-1), 1) := by decide +kernel
theorem d_125_124 : decode (mB 125) 124 = .ok (.ireturn, 1) := by decide +kernel
