theorem d_168_0 : decode (mB 168) 0 = .ok (.iconst 0, 1) := by decide +kernel
theorem d_168_1 : decode (mB 168) 1 = .ok (.istore_n 2, 1) := by decide +kernel
theorem d_168_2 : decode (mB 168) 2 = .ok (.iload_n 2, 1) := by decide +kernel
theorem d_168_3 : decode (mB 168) 3 = .ok (.aload_n 0, 1) := by decide +kernel
theorem d_168_4 : decode (mB 168) 4 = .ok (.getfield 180, 3) := by decide +kernel
theorem d_168_7 : decode (mB 168) 7 = .ok (.if_icmp .ge 29, 3) := by decide +kernel
theorem d_168_10 : decode (mB 168) 10 = .ok (.aload_n 0, 1) := by decide +kernel
theorem d_168_11 : decode (mB 168) 11 = .ok (.getfield 38, 3) := by decide +kernel
theorem d_168_14 : decode (mB 168) 14 = .ok (.iload_n 2, 1) := by decide +kernel
theorem d_168_15 : decode (mB 168) 15 = .ok (.iaload, 1) := by decide +kernel
theorem d_168_16 : decode (mB 168) 16 = .ok (.iload_n 1, 1) := by decide +kernel
theorem d_168_17 : decode (mB 168) 17 = .ok (.if_icmp .ne 13, 3) := by decide +kernel
theorem d_168_20 : decode (mB 168) 20 = .ok (.aload_n 0, 1) := by decide +kernel
theorem d_168_21 : decode (mB 168) 21 = .ok (.iload_n 2, 1) := by decide +kernel
theorem d_168_22 : decode (mB 168) 22 = .ok (.invokevirtual 255, 3) := by decide +kernel
theorem d_168_25 : decode (mB 168) 25 = .ok (.ifCond .ne 5, 3) := by decide +kernel
theorem d_168_28 : decode (mB 168) 28 = .ok (.iconst 0, 1) := by decide +kernel
theorem d_168_29 : decode (mB 168) 29 = .ok (.ireturn, 1) := by decide +kernel
theorem d_168_30 : decode (mB 168) 30 = .ok (.iinc 2 1, 3) := by decide +kernel
theorem d_168_33 : decode (mB 168) 33 = .ok (.goto (-31), 3) := by decide +kernel
theorem d_168_36 : decode (mB 168) 36 = .ok (.iconst 1, 1) := by decide +kernel
theorem d_168_37 : decode (mB 168) 37 = .ok (.ireturn, 1) := by decide +kernel
theorem d_169_0 : decode (mB 169) 0 = .ok (.iconst (-1), 1) := by decide +kernel
theorem d_169_1 : decode (mB 169) 1 = .ok (.istore_n 1, 1) := by decide +kernel
theorem d_169_2 : decode (mB 169) 2 = .ok (.iconst 0, 1) := by decide +kernel
theorem d_169_3 : decode (mB 169) 3 = .ok (.istore_n 2, 1) := by decide +kernel
theorem d_169_4 : decode (mB 169) 4 = .ok (.iload_n 2, 1) := by decide +kernel
theorem d_169_5 : decode (mB 169) 5 = .ok (.aload_n 0, 1) := by decide +kernel
theorem d_169_6 : decode (mB 169) 6 = .ok (.getfield 144, 3) := by decide +kernel
theorem d_169_9 : decode (mB 169) 9 = .ok (.if_icmp .ge 55, 3) := by decide +kernel
theorem d_169_12 : decode (mB 169) 12 = .ok (.aload_n 0, 1) := by decide +kernel
theorem d_169_13 : decode (mB 169) 13 = .ok (.iload_n 2, 1) := by decide +kernel
theorem d_169_14 : decode (mB 169) 14 = .ok (.invokevirtual 164, 3) := by decide +kernel
theorem d_169_17 : decode (mB 169) 17 = .ok (.ifCond .eq 41, 3) := by decide +kernel
theorem d_169_20 : decode (mB 169) 20 = .ok (.aload_n 0, 1) := by decide +kernel
theorem d_169_21 : decode (mB 169) 21 = .ok (.getfield 13, 3) := by decide +kernel
theorem d_169_24 : decode (mB 169) 24 = .ok (.iload_n 2, 1) := by decide +kernel
theorem d_169_25 : decode (mB 169) 25 = .ok (.baload, 1) := by decide +kernel
theorem d_169_26 : decode (mB 169) 26 = .ok (.ifCond .ne 32, 3) := by decide +kernel
theorem d_169_29 : decode (mB 169) 29 = .ok (.aload_n 0, 1) := by decide +kernel
theorem d_169_30 : decode (mB 169) 30 = .ok (.getfield 20, 3) := by decide +kernel
theorem d_169_33 : decode (mB 169) 33 = .ok (.iload_n 2, 1) := by decide +kernel
theorem d_169_34 : decode (mB 169) 34 = .ok (.baload, 1) := by decide +kernel
theorem d_169_35 : decode (mB 169) 35 = .ok (.ifCond .ne 23, 3) := by decide +kernel
theorem d_169_38 : decode (mB 169) 38 = .ok (.iload_n 1, 1) := by decide +kernel
theorem d_169_39 : decode (mB 169) 39 = .ok (.iconst (-1), 1) := by decide +kernel
theorem d_169_40 : decode (mB 169) 40 = .ok (.if_icmp .eq 16, 3) := by decide +kernel
theorem d_169_43 : decode (mB 169) 43 = .ok (.aload_n 0, 1) := by decide +kernel
theorem d_169_44 : decode (mB 169) 44 = .ok (.iload_n 2, 1) := by decide +kernel
theorem d_169_45 : decode (mB 169) 45 = .ok (.invokevirtual 278, 3) := by decide +kernel
theorem d_169_48 : decode (mB 169) 48 = .ok (.aload_n 0, 1) := by decide +kernel
theorem d_169_49 : decode (mB 169) 49 = .ok (.iload_n 1, 1) := by decide +kernel
theorem d_169_50 : decode (mB 169) 50 = .ok (.invokevirtual 278, 3) := by decide +kernel
theorem d_169_53 : decode (mB 169) 53 = .ok (.if_icmp .ge 5, 3) := by decide +kernel
theorem d_169_56 : decode (mB 169) 56 = .ok (.iload_n 2, 1) := by decide +kernel
theorem d_169_57 : decode (mB 169) 57 = .ok (.istore_n 1, 1) := by decide +kernel
theorem d_169_58 : decode (mB 169) 58 = .ok (.iinc 2 1, 3) := by decide +kernel
theorem d_169_61 : decode (mB 169) 61 = .ok (.goto (-57), 3) := by decide +kernel
theorem d_169_64 : decode (mB 169) 64 = .ok (.iload_n 1, 1) := by decide +kernel
theorem d_169_65 : decode (mB 169) 65 = .ok (.ireturn, 1) := by decide +kernel
theorem d_170_0 : decode (mB 170) 0 = .ok (.iconst 0, 1) := by decide +kernel
theorem d_170_1 : decode (mB 170) 1 = .ok (.istore_n 2, 1) := by decide +kernel
theorem d_170_2 : decode (mB 170) 2 = .ok (.iconst 0, 1) := by decide +kernel
theorem d_170_3 : decode (mB 170) 3 = .ok (.istore_n 3, 1) := by decide +kernel
theorem d_170_4 : decode (mB 170) 4 = .ok (.iload_n 3, 1) := by decide +kernel
theorem d_170_5 : decode (mB 170) 5 = .ok (.aload_n 0, 1) := by decide +kernel
theorem d_170_6 : decode (mB 170) 6 = .ok (.getfield 180, 3) := by decide +kernel
theorem d_170_9 : decode (mB 170) 9 = .ok (.if_icmp .ge 112, 3) := by decide +kernel
theorem d_170_12 : decode (mB 170) 12 = .ok (.aload_n 0, 1) := by decide +kernel
theorem d_170_13 : decode (mB 170) 13 = .ok (.getfield 38, 3) := by decide +kernel
theorem d_170_16 : decode (mB 170) 16 = .ok (.iload_n 3, 1) := by decide +kernel
theorem d_170_17 : decode (mB 170) 17 = .ok (.iaload, 1) := by decide +kernel
theorem d_170_18 : decode (mB 170) 18 = .ok (.iload_n 1, 1) := by decide +kernel
theorem d_170_19 : decode (mB 170) 19 = .ok (.if_icmp .eq 6, 3) := by decide +kernel
theorem d_170_22 : decode (mB 170) 22 = .ok (.goto 93, 3) := by decide +kernel
theorem d_170_25 : decode (mB 170) 25 = .ok (.aload_n 0, 1) := by decide +kernel
theorem d_170_26 : decode (mB 170) 26 = .ok (.iload_n 3, 1) := by decide +kernel
theorem d_170_27 : decode (mB 170) 27 = .ok (.invokevirtual 196, 3) := by decide +kernel
theorem d_170_30 : decode (mB 170) 30 = .ok (.istore 4, 2) := by decide +kernel
theorem d_170_32 : decode (mB 170) 32 = .ok (.iconst 0, 1) := by decide +kernel
theorem d_170_33 : decode (mB 170) 33 = .ok (.istore 5, 2) := by decide +kernel
theorem d_170_35 : decode (mB 170) 35 = .ok (.iload 5, 2) := by decide +kernel
theorem d_170_37 : decode (mB 170) 37 = .ok (.iload 4, 2) := by decide +kernel
theorem d_170_39 : decode (mB 170) 39 = .ok (.if_icmp .ge 76, 3) := by decide +kernel
theorem d_170_42 : decode (mB 170) 42 = .ok (.iconst 0, 1) := by decide +kernel
theorem d_170_43 : decode (mB 170) 43 = .ok (.istore 6, 2) := by decide +kernel
theorem d_170_45 : decode (mB 170) 45 = .ok (.iload 6, 2) := by decide +kernel
theorem d_170_47 : decode (mB 170) 47 = .ok (.iconst 2, 1) := by decide +kernel
theorem d_170_48 : decode (mB 170) 48 = .ok (.if_icmp .ge 61, 3) := by decide +kernel
theorem d_170_51 : decode (mB 170) 51 = .ok (.aload_n 0, 1) := by decide +kernel
theorem d_170_52 : decode (mB 170) 52 = .ok (.getfield 51, 3) := by decide +kernel
theorem d_170_55 : decode (mB 170) 55 = .ok (.iload_n 3, 1) := by decide +kernel
theorem d_170_56 : decode (mB 170) 56 = .ok (.iload 5, 2) := by decide +kernel
theorem d_170_58 : decode (mB 170) 58 = .ok (.iload 6, 2) := by decide +kernel
theorem d_170_60 : decode (mB 170) 60 = .ok (.iconst 0, 1) := by decide +kernel
theorem d_170_61 : decode (mB 170) 61 = .ok (.invokestatic 168, 3) := by decide +kernel
theorem d_170_64 : decode (mB 170) 64 = .ok (.iaload, 1) := by decide +kernel
theorem d_170_65 : decode (mB 170) 65 = .ok (.ifCond .eq 38, 3) := by decide +kernel
theorem d_170_68 : decode (mB 170) 68 = .ok (.aload_n 0, 1) := by decide +kernel
theorem d_170_69 : decode (mB 170) 69 = .ok (.getfield 51, 3) := by decide +kernel
theorem d_170_72 : decode (mB 170) 72 = .ok (.iload_n 3, 1) := by decide +kernel
theorem d_170_73 : decode (mB 170) 73 = .ok (.iload 5, 2) := by decide +kernel
theorem d_170_75 : decode (mB 170) 75 = .ok (.iload 6, 2) := by decide +kernel
theorem d_170_77 : decode (mB 170) 77 = .ok (.bipush 6, 2) := by decide +kernel
theorem d_170_79 : decode (mB 170) 79 = .ok (.invokestatic 168, 3) := by decide +kernel
theorem d_170_82 : decode (mB 170) 82 = .ok (.iaload, 1) := by decide +kernel
theorem d_170_83 : decode (mB 170) 83 = .ok (.iload_n 2, 1) := by decide +kernel
theorem d_170_84 : decode (mB 170) 84 = .ok (.if_icmp .le 19, 3) := by decide +kernel
theorem d_170_87 : decode (mB 170) 87 = .ok (.aload_n 0, 1) := by decide +kernel
theorem d_170_88 : decode (mB 170) 88 = .ok (.getfield 51, 3) := by decide +kernel
theorem d_170_91 : decode (mB 170) 91 = .ok (.iload_n 3, 1) := by decide +kernel
theorem d_170_92 : decode (mB 170) 92 = .ok (.iload 5, 2) := by decide +kernel
theorem d_170_94 : decode (mB 170) 94 = .ok (.iload 6, 2) := by decide +kernel
theorem d_170_96 : decode (mB 170) 96 = .ok (.bipush 6, 2) := by decide +kernel
theorem d_170_98 : decode (mB 170) 98 = .ok (.invokestatic 168, 3) := by decide +kernel
theorem d_170_101 : decode (mB 170) 101 = .ok (.iaload, 1) := by decide +kernel
theorem d_170_102 : decode (mB 170) 102 = .ok (.istore_n 2, 1) := by decide +kernel
theorem d_170_103 : decode (mB 170) 103 = .ok (.iinc 6 1, 3) := by decide +kernel
theorem d_170_106 : decode (mB 170) 106 = .ok (.goto (-61), 3) := by decide +kernel
theorem d_170_109 : decode (mB 170) 109 = .ok (.iinc 5 1, 3) := by decide +kernel
theorem d_170_112 : decode (mB 170) 112 = .ok (.goto (-77), 3) := by decide +kernel
theorem d_170_115 : decode (mB 170) 115 = .ok (.iinc 3 1, 3) := by decide +kernel
theorem d_170_118 : decode (mB 170) 118 = .ok (.goto (-114), 3) := by decide +kernel
theorem d_170_121 : decode (mB 170) 121 = .ok (.iload_n 2, 1) := by decide +kernel
theorem d_170_122 : decode (mB 170) 122 = .ok (.ireturn, 1) := by decide +kernel
theorem d_171_0 : decode (mB 171) 0 = .ok (.aload_n 0, 1) := by decide +kernel
theorem d_171_1 : decode (mB 171) 1 = .ok (.getfield 35, 3) := by decide +kernel
theorem d_171_4 : decode (mB 171) 4 = .ok (.iload_n 2, 1) := by decide +kernel
theorem d_171_5 : decode (mB 171) 5 = .ok (.iload_n 1, 1) := by decide +kernel
theorem d_171_6 : decode (mB 171) 6 = .ok (.iastore, 1) := by decide +kernel
theorem d_171_7 : decode (mB 171) 7 = .ok (.aload_n 0, 1) := by decide +kernel
theorem d_171_8 : decode (mB 171) 8 = .ok (.getfield 17, 3) := by decide +kernel
theorem d_171_11 : decode (mB 171) 11 = .ok (.bipush 8, 2) := by decide +kernel
theorem d_171_13 : decode (mB 171) 13 = .ok (.iload_n 1, 1) := by decide +kernel
theorem d_171_14 : decode (mB 171) 14 = .ok (.imul, 1) := by decide +kernel
theorem d_171_15 : decode (mB 171) 15 = .ok (.iload_n 2, 1) := by decide +kernel
theorem d_171_16 : decode (mB 171) 16 = .ok (.iadd, 1) := by decide +kernel
theorem d_171_17 : decode (mB 171) 17 = .ok (.iconst 1, 1) := by decide +kernel
theorem d_171_18 : decode (mB 171) 18 = .ok (.bastore, 1) := by decide +kernel
theorem d_171_19 : decode (mB 171) 19 = .ok (.aload_n 0, 1) := by decide +kernel
theorem d_171_20 : decode (mB 171) 20 = .ok (.iload_n 3, 1) := by decide +kernel
theorem d_171_21 : decode (mB 171) 21 = .ok (.invokevirtual 362, 3) := by decide +kernel
theorem d_171_24 : decode (mB 171) 24 = .ok (.istore 4, 2) := by decide +kernel
theorem d_171_26 : decode (mB 171) 26 = .ok (.iload 4, 2) := by decide +kernel
theorem d_171_28 : decode (mB 171) 28 = .ok (.aload_n 0, 1) := by decide +kernel
theorem d_171_29 : decode (mB 171) 29 = .ok (.getfield 23, 3) := by decide +kernel
theorem d_171_32 : decode (mB 171) 32 = .ok (.iload_n 1, 1) := by decide +kernel
theorem d_171_33 : decode (mB 171) 33 = .ok (.iaload, 1) := by decide +kernel
theorem d_171_34 : decode (mB 171) 34 = .ok (.if_icmp .le 19, 3) := by decide +kernel
theorem d_171_37 : decode (mB 171) 37 = .ok (.aload_n 0, 1) := by decide +kernel
theorem d_171_38 : decode (mB 171) 38 = .ok (.getfield 23, 3) := by decide +kernel
theorem d_171_41 : decode (mB 171) 41 = .ok (.iload_n 1, 1) := by decide +kernel
theorem d_171_42 : decode (mB 171) 42 = .ok (.iload 4, 2) := by decide +kernel
theorem d_171_44 : decode (mB 171) 44 = .ok (.iastore, 1) := by decide +kernel
theorem d_171_45 : decode (mB 171) 45 = .ok (.aload_n 0, 1) := by decide +kernel
theorem d_171_46 : decode (mB 171) 46 = .ok (.iload_n 1, 1) := by decide +kernel
theorem d_171_47 : decode (mB 171) 47 = .ok (.iconst 1, 1) := by decide +kernel
theorem d_171_48 : decode (mB 171) 48 = .ok (.invokevirtual 268, 3) := by decide +kernel
theorem d_171_51 : decode (mB 171) 51 = .ok (.istore 5, 2) := by decide +kernel
theorem d_171_53 : decode (mB 171) 53 = .ok (.iconst 0, 1) := by decide +kernel
theorem d_171_54 : decode (mB 171) 54 = .ok (.istore 5, 2) := by decide +kernel
theorem d_171_56 : decode (mB 171) 56 = .ok (.iload 5, 2) := by decide +kernel
theorem d_171_58 : decode (mB 171) 58 = .ok (.bipush 6, 2) := by decide +kernel
theorem d_171_60 : decode (mB 171) 60 = .ok (.if_icmp .ge 71, 3) := by decide +kernel
theorem d_171_63 : decode (mB 171) 63 = .ok (.aload_n 0, 1) := by decide +kernel
theorem d_171_64 : decode (mB 171) 64 = .ok (.iload_n 3, 1) := by decide +kernel
theorem d_171_65 : decode (mB 171) 65 = .ok (.iload 5, 2) := by decide +kernel
theorem d_171_67 : decode (mB 171) 67 = .ok (.invokevirtual 205, 3) := by decide +kernel
theorem d_171_70 : decode (mB 171) 70 = .ok (.istore 6, 2) := by decide +kernel
theorem d_171_72 : decode (mB 171) 72 = .ok (.iload 6, 2) := by decide +kernel
theorem d_171_74 : decode (mB 171) 74 = .ok (.aload_n 0, 1) := by decide +kernel
theorem d_171_75 : decode (mB 171) 75 = .ok (.iload_n 1, 1) := by decide +kernel
theorem d_171_76 : decode (mB 171) 76 = .ok (.iload 5, 2) := by decide +kernel
theorem d_171_78 : decode (mB 171) 78 = .ok (.invokevirtual 205, 3) := by decide +kernel
theorem d_171_81 : decode (mB 171) 81 = .ok (.if_icmp .gt 6, 3) := by decide +kernel
theorem d_171_84 : decode (mB 171) 84 = .ok (.goto 41, 3) := by decide +kernel
theorem d_171_87 : decode (mB 171) 87 = .ok (.aload_n 0, 1) := by decide +kernel
theorem d_171_88 : decode (mB 171) 88 = .ok (.invokevirtual 219, 3) := by decide +kernel
theorem d_171_91 : decode (mB 171) 91 = .ok (.aload_n 0, 1) := by decide +kernel
theorem d_171_92 : decode (mB 171) 92 = .ok (.getfield 64, 3) := by decide +kernel
theorem d_171_95 : decode (mB 171) 95 = .ok (.iconst 0, 1) := by decide +kernel
theorem d_171_96 : decode (mB 171) 96 = .ok (.iconst 2, 1) := by decide +kernel
theorem d_171_97 : decode (mB 171) 97 = .ok (.iastore, 1) := by decide +kernel
theorem d_171_98 : decode (mB 171) 98 = .ok (.aload_n 0, 1) := by decide +kernel
theorem d_171_99 : decode (mB 171) 99 = .ok (.getfield 64, 3) := by decide +kernel
theorem d_171_102 : decode (mB 171) 102 = .ok (.iconst 1, 1) := by decide +kernel
theorem d_171_103 : decode (mB 171) 103 = .ok (.iload 5, 2) := by decide +kernel
theorem d_171_105 : decode (mB 171) 105 = .ok (.iastore, 1) := by decide +kernel
theorem d_171_106 : decode (mB 171) 106 = .ok (.aload_n 0, 1) := by decide +kernel
theorem d_171_107 : decode (mB 171) 107 = .ok (.getfield 64, 3) := by decide +kernel
theorem d_171_110 : decode (mB 171) 110 = .ok (.bipush 7, 2) := by decide +kernel
theorem d_171_112 : decode (mB 171) 112 = .ok (.iload 6, 2) := by decide +kernel
theorem d_171_114 : decode (mB 171) 114 = .ok (.iastore, 1) := by decide +kernel
theorem d_171_115 : decode (mB 171) 115 = .ok (.aload_n 0, 1) := by decide +kernel
theorem d_171_116 : decode (mB 171) 116 = .ok (.iload_n 1, 1) := by decide +kernel
theorem d_171_117 : decode (mB 171) 117 = .ok (.iconst 1, 1) := by decide +kernel
theorem d_171_118 : decode (mB 171) 118 = .ok (.bipush 8, 2) := by decide +kernel
theorem d_171_120 : decode (mB 171) 120 = .ok (.invokevirtual 312, 3) := by decide +kernel
theorem d_171_123 : decode (mB 171) 123 = .ok (.istore 7, 2) := by decide +kernel
theorem d_171_125 : decode (mB 171) 125 = .ok (.iinc 5 1, 3) := by decide +kernel
theorem d_171_128 : decode (mB 171) 128 = .ok (.goto (-72), 3) := by decide +kernel
theorem d_171_131 : decode (mB 171) 131 = .ok (.bipush 8, 2) := by decide +kernel
theorem d_171_133 : decode (mB 171) 133 = .ok (.iload_n 2, 1) := by decide +kernel
theorem d_171_134 : decode (mB 171) 134 = .ok (.imul, 1) := by decide +kernel
theorem d_171_135 : decode (mB 171) 135 = .ok (.istore 5, 2) := by decide +kernel
theorem d_171_137 : decode (mB 171) 137 = .ok (.iload 5, 2) := by decide +kernel
theorem d_171_139 : decode (mB 171) 139 = .ok (.bipush 8, 2) := by decide +kernel
theorem d_171_141 : decode (mB 171) 141 = .ok (.iload_n 2, 1) := by decide +kernel
theorem d_171_142 : decode (mB 171) 142 = .ok (.imul, 1) := by decide +kernel
theorem d_171_143 : decode (mB 171) 143 = .ok (.bipush 8, 2) := by decide +kernel
theorem d_171_145 : decode (mB 171) 145 = .ok (.iadd, 1) := by decide +kernel
theorem d_171_146 : decode (mB 171) 146 = .ok (.if_icmp .ge 43, 3) := by decide +kernel
theorem d_171_149 : decode (mB 171) 149 = .ok (.aload_n 0, 1) := by decide +kernel
theorem d_171_150 : decode (mB 171) 150 = .ok (.iload_n 3, 1) := by decide +kernel
theorem d_171_151 : decode (mB 171) 151 = .ok (.iload 5, 2) := by decide +kernel
theorem d_171_153 : decode (mB 171) 153 = .ok (.invokevirtual 272, 3) := by decide +kernel
theorem d_171_156 : decode (mB 171) 156 = .ok (.istore 6, 2) := by decide +kernel
theorem d_171_158 : decode (mB 171) 158 = .ok (.iload 6, 2) := by decide +kernel
theorem d_171_160 : decode (mB 171) 160 = .ok (.iconst (-1), 1) := by decide +kernel
theorem d_171_161 : decode (mB 171) 161 = .ok (.if_icmp .ne 6, 3) := by decide +kernel
theorem d_171_164 : decode (mB 171) 164 = .ok (.goto 19, 3) := by decide +kernel
theorem d_171_167 : decode (mB 171) 167 = .ok (.aload_n 0, 1) := by decide +kernel
theorem d_171_168 : decode (mB 171) 168 = .ok (.iload 6, 2) := by decide +kernel
theorem d_171_170 : decode (mB 171) 170 = .ok (.invokevirtual 232, 3) := by decide +kernel
theorem d_171_173 : decode (mB 171) 173 = .ok (.aload_n 0, 1) := by decide +kernel
theorem d_171_174 : decode (mB 171) 174 = .ok (.iload_n 1, 1) := by decide +kernel
theorem d_171_175 : decode (mB 171) 175 = .ok (.iconst 1, 1) := by decide +kernel
theorem d_171_176 : decode (mB 171) 176 = .ok (.bipush 8, 2) := by decide +kernel
theorem d_171_178 : decode (mB 171) 178 = .ok (.invokevirtual 312, 3) := by decide +kernel
theorem d_171_181 : decode (mB 171) 181 = .ok (.istore 7, 2) := by decide +kernel
theorem d_171_183 : decode (mB 171) 183 = .ok (.iinc 5 1, 3) := by decide +kernel
theorem d_171_186 : decode (mB 171) 186 = .ok (.goto (-49), 3) := by decide +kernel
theorem d_171_189 : decode (mB 171) 189 = .ok (.iconst 0, 1) := by decide +kernel
theorem d_171_190 : decode (mB 171) 190 = .ok (.istore 5, 2) := by decide +kernel
theorem d_171_192 : decode (mB 171) 192 = .ok (.iload 5, 2) := by decide +kernel
theorem d_171_194 : decode (mB 171) 194 = .ok (.bipush 6, 2) := by decide +kernel
theorem d_171_196 : decode (mB 171) 196 = .ok (.if_icmp .ge 83, 3) := by decide +kernel
theorem d_171_199 : decode (mB 171) 199 = .ok (.aload_n 0, 1) := by decide +kernel
theorem d_171_200 : decode (mB 171) 200 = .ok (.iload_n 3, 1) := by decide +kernel
theorem d_171_201 : decode (mB 171) 201 = .ok (.iload 5, 2) := by decide +kernel
theorem d_171_203 : decode (mB 171) 203 = .ok (.invokevirtual 205, 3) := by decide +kernel
theorem d_171_206 : decode (mB 171) 206 = .ok (.istore 6, 2) := by decide +kernel
theorem d_171_208 : decode (mB 171) 208 = .ok (.iload 6, 2) := by decide +kernel
theorem d_171_210 : decode (mB 171) 210 = .ok (.bipush 40, 2) := by decide +kernel
theorem d_171_212 : decode (mB 171) 212 = .ok (.if_icmp .gt 61, 3) := by decide +kernel
theorem d_171_215 : decode (mB 171) 215 = .ok (.aload_n 0, 1) := by decide +kernel
theorem d_171_216 : decode (mB 171) 216 = .ok (.iload_n 3, 1) := by decide +kernel
theorem d_171_217 : decode (mB 171) 217 = .ok (.iload 5, 2) := by decide +kernel
theorem d_171_219 : decode (mB 171) 219 = .ok (.iload 6, 2) := by decide +kernel
theorem d_171_221 : decode (mB 171) 221 = .ok (.invokevirtual 305, 3) := by decide +kernel
theorem d_171_224 : decode (mB 171) 224 = .ok (.istore 7, 2) := by decide +kernel
theorem d_171_226 : decode (mB 171) 226 = .ok (.iload 7, 2) := by decide +kernel
theorem d_171_228 : decode (mB 171) 228 = .ok (.iconst (-1), 1) := by decide +kernel
theorem d_171_229 : decode (mB 171) 229 = .ok (.if_icmp .eq 38, 3) := by decide +kernel
theorem d_171_232 : decode (mB 171) 232 = .ok (.aload_n 0, 1) := by decide +kernel
theorem d_171_233 : decode (mB 171) 233 = .ok (.getfield 51, 3) := by decide +kernel
theorem d_171_236 : decode (mB 171) 236 = .ok (.iload 7, 2) := by decide +kernel
theorem d_171_238 : decode (mB 171) 238 = .ok (.iconst 3, 1) := by decide +kernel
theorem d_171_239 : decode (mB 171) 239 = .ok (.iadd, 1) := by decide +kernel
theorem d_171_240 : decode (mB 171) 240 = .ok (.iaload, 1) := by decide +kernel
theorem d_171_241 : decode (mB 171) 241 = .ok (.bipush 8, 2) := by decide +kernel
theorem d_171_243 : decode (mB 171) 243 = .ok (.idiv, 1) := by decide +kernel
theorem d_171_244 : decode (mB 171) 244 = .ok (.iload_n 2, 1) := by decide +kernel
theorem d_171_245 : decode (mB 171) 245 = .ok (.if_icmp .eq 6, 3) := by decide +kernel
theorem d_171_248 : decode (mB 171) 248 = .ok (.goto 19, 3) := by decide +kernel
theorem d_171_251 : decode (mB 171) 251 = .ok (.aload_n 0, 1) := by decide +kernel
theorem d_171_252 : decode (mB 171) 252 = .ok (.iload 7, 2) := by decide +kernel
theorem d_171_254 : decode (mB 171) 254 = .ok (.invokevirtual 232, 3) := by decide +kernel
theorem d_171_257 : decode (mB 171) 257 = .ok (.aload_n 0, 1) := by decide +kernel
theorem d_171_258 : decode (mB 171) 258 = .ok (.iload_n 1, 1) := by decide +kernel
theorem d_171_259 : decode (mB 171) 259 = .ok (.iconst 1, 1) := by decide +kernel
theorem d_171_260 : decode (mB 171) 260 = .ok (.bipush 8, 2) := by decide +kernel
theorem d_171_262 : decode (mB 171) 262 = .ok (.invokevirtual 312, 3) := by decide +kernel
theorem d_171_265 : decode (mB 171) 265 = .ok (.istore 8, 2) := by decide +kernel
theorem d_171_267 : decode (mB 171) 267 = .ok (.iinc 6 1, 3) := by decide +kernel
theorem d_171_270 : decode (mB 171) 270 = .ok (.goto (-62), 3) := by decide +kernel
theorem d_171_273 : decode (mB 171) 273 = .ok (.iinc 5 1, 3) := by decide +kernel
theorem d_171_276 : decode (mB 171) 276 = .ok (.goto (-84), 3) := by decide +kernel
theorem d_171_279 : decode (mB 171) 279 = .ok (.return_, 1) := by decide +kernel
theorem d_172_0 : decode (mB 172) 0 = .ok (.aload_n 0, 1) := by decide +kernel
theorem d_172_1 : decode (mB 172) 1 = .ok (.getfield 134, 3) := by decide +kernel
theorem d_172_4 : decode (mB 172) 4 = .ok (.iload_n 1, 1) := by decide +kernel
theorem d_172_5 : decode (mB 172) 5 = .ok (.iaload, 1) := by decide +kernel
theorem d_172_6 : decode (mB 172) 6 = .ok (.istore_n 2, 1) := by decide +kernel
theorem d_172_7 : decode (mB 172) 7 = .ok (.aload_n 0, 1) := by decide +kernel
theorem d_172_8 : decode (mB 172) 8 = .ok (.iconst (-1), 1) := by decide +kernel
theorem d_172_9 : decode (mB 172) 9 = .ok (.invokevirtual 246, 3) := by decide +kernel
theorem d_172_12 : decode (mB 172) 12 = .ok (.aload_n 0, 1) := by decide +kernel
theorem d_172_13 : decode (mB 172) 13 = .ok (.getfield 148, 3) := by decide +kernel
theorem d_172_16 : decode (mB 172) 16 = .ok (.iconst 1, 1) := by decide +kernel
theorem d_172_17 : decode (mB 172) 17 = .ok (.iadd, 1) := by decide +kernel
theorem d_172_18 : decode (mB 172) 18 = .ok (.if_icmp .lt 11, 3) := by decide +kernel
theorem d_172_21 : decode (mB 172) 21 = .ok (.aload_n 0, 1) := by decide +kernel
theorem d_172_22 : decode (mB 172) 22 = .ok (.iload_n 2, 1) := by decide +kernel
theorem d_172_23 : decode (mB 172) 23 = .ok (.invokevirtual 365, 3) := by decide +kernel
theorem d_172_26 : decode (mB 172) 26 = .ok (.ifCond .ne 5, 3) := by decide +kernel
theorem d_172_29 : decode (mB 172) 29 = .ok (.iconst 0, 1) := by decide +kernel
theorem d_172_30 : decode (mB 172) 30 = .ok (.ireturn, 1) := by decide +kernel
theorem d_172_31 : decode (mB 172) 31 = .ok (.iconst 0, 1) := by decide +kernel
theorem d_172_32 : decode (mB 172) 32 = .ok (.istore_n 3, 1) := by decide +kernel
theorem d_172_33 : decode (mB 172) 33 = .ok (.iload_n 3, 1) := by decide +kernel
theorem d_172_34 : decode (mB 172) 34 = .ok (.bipush 8, 2) := by decide +kernel
theorem d_172_36 : decode (mB 172) 36 = .ok (.if_icmp .ge 60, 3) := by decide +kernel
theorem d_172_39 : decode (mB 172) 39 = .ok (.aload_n 0, 1) := by decide +kernel
theorem d_172_40 : decode (mB 172) 40 = .ok (.getfield 137, 3) := by decide +kernel
theorem d_172_43 : decode (mB 172) 43 = .ok (.bipush 8, 2) := by decide +kernel
theorem d_172_45 : decode (mB 172) 45 = .ok (.iload_n 1, 1) := by decide +kernel
theorem d_172_46 : decode (mB 172) 46 = .ok (.imul, 1) := by decide +kernel
theorem d_172_47 : decode (mB 172) 47 = .ok (.iload_n 3, 1) := by decide +kernel
theorem d_172_48 : decode (mB 172) 48 = .ok (.iadd, 1) := by decide +kernel
theorem d_172_49 : decode (mB 172) 49 = .ok (.baload, 1) := by decide +kernel
theorem d_172_50 : decode (mB 172) 50 = .ok (.ifCond .ne 6, 3) := by decide +kernel
theorem d_172_53 : decode (mB 172) 53 = .ok (.goto 37, 3) := by decide +kernel
theorem d_172_56 : decode (mB 172) 56 = .ok (.aload_n 0, 1) := by decide +kernel
theorem d_172_57 : decode (mB 172) 57 = .ok (.invokevirtual 368, 3) := by decide +kernel
theorem d_172_60 : decode (mB 172) 60 = .ok (.istore 4, 2) := by decide +kernel
theorem d_172_62 : decode (mB 172) 62 = .ok (.iload 4, 2) := by decide +kernel
theorem d_172_64 : decode (mB 172) 64 = .ok (.iconst (-1), 1) := by decide +kernel
theorem d_172_65 : decode (mB 172) 65 = .ok (.if_icmp .ne 5, 3) := by decide +kernel
theorem d_172_68 : decode (mB 172) 68 = .ok (.iconst 0, 1) := by decide +kernel
theorem d_172_69 : decode (mB 172) 69 = .ok (.ireturn, 1) := by decide +kernel
theorem d_172_70 : decode (mB 172) 70 = .ok (.aload_n 0, 1) := by decide +kernel
theorem d_172_71 : decode (mB 172) 71 = .ok (.iload 4, 2) := by decide +kernel
theorem d_172_73 : decode (mB 172) 73 = .ok (.iload_n 3, 1) := by decide +kernel
theorem d_172_74 : decode (mB 172) 74 = .ok (.iload_n 2, 1) := by decide +kernel
theorem d_172_75 : decode (mB 172) 75 = .ok (.invokevirtual 371, 3) := by decide +kernel
theorem d_172_78 : decode (mB 172) 78 = .ok (.aload_n 0, 1) := by decide +kernel
theorem d_172_79 : decode (mB 172) 79 = .ok (.getfield 137, 3) := by decide +kernel
theorem d_172_82 : decode (mB 172) 82 = .ok (.bipush 8, 2) := by decide +kernel
theorem d_172_84 : decode (mB 172) 84 = .ok (.iload_n 1, 1) := by decide +kernel
theorem d_172_85 : decode (mB 172) 85 = .ok (.imul, 1) := by decide +kernel
theorem d_172_86 : decode (mB 172) 86 = .ok (.iload_n 3, 1) := by decide +kernel
theorem d_172_87 : decode (mB 172) 87 = .ok (.iadd, 1) := by decide +kernel
theorem d_172_88 : decode (mB 172) 88 = .ok (.iconst 0, 1) := by decide +kernel
theorem d_172_89 : decode (mB 172) 89 = .ok (.bastore, 1) := by decide +kernel
theorem d_172_90 : decode (mB 172) 90 = .ok (.iinc 3 1, 3) := by decide +kernel
theorem d_172_93 : decode (mB 172) 93 = .ok (.goto (-60), 3) := by decide +kernel
theorem d_172_96 : decode (mB 172) 96 = .ok (.iconst 0, 1) := by decide +kernel
theorem d_172_97 : decode (mB 172) 97 = .ok (.istore_n 3, 1) := by decide +kernel
theorem d_172_98 : decode (mB 172) 98 = .ok (.iload_n 3, 1) := by decide +kernel
theorem d_172_99 : decode (mB 172) 99 = .ok (.aload_n 0, 1) := by decide +kernel
theorem d_172_100 : decode (mB 172) 100 = .ok (.getfield 180, 3) := by decide +kernel
theorem d_172_103 : decode (mB 172) 103 = .ok (.if_icmp .ge 27, 3) := by decide +kernel
theorem d_172_106 : decode (mB 172) 106 = .ok (.aload_n 0, 1) := by decide +kernel
theorem d_172_107 : decode (mB 172) 107 = .ok (.getfield 38, 3) := by decide +kernel
theorem d_172_110 : decode (mB 172) 110 = .ok (.iload_n 3, 1) := by decide +kernel
theorem d_172_111 : decode (mB 172) 111 = .ok (.iaload, 1) := by decide +kernel
theorem d_172_112 : decode (mB 172) 112 = .ok (.iload_n 2, 1) := by decide +kernel
theorem d_172_113 : decode (mB 172) 113 = .ok (.if_icmp .ne 11, 3) := by decide +kernel
theorem d_172_116 : decode (mB 172) 116 = .ok (.aload_n 0, 1) := by decide +kernel
theorem d_172_117 : decode (mB 172) 117 = .ok (.getfield 38, 3) := by decide +kernel
theorem d_172_120 : decode (mB 172) 120 = .ok (.iload_n 3, 1) := by decide +kernel
theorem d_172_121 : decode (mB 172) 121 = .ok (.bipush 99, 2) := by decide +kernel
theorem d_172_123 : decode (mB 172) 123 = .ok (.iastore, 1) := by decide +kernel
theorem d_172_124 : decode (mB 172) 124 = .ok (.iinc 3 1, 3) := by decide +kernel
theorem d_172_127 : decode (mB 172) 127 = .ok (.goto (-29), 3) := by decide +kernel
theorem d_172_130 : decode (mB 172) 130 = .ok (.iconst 1, 1) := by decide +kernel
theorem d_172_131 : decode (mB 172) 131 = .ok (.ireturn, 1) := by decide +kernel
theorem d_173_0 : decode (mB 173) 0 = .ok (.aload_n 0, 1) := by decide +kernel
theorem d_173_1 : decode (mB 173) 1 = .ok (.dup, 1) := by decide +kernel
theorem d_173_2 : decode (mB 173) 2 = .ok (.getfield 353, 3) := by decide +kernel
theorem d_173_5 : decode (mB 173) 5 = .ok (.iconst 1, 1) := by decide +kernel
theorem d_173_6 : decode (mB 173) 6 = .ok (.isub, 1) := by decide +kernel
theorem d_173_7 : decode (mB 173) 7 = .ok (.putfield 353, 3) := by decide +kernel
theorem d_173_10 : decode (mB 173) 10 = .ok (.iload_n 1, 1) := by decide +kernel
theorem d_173_11 : decode (mB 173) 11 = .ok (.istore_n 2, 1) := by decide +kernel
theorem d_173_12 : decode (mB 173) 12 = .ok (.iload_n 2, 1) := by decide +kernel
theorem d_173_13 : decode (mB 173) 13 = .ok (.aload_n 0, 1) := by decide +kernel
theorem d_173_14 : decode (mB 173) 14 = .ok (.getfield 353, 3) := by decide +kernel
theorem d_173_17 : decode (mB 173) 17 = .ok (.if_icmp .ge 61, 3) := by decide +kernel
theorem d_173_20 : decode (mB 173) 20 = .ok (.aload_n 0, 1) := by decide +kernel
theorem d_173_21 : decode (mB 173) 21 = .ok (.getfield 134, 3) := by decide +kernel
theorem d_173_24 : decode (mB 173) 24 = .ok (.iload_n 2, 1) := by decide +kernel
theorem d_173_25 : decode (mB 173) 25 = .ok (.aload_n 0, 1) := by decide +kernel
theorem d_173_26 : decode (mB 173) 26 = .ok (.getfield 134, 3) := by decide +kernel
theorem d_173_29 : decode (mB 173) 29 = .ok (.iload_n 2, 1) := by decide +kernel
theorem d_173_30 : decode (mB 173) 30 = .ok (.iconst 1, 1) := by decide +kernel
theorem d_173_31 : decode (mB 173) 31 = .ok (.iadd, 1) := by decide +kernel
theorem d_173_32 : decode (mB 173) 32 = .ok (.iaload, 1) := by decide +kernel
theorem d_173_33 : decode (mB 173) 33 = .ok (.iastore, 1) := by decide +kernel
theorem d_173_34 : decode (mB 173) 34 = .ok (.iconst 0, 1) := by decide +kernel
theorem d_173_35 : decode (mB 173) 35 = .ok (.istore_n 3, 1) := by decide +kernel
theorem d_173_36 : decode (mB 173) 36 = .ok (.iload_n 3, 1) := by decide +kernel
theorem d_173_37 : decode (mB 173) 37 = .ok (.bipush 8, 2) := by decide +kernel
theorem d_173_39 : decode (mB 173) 39 = .ok (.if_icmp .ge 33, 3) := by decide +kernel
theorem d_173_42 : decode (mB 173) 42 = .ok (.aload_n 0, 1) := by decide +kernel
theorem d_173_43 : decode (mB 173) 43 = .ok (.getfield 137, 3) := by decide +kernel
theorem d_173_46 : decode (mB 173) 46 = .ok (.bipush 8, 2) := by decide +kernel
theorem d_173_48 : decode (mB 173) 48 = .ok (.iload_n 2, 1) := by decide +kernel
theorem d_173_49 : decode (mB 173) 49 = .ok (.imul, 1) := by decide +kernel
theorem d_173_50 : decode (mB 173) 50 = .ok (.iload_n 3, 1) := by decide +kernel
theorem d_173_51 : decode (mB 173) 51 = .ok (.iadd, 1) := by decide +kernel
theorem d_173_52 : decode (mB 173) 52 = .ok (.aload_n 0, 1) := by decide +kernel
theorem d_173_53 : decode (mB 173) 53 = .ok (.getfield 137, 3) := by decide +kernel
theorem d_173_56 : decode (mB 173) 56 = .ok (.bipush 8, 2) := by decide +kernel
theorem d_173_58 : decode (mB 173) 58 = .ok (.iload_n 2, 1) := by decide +kernel
theorem d_173_59 : decode (mB 173) 59 = .ok (.iconst 1, 1) := by decide +kernel
theorem d_173_60 : decode (mB 173) 60 = .ok (.iadd, 1) := by decide +kernel
theorem d_173_61 : decode (mB 173) 61 = .ok (.imul, 1) := by decide +kernel
theorem d_173_62 : decode (mB 173) 62 = .ok (.iload_n 3, 1) := by decide +kernel
theorem d_173_63 : decode (mB 173) 63 = .ok (.iadd, 1) := by decide +kernel
theorem d_173_64 : decode (mB 173) 64 = .ok (.baload, 1) := by decide +kernel
theorem d_173_65 : decode (mB 173) 65 = .ok (.bastore, 1) := by decide +kernel
theorem d_173_66 : decode (mB 173) 66 = .ok (.iinc 3 1, 3) := by decide +kernel
theorem d_173_69 : decode (mB 173) 69 = .ok (.goto (-33), 3) := by decide +kernel
theorem d_173_72 : decode (mB 173) 72 = .ok (.iinc 2 1, 3) := by decide +kernel
theorem d_173_75 : decode (mB 173) 75 = .ok (.goto (-63), 3) := by decide +kernel
theorem d_173_78 : decode (mB 173) 78 = .ok (.return_, 1) := by decide +kernel
theorem d_174_0 : decode (mB 174) 0 = .ok (.aload_n 0, 1) := by decide +kernel
theorem d_174_1 : decode (mB 174) 1 = .ok (.dup, 1) := by decide +kernel
theorem d_174_2 : decode (mB 174) 2 = .ok (.getfield 374, 3) := by decide +kernel
theorem d_174_5 : decode (mB 174) 5 = .ok (.iconst 1, 1) := by decide +kernel
theorem d_174_6 : decode (mB 174) 6 = .ok (.iadd, 1) := by decide +kernel
theorem d_174_7 : decode (mB 174) 7 = .ok (.putfield 374, 3) := by decide +kernel
theorem d_174_10 : decode (mB 174) 10 = .ok (.iconst 0, 1) := by decide +kernel
theorem d_174_11 : decode (mB 174) 11 = .ok (.istore_n 1, 1) := by decide +kernel
theorem d_174_12 : decode (mB 174) 12 = .ok (.iload_n 1, 1) := by decide +kernel
theorem d_174_13 : decode (mB 174) 13 = .ok (.aload_n 0, 1) := by decide +kernel
theorem d_174_14 : decode (mB 174) 14 = .ok (.getfield 144, 3) := by decide +kernel
theorem d_174_17 : decode (mB 174) 17 = .ok (.if_icmp .ge 14, 3) := by decide +kernel
theorem d_174_20 : decode (mB 174) 20 = .ok (.aload_n 0, 1) := by decide +kernel
theorem d_174_21 : decode (mB 174) 21 = .ok (.iload_n 1, 1) := by decide +kernel
theorem d_174_22 : decode (mB 174) 22 = .ok (.invokevirtual 377, 3) := by decide +kernel
theorem d_174_25 : decode (mB 174) 25 = .ok (.iinc 1 1, 3) := by decide +kernel
theorem d_174_28 : decode (mB 174) 28 = .ok (.goto (-16), 3) := by decide +kernel
theorem d_174_31 : decode (mB 174) 31 = .ok (.aload_n 0, 1) := by decide +kernel
theorem d_174_32 : decode (mB 174) 32 = .ok (.getfield 242, 3) := by decide +kernel
theorem d_174_35 : decode (mB 174) 35 = .ok (.ifCond .eq 5, 3) := by decide +kernel
theorem d_174_38 : decode (mB 174) 38 = .ok (.iconst 0, 1) := by decide +kernel
theorem d_174_39 : decode (mB 174) 39 = .ok (.ireturn, 1) := by decide +kernel
theorem d_174_40 : decode (mB 174) 40 = .ok (.iconst 0, 1) := by decide +kernel
theorem d_174_41 : decode (mB 174) 41 = .ok (.istore_n 1, 1) := by decide +kernel
theorem d_174_42 : decode (mB 174) 42 = .ok (.iload_n 1, 1) := by decide +kernel
theorem d_174_43 : decode (mB 174) 43 = .ok (.aload_n 0, 1) := by decide +kernel
theorem d_174_44 : decode (mB 174) 44 = .ok (.getfield 144, 3) := by decide +kernel
theorem d_174_47 : decode (mB 174) 47 = .ok (.if_icmp .ge 14, 3) := by decide +kernel
theorem d_174_50 : decode (mB 174) 50 = .ok (.aload_n 0, 1) := by decide +kernel
theorem d_174_51 : decode (mB 174) 51 = .ok (.iload_n 1, 1) := by decide +kernel
theorem d_174_52 : decode (mB 174) 52 = .ok (.invokevirtual 380, 3) := by decide +kernel
theorem d_174_55 : decode (mB 174) 55 = .ok (.iinc 1 1, 3) := by decide +kernel
theorem d_174_58 : decode (mB 174) 58 = .ok (.goto (-16), 3) := by decide +kernel
theorem d_174_61 : decode (mB 174) 61 = .ok (.iconst 0, 1) := by decide +kernel
theorem d_174_62 : decode (mB 174) 62 = .ok (.istore_n 1, 1) := by decide +kernel
theorem d_174_63 : decode (mB 174) 63 = .ok (.iconst 0, 1) := by decide +kernel
theorem d_174_64 : decode (mB 174) 64 = .ok (.istore_n 2, 1) := by decide +kernel
theorem d_174_65 : decode (mB 174) 65 = .ok (.iload_n 2, 1) := by decide +kernel
theorem d_174_66 : decode (mB 174) 66 = .ok (.aload_n 0, 1) := by decide +kernel
theorem d_174_67 : decode (mB 174) 67 = .ok (.getfield 353, 3) := by decide +kernel
theorem d_174_70 : decode (mB 174) 70 = .ok (.if_icmp .ge 28, 3) := by decide +kernel
theorem d_174_73 : decode (mB 174) 73 = .ok (.aload_n 0, 1) := by decide +kernel
theorem d_174_74 : decode (mB 174) 74 = .ok (.iload_n 2, 1) := by decide +kernel
theorem d_174_75 : decode (mB 174) 75 = .ok (.invokevirtual 383, 3) := by decide +kernel
theorem d_174_78 : decode (mB 174) 78 = .ok (.ifCond .eq 14, 3) := by decide +kernel
theorem d_174_81 : decode (mB 174) 81 = .ok (.aload_n 0, 1) := by decide +kernel
theorem d_174_82 : decode (mB 174) 82 = .ok (.iload_n 2, 1) := by decide +kernel
theorem d_174_83 : decode (mB 174) 83 = .ok (.invokevirtual 386, 3) := by decide +kernel
theorem d_174_86 : decode (mB 174) 86 = .ok (.iinc 1 1, 3) := by decide +kernel
theorem d_174_89 : decode (mB 174) 89 = .ok (.goto (-24), 3) := by decide +kernel
theorem d_174_92 : decode (mB 174) 92 = .ok (.iinc 2 1, 3) := by decide +kernel
theorem d_174_95 : decode (mB 174) 95 = .ok (.goto (-30), 3) := by decide +kernel
theorem d_174_98 : decode (mB 174) 98 = .ok (.iload_n 1, 1) := by decide +kernel
theorem d_174_99 : decode (mB 174) 99 = .ok (.ireturn, 1) := by decide +kernel
theorem d_175_0 : decode (mB 175) 0 = .ok (.aload_n 0, 1) := by decide +kernel
theorem d_175_1 : decode (mB 175) 1 = .ok (.iconst 0, 1) := by decide +kernel
theorem d_175_2 : decode (mB 175) 2 = .ok (.putfield 157, 3) := by decide +kernel
theorem d_175_5 : decode (mB 175) 5 = .ok (.iload_n 1, 1) := by decide +kernel
theorem d_175_6 : decode (mB 175) 6 = .ok (.iconst 0, 1) := by decide +kernel
theorem d_175_7 : decode (mB 175) 7 = .ok (.bipush 100, 2) := by decide +kernel
theorem d_175_9 : decode (mB 175) 9 = .ok (.invokestatic 160, 3) := by decide +kernel
theorem d_175_12 : decode (mB 175) 12 = .ok (.ifCond .ne 5, 3) := by decide +kernel
theorem d_175_15 : decode (mB 175) 15 = .ok (.iconst (-1), 1) := by decide +kernel
theorem d_175_16 : decode (mB 175) 16 = .ok (.ireturn, 1) := by decide +kernel
theorem d_175_17 : decode (mB 175) 17 = .ok (.iconst 0, 1) := by decide +kernel
theorem d_175_18 : decode (mB 175) 18 = .ok (.istore_n 2, 1) := by decide +kernel
theorem d_175_19 : decode (mB 175) 19 = .ok (.iconst 0, 1) := by decide +kernel
theorem d_175_20 : decode (mB 175) 20 = .ok (.istore_n 3, 1) := by decide +kernel
theorem d_175_21 : decode (mB 175) 21 = .ok (.iload_n 3, 1) := by decide +kernel
theorem d_175_22 : decode (mB 175) 22 = .ok (.iload_n 1, 1) := by decide +kernel
theorem d_175_23 : decode (mB 175) 23 = .ok (.if_icmp .ge 16, 3) := by decide +kernel
theorem d_175_26 : decode (mB 175) 26 = .ok (.iload_n 2, 1) := by decide +kernel
theorem d_175_27 : decode (mB 175) 27 = .ok (.aload_n 0, 1) := by decide +kernel
theorem d_175_28 : decode (mB 175) 28 = .ok (.invokevirtual 389, 3) := by decide +kernel
theorem d_175_31 : decode (mB 175) 31 = .ok (.iadd, 1) := by decide +kernel
theorem d_175_32 : decode (mB 175) 32 = .ok (.istore_n 2, 1) := by decide +kernel
theorem d_175_33 : decode (mB 175) 33 = .ok (.iinc 3 1, 3) := by decide +kernel
theorem d_175_36 : decode (mB 175) 36 = .ok (.goto (-15), 3) := by decide +kernel
theorem d_175_39 : decode (mB 175) 39 = .ok (.iload_n 2, 1) := by decide +kernel
theorem d_175_40 : decode (mB 175) 40 = .ok (.ireturn, 1) := by decide +kernel
theorem d_176_0 : decode (mB 176) 0 = .ok (.aload_n 0, 1) := by decide +kernel
theorem d_176_1 : decode (mB 176) 1 = .ok (.iconst 0, 1) := by decide +kernel
theorem d_176_2 : decode (mB 176) 2 = .ok (.putfield 157, 3) := by decide +kernel
theorem d_176_5 : decode (mB 176) 5 = .ok (.iload_n 1, 1) := by decide +kernel
theorem d_176_6 : decode (mB 176) 6 = .ok (.iconst 0, 1) := by decide +kernel
theorem d_176_7 : decode (mB 176) 7 = .ok (.bipush 7, 2) := by decide +kernel
theorem d_176_9 : decode (mB 176) 9 = .ok (.invokestatic 160, 3) := by decide +kernel
theorem d_176_12 : decode (mB 176) 12 = .ok (.ifCond .eq 12, 3) := by decide +kernel
theorem d_176_15 : decode (mB 176) 15 = .ok (.aload_n 0, 1) := by decide +kernel
theorem d_176_16 : decode (mB 176) 16 = .ok (.getfield 35, 3) := by decide +kernel
theorem d_176_19 : decode (mB 176) 19 = .ok (.iload_n 1, 1) := by decide +kernel
theorem d_176_20 : decode (mB 176) 20 = .ok (.iaload, 1) := by decide +kernel
theorem d_176_21 : decode (mB 176) 21 = .ok (.goto 4, 3) := by decide +kernel
theorem d_176_24 : decode (mB 176) 24 = .ok (.iconst (-1), 1) := by decide +kernel
theorem d_176_25 : decode (mB 176) 25 = .ok (.ireturn, 1) := by decide +kernel
theorem d_177_0 : decode (mB 177) 0 = .ok (.iconst 0, 1) := by decide +kernel
theorem d_177_1 : decode (mB 177) 1 = .ok (.istore_n 2, 1) := by decide +kernel
theorem d_177_2 : decode (mB 177) 2 = .ok (.iconst 0, 1) := by decide +kernel
theorem d_177_3 : decode (mB 177) 3 = .ok (.istore_n 3, 1) := by decide +kernel
theorem d_177_4 : decode (mB 177) 4 = .ok (.iload_n 3, 1) := by decide +kernel
theorem d_177_5 : decode (mB 177) 5 = .ok (.bipush 8, 2) := by decide +kernel
theorem d_177_7 : decode (mB 177) 7 = .ok (.if_icmp .ge 31, 3) := by decide +kernel
theorem d_177_10 : decode (mB 177) 10 = .ok (.iload_n 2, 1) := by decide +kernel
theorem d_177_11 : decode (mB 177) 11 = .ok (.aload_n 0, 1) := by decide +kernel
theorem d_177_12 : decode (mB 177) 12 = .ok (.getfield 17, 3) := by decide +kernel
theorem d_177_15 : decode (mB 177) 15 = .ok (.bipush 8, 2) := by decide +kernel
theorem d_177_17 : decode (mB 177) 17 = .ok (.iload_n 1, 1) := by decide +kernel
theorem d_177_18 : decode (mB 177) 18 = .ok (.imul, 1) := by decide +kernel
theorem d_177_19 : decode (mB 177) 19 = .ok (.iload_n 3, 1) := by decide +kernel
theorem d_177_20 : decode (mB 177) 20 = .ok (.iadd, 1) := by decide +kernel
theorem d_177_21 : decode (mB 177) 21 = .ok (.baload, 1) := by decide +kernel
theorem d_177_22 : decode (mB 177) 22 = .ok (.ifCond .eq 7, 3) := by decide +kernel
theorem d_177_25 : decode (mB 177) 25 = .ok (.iconst 1, 1) := by decide +kernel
theorem d_177_26 : decode (mB 177) 26 = .ok (.goto 4, 3) := by decide +kernel
theorem d_177_29 : decode (mB 177) 29 = .ok (.iconst 0, 1) := by decide +kernel
theorem d_177_30 : decode (mB 177) 30 = .ok (.iadd, 1) := by decide +kernel
theorem d_177_31 : decode (mB 177) 31 = .ok (.istore_n 2, 1) := by decide +kernel
theorem d_177_32 : decode (mB 177) 32 = .ok (.iinc 3 1, 3) := by decide +kernel
theorem d_177_35 : decode (mB 177) 35 = .ok (.goto (-31), 3) := by decide +kernel
theorem d_177_38 : decode (mB 177) 38 = .ok (.iload_n 2, 1) := by decide +kernel
theorem d_177_39 : decode (mB 177) 39 = .ok (.ireturn, 1) := by decide +kernel
theorem d_178_0 : decode (mB 178) 0 = .ok (.iconst 0, 1) := by decide +kernel
theorem d_178_1 : decode (mB 178) 1 = .ok (.istore_n 3, 1) := by decide +kernel
theorem d_178_2 : decode (mB 178) 2 = .ok (.iconst 0, 1) := by decide +kernel
theorem d_178_3 : decode (mB 178) 3 = .ok (.istore 4, 2) := by decide +kernel
theorem d_178_5 : decode (mB 178) 5 = .ok (.iconst 0, 1) := by decide +kernel
theorem d_178_6 : decode (mB 178) 6 = .ok (.istore 5, 2) := by decide +kernel
theorem d_178_8 : decode (mB 178) 8 = .ok (.iconst 0, 1) := by decide +kernel
theorem d_178_9 : decode (mB 178) 9 = .ok (.istore 6, 2) := by decide +kernel
theorem d_178_11 : decode (mB 178) 11 = .ok (.iconst 0, 1) := by decide +kernel
theorem d_178_12 : decode (mB 178) 12 = .ok (.istore 7, 2) := by decide +kernel
theorem d_178_14 : decode (mB 178) 14 = .ok (.iload 7, 2) := by decide +kernel
theorem d_178_16 : decode (mB 178) 16 = .ok (.aload_n 0, 1) := by decide +kernel
theorem d_178_17 : decode (mB 178) 17 = .ok (.getfield 180, 3) := by decide +kernel
theorem d_178_20 : decode (mB 178) 20 = .ok (.if_icmp .ge 84, 3) := by decide +kernel
theorem d_178_23 : decode (mB 178) 23 = .ok (.aload_n 0, 1) := by decide +kernel
theorem d_178_24 : decode (mB 178) 24 = .ok (.getfield 38, 3) := by decide +kernel
theorem d_178_27 : decode (mB 178) 27 = .ok (.iload 7, 2) := by decide +kernel
theorem d_178_29 : decode (mB 178) 29 = .ok (.iaload, 1) := by decide +kernel
theorem d_178_30 : decode (mB 178) 30 = .ok (.bipush 99, 2) := by decide +kernel
theorem d_178_32 : decode (mB 178) 32 = .ok (.if_icmp .eq 16, 3) := by decide +kernel
theorem d_178_35 : decode (mB 178) 35 = .ok (.aload_n 0, 1) := by decide +kernel
theorem d_178_36 : decode (mB 178) 36 = .ok (.iload 7, 2) := by decide +kernel
theorem d_178_38 : decode (mB 178) 38 = .ok (.iload_n 1, 1) := by decide +kernel
theorem d_178_39 : decode (mB 178) 39 = .ok (.invokevirtual 344, 3) := by decide +kernel
theorem d_178_42 : decode (mB 178) 42 = .ok (.ifCond .eq 6, 3) := by decide +kernel
theorem d_178_45 : decode (mB 178) 45 = .ok (.iinc 6 1, 3) := by decide +kernel
theorem d_178_48 : decode (mB 178) 48 = .ok (.aload_n 0, 1) := by decide +kernel
theorem d_178_49 : decode (mB 178) 49 = .ok (.getfield 38, 3) := by decide +kernel
theorem d_178_52 : decode (mB 178) 52 = .ok (.iload 7, 2) := by decide +kernel
theorem d_178_54 : decode (mB 178) 54 = .ok (.iaload, 1) := by decide +kernel
theorem d_178_55 : decode (mB 178) 55 = .ok (.iload_n 1, 1) := by decide +kernel
theorem d_178_56 : decode (mB 178) 56 = .ok (.if_icmp .eq 6, 3) := by decide +kernel
theorem d_178_59 : decode (mB 178) 59 = .ok (.goto 39, 3) := by decide +kernel
theorem d_178_62 : decode (mB 178) 62 = .ok (.iload_n 3, 1) := by decide +kernel
theorem d_178_63 : decode (mB 178) 63 = .ok (.aload_n 0, 1) := by decide +kernel
theorem d_178_64 : decode (mB 178) 64 = .ok (.iload 7, 2) := by decide +kernel
theorem d_178_66 : decode (mB 178) 66 = .ok (.invokevirtual 225, 3) := by decide +kernel
theorem d_178_69 : decode (mB 178) 69 = .ok (.iadd, 1) := by decide +kernel
theorem d_178_70 : decode (mB 178) 70 = .ok (.istore_n 3, 1) := by decide +kernel
theorem d_178_71 : decode (mB 178) 71 = .ok (.iload 4, 2) := by decide +kernel
theorem d_178_73 : decode (mB 178) 73 = .ok (.aload_n 0, 1) := by decide +kernel
theorem d_178_74 : decode (mB 178) 74 = .ok (.iload 7, 2) := by decide +kernel
theorem d_178_76 : decode (mB 178) 76 = .ok (.invokevirtual 261, 3) := by decide +kernel
theorem d_178_79 : decode (mB 178) 79 = .ok (.iadd, 1) := by decide +kernel
theorem d_178_80 : decode (mB 178) 80 = .ok (.istore 4, 2) := by decide +kernel
theorem d_178_82 : decode (mB 178) 82 = .ok (.iload 5, 2) := by decide +kernel
theorem d_178_84 : decode (mB 178) 84 = .ok (.aload_n 0, 1) := by decide +kernel
theorem d_178_85 : decode (mB 178) 85 = .ok (.getfield 151, 3) := by decide +kernel
theorem d_178_88 : decode (mB 178) 88 = .ok (.aload_n 0, 1) := by decide +kernel
theorem d_178_89 : decode (mB 178) 89 = .ok (.iload 7, 2) := by decide +kernel
theorem d_178_91 : decode (mB 178) 91 = .ok (.invokevirtual 261, 3) := by decide +kernel
theorem d_178_94 : decode (mB 178) 94 = .ok (.isub, 1) := by decide +kernel
theorem d_178_95 : decode (mB 178) 95 = .ok (.iadd, 1) := by decide +kernel
theorem d_178_96 : decode (mB 178) 96 = .ok (.istore 5, 2) := by decide +kernel
theorem d_178_98 : decode (mB 178) 98 = .ok (.iinc 7 1, 3) := by decide +kernel
theorem d_178_101 : decode (mB 178) 101 = .ok (.goto (-87), 3) := by decide +kernel
theorem d_178_104 : decode (mB 178) 104 = .ok (.iload_n 2, 1) := by decide +kernel
theorem d_178_105 : decode (mB 178) 105 = .ok (.iconst 5, 1) := by decide +kernel
theorem d_178_106 : decode (mB 178) 106 = .ok (.if_icmp .ne 7, 3) := by decide +kernel
theorem d_178_109 : decode (mB 178) 109 = .ok (.iload_n 3, 1) := by decide +kernel
theorem d_178_110 : decode (mB 178) 110 = .ok (.goto 29, 3) := by decide +kernel
theorem d_178_113 : decode (mB 178) 113 = .ok (.iload_n 2, 1) := by decide +kernel
theorem d_178_114 : decode (mB 178) 114 = .ok (.bipush 6, 2) := by decide +kernel
theorem d_178_116 : decode (mB 178) 116 = .ok (.if_icmp .ne 10, 3) := by decide +kernel
theorem d_178_119 : decode (mB 178) 119 = .ok (.iload 4, 2) := by decide +kernel
theorem d_178_121 : decode (mB 178) 121 = .ok (.iload_n 3, 1) := by decide +kernel
theorem d_178_122 : decode (mB 178) 122 = .ok (.isub, 1) := by decide +kernel
theorem d_178_123 : decode (mB 178) 123 = .ok (.goto 16, 3) := by decide +kernel
theorem d_178_126 : decode (mB 178) 126 = .ok (.iload_n 2, 1) := by decide +kernel
theorem d_178_127 : decode (mB 178) 127 = .ok (.bipush 7, 2) := by decide +kernel
theorem d_178_129 : decode (mB 178) 129 = .ok (.if_icmp .ne 8, 3) := by decide +kernel
theorem d_178_132 : decode (mB 178) 132 = .ok (.iload 5, 2) := by decide +kernel
theorem d_178_134 : decode (mB 178) 134 = .ok (.goto 5, 3) := by decide +kernel
theorem d_178_137 : decode (mB 178) 137 = .ok (.iload 6, 2) := by decide +kernel
theorem d_178_139 : decode (mB 178) 139 = .ok (.ireturn, 1) := by decide +kernel
theorem d_179_0 : decode (mB 179) 0 = .ok (.aload_n 0, 1) := by decide +kernel
theorem d_179_1 : decode (mB 179) 1 = .ok (.iconst 0, 1) := by decide +kernel
theorem d_179_2 : decode (mB 179) 2 = .ok (.putfield 157, 3) := by decide +kernel
theorem d_179_5 : decode (mB 179) 5 = .ok (.aload_n 0, 1) := by decide +kernel
theorem d_179_6 : decode (mB 179) 6 = .ok (.iload_n 1, 1) := by decide +kernel
theorem d_179_7 : decode (mB 179) 7 = .ok (.invokevirtual 338, 3) := by decide +kernel
theorem d_179_10 : decode (mB 179) 10 = .ok (.ifCond .ne 5, 3) := by decide +kernel
theorem d_179_13 : decode (mB 179) 13 = .ok (.iconst (-1), 1) := by decide +kernel
theorem d_179_14 : decode (mB 179) 14 = .ok (.ireturn, 1) := by decide +kernel
theorem d_179_15 : decode (mB 179) 15 = .ok (.iload_n 2, 1) := by decide +kernel
theorem d_179_16 : decode (mB 179) 16 = .ok (.tableswitch 152 0 11 #[64, 71, 86, 92, 99, 105, 105, 105, 105, 112, 119, 126], 64) := by decide +kernel
theorem d_179_80 : decode (mB 179) 80 = .ok (.aload_n 0, 1) := by decide +kernel
theorem d_179_81 : decode (mB 179) 81 = .ok (.getfield 9, 3) := by decide +kernel
theorem d_179_84 : decode (mB 179) 84 = .ok (.iload_n 1, 1) := by decide +kernel
theorem d_179_85 : decode (mB 179) 85 = .ok (.iaload, 1) := by decide +kernel
theorem d_179_86 : decode (mB 179) 86 = .ok (.ireturn, 1) := by decide +kernel
theorem d_179_87 : decode (mB 179) 87 = .ok (.aload_n 0, 1) := by decide +kernel
theorem d_179_88 : decode (mB 179) 88 = .ok (.getfield 13, 3) := by decide +kernel
theorem d_179_91 : decode (mB 179) 91 = .ok (.iload_n 1, 1) := by decide +kernel
theorem d_179_92 : decode (mB 179) 92 = .ok (.baload, 1) := by decide +kernel
theorem d_179_93 : decode (mB 179) 93 = .ok (.ifCond .eq 7, 3) := by decide +kernel
theorem d_179_96 : decode (mB 179) 96 = .ok (.iconst 1, 1) := by decide +kernel
theorem d_179_97 : decode (mB 179) 97 = .ok (.goto 4, 3) := by decide +kernel
theorem d_179_100 : decode (mB 179) 100 = .ok (.iconst 0, 1) := by decide +kernel
theorem d_179_101 : decode (mB 179) 101 = .ok (.ireturn, 1) := by decide +kernel
theorem d_179_102 : decode (mB 179) 102 = .ok (.aload_n 0, 1) := by decide +kernel
theorem d_179_103 : decode (mB 179) 103 = .ok (.iload_n 1, 1) := by decide +kernel
theorem d_179_104 : decode (mB 179) 104 = .ok (.invokevirtual 392, 3) := by decide +kernel
theorem d_179_107 : decode (mB 179) 107 = .ok (.ireturn, 1) := by decide +kernel
theorem d_179_108 : decode (mB 179) 108 = .ok (.aload_n 0, 1) := by decide +kernel
theorem d_179_109 : decode (mB 179) 109 = .ok (.getfield 23, 3) := by decide +kernel
theorem d_179_112 : decode (mB 179) 112 = .ok (.iload_n 1, 1) := by decide +kernel
theorem d_179_113 : decode (mB 179) 113 = .ok (.iaload, 1) := by decide +kernel
theorem d_179_114 : decode (mB 179) 114 = .ok (.ireturn, 1) := by decide +kernel
theorem d_179_115 : decode (mB 179) 115 = .ok (.aload_n 0, 1) := by decide +kernel
theorem d_179_116 : decode (mB 179) 116 = .ok (.iload_n 1, 1) := by decide +kernel
theorem d_179_117 : decode (mB 179) 117 = .ok (.invokevirtual 249, 3) := by decide +kernel
theorem d_179_120 : decode (mB 179) 120 = .ok (.ireturn, 1) := by decide +kernel
theorem d_179_121 : decode (mB 179) 121 = .ok (.aload_n 0, 1) := by decide +kernel
theorem d_179_122 : decode (mB 179) 122 = .ok (.iload_n 1, 1) := by decide +kernel
theorem d_179_123 : decode (mB 179) 123 = .ok (.iload_n 2, 1) := by decide +kernel
theorem d_179_124 : decode (mB 179) 124 = .ok (.invokevirtual 395, 3) := by decide +kernel
theorem d_179_127 : decode (mB 179) 127 = .ok (.ireturn, 1) := by decide +kernel
theorem d_179_128 : decode (mB 179) 128 = .ok (.aload_n 0, 1) := by decide +kernel
theorem d_179_129 : decode (mB 179) 129 = .ok (.getfield 32, 3) := by decide +kernel
theorem d_179_132 : decode (mB 179) 132 = .ok (.iload_n 1, 1) := by decide +kernel
theorem d_179_133 : decode (mB 179) 133 = .ok (.iaload, 1) := by decide +kernel
theorem d_179_134 : decode (mB 179) 134 = .ok (.ireturn, 1) := by decide +kernel
theorem d_179_135 : decode (mB 179) 135 = .ok (.aload_n 0, 1) := by decide +kernel
theorem d_179_136 : decode (mB 179) 136 = .ok (.getfield 29, 3) := by decide +kernel
theorem d_179_139 : decode (mB 179) 139 = .ok (.iload_n 1, 1) := by decide +kernel
theorem d_179_140 : decode (mB 179) 140 = .ok (.iaload, 1) := by decide +kernel
theorem d_179_141 : decode (mB 179) 141 = .ok (.ireturn, 1) := by decide +kernel
theorem d_179_142 : decode (mB 179) 142 = .ok (.aload_n 0, 1) := by decide +kernel
theorem d_179_143 : decode (mB 179) 143 = .ok (.getfield 26, 3) := by decide +kernel
theorem d_179_146 : decode (mB 179) 146 = .ok (.iload_n 1, 1) := by decide +kernel
theorem d_179_147 : decode (mB 179) 147 = .ok (.iaload, 1) := by decide +kernel
theorem d_179_148 : decode (mB 179) 148 = .ok (.iconst (-1), 1) := by decide +kernel
theorem d_179_149 : decode (mB 179) 149 = .ok (.if_icmp .ne 7, 3) := by decide +kernel
theorem d_179_152 : decode (mB 179) 152 = .ok (.iconst (-1), 1) := by decide +kernel
theorem d_179_153 : decode (mB 179) 153 = .ok (.goto 14, 3) := by decide +kernel
theorem d_179_156 : decode (mB 179) 156 = .ok (.aload_n 0, 1) := by decide +kernel
theorem d_179_157 : decode (mB 179) 157 = .ok (.getfield 41, 3) := by decide +kernel
theorem d_179_160 : decode (mB 179) 160 = .ok (.aload_n 0, 1) := by decide +kernel
theorem d_179_161 : decode (mB 179) 161 = .ok (.getfield 26, 3) := by decide +kernel
theorem d_179_164 : decode (mB 179) 164 = .ok (.iload_n 1, 1) := by decide +kernel
theorem d_179_165 : decode (mB 179) 165 = .ok (.iaload, 1) := by decide +kernel
theorem d_179_166 : decode (mB 179) 166 = .ok (.iaload, 1) := by decide +kernel
theorem d_179_167 : decode (mB 179) 167 = .ok (.ireturn, 1) := by decide +kernel
theorem d_179_168 : decode (mB 179) 168 = .ok (.iconst (-1), 1) := by decide +kernel
theorem d_179_169 : decode (mB 179) 169 = .ok (.ireturn, 1) := by decide +kernel
theorem d_180_0 : decode (mB 180) 0 = .ok (.aload_n 0, 1) := by decide +kernel
theorem d_180_1 : decode (mB 180) 1 = .ok (.iconst 0, 1) := by decide +kernel
theorem d_180_2 : decode (mB 180) 2 = .ok (.putfield 157, 3) := by decide +kernel
theorem d_180_5 : decode (mB 180) 5 = .ok (.aload_n 0, 1) := by decide +kernel
theorem d_180_6 : decode (mB 180) 6 = .ok (.iload_n 1, 1) := by decide +kernel
theorem d_180_7 : decode (mB 180) 7 = .ok (.invokevirtual 338, 3) := by decide +kernel
theorem d_180_10 : decode (mB 180) 10 = .ok (.ifCond .eq 7, 3) := by decide +kernel
theorem d_180_13 : decode (mB 180) 13 = .ok (.iload_n 2, 1) := by decide +kernel
theorem d_180_14 : decode (mB 180) 14 = .ok (.ifCond .ge 5, 3) := by decide +kernel
theorem d_180_17 : decode (mB 180) 17 = .ok (.iconst (-1), 1) := by decide +kernel
theorem d_180_18 : decode (mB 180) 18 = .ok (.ireturn, 1) := by decide +kernel
theorem d_180_19 : decode (mB 180) 19 = .ok (.aload_n 0, 1) := by decide +kernel
theorem d_180_20 : decode (mB 180) 20 = .ok (.iload_n 1, 1) := by decide +kernel
theorem d_180_21 : decode (mB 180) 21 = .ok (.iconst (-1), 1) := by decide +kernel
theorem d_180_22 : decode (mB 180) 22 = .ok (.invokevirtual 222, 3) := by decide +kernel
theorem d_180_25 : decode (mB 180) 25 = .ok (.istore 4, 2) := by decide +kernel
theorem d_180_27 : decode (mB 180) 27 = .ok (.iconst 0, 1) := by decide +kernel
theorem d_180_28 : decode (mB 180) 28 = .ok (.istore 5, 2) := by decide +kernel
theorem d_180_30 : decode (mB 180) 30 = .ok (.iload 5, 2) := by decide +kernel
theorem d_180_32 : decode (mB 180) 32 = .ok (.iload_n 2, 1) := by decide +kernel
theorem d_180_33 : decode (mB 180) 33 = .ok (.if_icmp .ge 29, 3) := by decide +kernel
theorem d_180_36 : decode (mB 180) 36 = .ok (.iload 4, 2) := by decide +kernel
theorem d_180_38 : decode (mB 180) 38 = .ok (.iconst (-1), 1) := by decide +kernel
theorem d_180_39 : decode (mB 180) 39 = .ok (.if_icmp .eq 23, 3) := by decide +kernel
theorem d_180_42 : decode (mB 180) 42 = .ok (.aload_n 0, 1) := by decide +kernel
theorem d_180_43 : decode (mB 180) 43 = .ok (.iload_n 1, 1) := by decide +kernel
theorem d_180_44 : decode (mB 180) 44 = .ok (.aload_n 0, 1) := by decide +kernel
theorem d_180_45 : decode (mB 180) 45 = .ok (.getfield 41, 3) := by decide +kernel
theorem d_180_48 : decode (mB 180) 48 = .ok (.iload 4, 2) := by decide +kernel
theorem d_180_50 : decode (mB 180) 50 = .ok (.iaload, 1) := by decide +kernel
theorem d_180_51 : decode (mB 180) 51 = .ok (.invokevirtual 222, 3) := by decide +kernel
theorem d_180_54 : decode (mB 180) 54 = .ok (.istore 4, 2) := by decide +kernel
theorem d_180_56 : decode (mB 180) 56 = .ok (.iinc 5 1, 3) := by decide +kernel
theorem d_180_59 : decode (mB 180) 59 = .ok (.goto (-29), 3) := by decide +kernel
theorem d_180_62 : decode (mB 180) 62 = .ok (.iload 4, 2) := by decide +kernel
theorem d_180_64 : decode (mB 180) 64 = .ok (.iconst (-1), 1) := by decide +kernel
theorem d_180_65 : decode (mB 180) 65 = .ok (.if_icmp .ne 5, 3) := by decide +kernel
theorem d_180_68 : decode (mB 180) 68 = .ok (.iconst (-1), 1) := by decide +kernel
theorem d_180_69 : decode (mB 180) 69 = .ok (.ireturn, 1) := by decide +kernel
theorem d_180_70 : decode (mB 180) 70 = .ok (.iload_n 3, 1) := by decide +kernel
theorem d_180_71 : decode (mB 180) 71 = .ok (.tableswitch 82 0 5 #[37, 45, 53, 60, 67, 75], 37) := by decide +kernel
theorem d_180_108 : decode (mB 180) 108 = .ok (.aload_n 0, 1) := by decide +kernel
theorem d_180_109 : decode (mB 180) 109 = .ok (.getfield 41, 3) := by decide +kernel
theorem d_180_112 : decode (mB 180) 112 = .ok (.iload 4, 2) := by decide +kernel
theorem d_180_114 : decode (mB 180) 114 = .ok (.iaload, 1) := by decide +kernel
theorem d_180_115 : decode (mB 180) 115 = .ok (.ireturn, 1) := by decide +kernel
theorem d_180_116 : decode (mB 180) 116 = .ok (.aload_n 0, 1) := by decide +kernel
theorem d_180_117 : decode (mB 180) 117 = .ok (.getfield 47, 3) := by decide +kernel
theorem d_180_120 : decode (mB 180) 120 = .ok (.iload 4, 2) := by decide +kernel
theorem d_180_122 : decode (mB 180) 122 = .ok (.iaload, 1) := by decide +kernel
theorem d_180_123 : decode (mB 180) 123 = .ok (.ireturn, 1) := by decide +kernel
theorem d_180_124 : decode (mB 180) 124 = .ok (.aload_n 0, 1) := by decide +kernel
theorem d_180_125 : decode (mB 180) 125 = .ok (.iload 4, 2) := by decide +kernel
theorem d_180_127 : decode (mB 180) 127 = .ok (.invokevirtual 261, 3) := by decide +kernel
theorem d_180_130 : decode (mB 180) 130 = .ok (.ireturn, 1) := by decide +kernel
theorem d_180_131 : decode (mB 180) 131 = .ok (.aload_n 0, 1) := by decide +kernel
theorem d_180_132 : decode (mB 180) 132 = .ok (.iload 4, 2) := by decide +kernel
theorem d_180_134 : decode (mB 180) 134 = .ok (.invokevirtual 225, 3) := by decide +kernel
theorem d_180_137 : decode (mB 180) 137 = .ok (.ireturn, 1) := by decide +kernel
theorem d_180_138 : decode (mB 180) 138 = .ok (.aload_n 0, 1) := by decide +kernel
theorem d_180_139 : decode (mB 180) 139 = .ok (.getfield 54, 3) := by decide +kernel
theorem d_180_142 : decode (mB 180) 142 = .ok (.iload 4, 2) := by decide +kernel
theorem d_180_144 : decode (mB 180) 144 = .ok (.iaload, 1) := by decide +kernel
theorem d_180_145 : decode (mB 180) 145 = .ok (.ireturn, 1) := by decide +kernel
theorem d_180_146 : decode (mB 180) 146 = .ok (.aload_n 0, 1) := by decide +kernel
theorem d_180_147 : decode (mB 180) 147 = .ok (.iload 4, 2) := by decide +kernel
theorem d_180_149 : decode (mB 180) 149 = .ok (.invokevirtual 255, 3) := by decide +kernel
theorem d_180_152 : decode (mB 180) 152 = .ok (.ireturn, 1) := by decide +kernel
theorem d_180_153 : decode (mB 180) 153 = .ok (.iconst (-1), 1) := by decide +kernel
theorem d_180_154 : decode (mB 180) 154 = .ok (.ireturn, 1) := by decide +kernel
theorem d_181_0 : decode (mB 181) 0 = .ok (.aload_n 0, 1) := by decide +kernel
theorem d_181_1 : decode (mB 181) 1 = .ok (.iconst 0, 1) := by decide +kernel
theorem d_181_2 : decode (mB 181) 2 = .ok (.putfield 157, 3) := by decide +kernel
theorem d_181_5 : decode (mB 181) 5 = .ok (.aload_n 0, 1) := by decide +kernel
theorem d_181_6 : decode (mB 181) 6 = .ok (.iload_n 1, 1) := by decide +kernel
theorem d_181_7 : decode (mB 181) 7 = .ok (.invokevirtual 338, 3) := by decide +kernel
theorem d_181_10 : decode (mB 181) 10 = .ok (.ifCond .eq 22, 3) := by decide +kernel
theorem d_181_13 : decode (mB 181) 13 = .ok (.iload_n 2, 1) := by decide +kernel
theorem d_181_14 : decode (mB 181) 14 = .ok (.iconst 0, 1) := by decide +kernel
theorem d_181_15 : decode (mB 181) 15 = .ok (.bipush 63, 2) := by decide +kernel
theorem d_181_17 : decode (mB 181) 17 = .ok (.invokestatic 160, 3) := by decide +kernel
theorem d_181_20 : decode (mB 181) 20 = .ok (.ifCond .eq 12, 3) := by decide +kernel
theorem d_181_23 : decode (mB 181) 23 = .ok (.iload_n 3, 1) := by decide +kernel
theorem d_181_24 : decode (mB 181) 24 = .ok (.iconst 0, 1) := by decide +kernel
theorem d_181_25 : decode (mB 181) 25 = .ok (.iconst 1, 1) := by decide +kernel
theorem d_181_26 : decode (mB 181) 26 = .ok (.invokestatic 160, 3) := by decide +kernel
theorem d_181_29 : decode (mB 181) 29 = .ok (.ifCond .ne 5, 3) := by decide +kernel
theorem d_181_32 : decode (mB 181) 32 = .ok (.iconst (-1), 1) := by decide +kernel
theorem d_181_33 : decode (mB 181) 33 = .ok (.ireturn, 1) := by decide +kernel
theorem d_181_34 : decode (mB 181) 34 = .ok (.aload_n 0, 1) := by decide +kernel
theorem d_181_35 : decode (mB 181) 35 = .ok (.iload_n 1, 1) := by decide +kernel
theorem d_181_36 : decode (mB 181) 36 = .ok (.iload_n 2, 1) := by decide +kernel
theorem d_181_37 : decode (mB 181) 37 = .ok (.invokevirtual 272, 3) := by decide +kernel
theorem d_181_40 : decode (mB 181) 40 = .ok (.istore 4, 2) := by decide +kernel
theorem d_181_42 : decode (mB 181) 42 = .ok (.iload_n 3, 1) := by decide +kernel
theorem d_181_43 : decode (mB 181) 43 = .ok (.ifCond .ne 23, 3) := by decide +kernel
theorem d_181_46 : decode (mB 181) 46 = .ok (.iload 4, 2) := by decide +kernel
theorem d_181_48 : decode (mB 181) 48 = .ok (.iconst (-1), 1) := by decide +kernel
theorem d_181_49 : decode (mB 181) 49 = .ok (.if_icmp .ne 7, 3) := by decide +kernel
theorem d_181_52 : decode (mB 181) 52 = .ok (.iconst (-1), 1) := by decide +kernel
theorem d_181_53 : decode (mB 181) 53 = .ok (.goto 12, 3) := by decide +kernel
theorem d_181_56 : decode (mB 181) 56 = .ok (.aload_n 0, 1) := by decide +kernel
theorem d_181_57 : decode (mB 181) 57 = .ok (.getfield 51, 3) := by decide +kernel
theorem d_181_60 : decode (mB 181) 60 = .ok (.iload 4, 2) := by decide +kernel
theorem d_181_62 : decode (mB 181) 62 = .ok (.iconst 5, 1) := by decide +kernel
theorem d_181_63 : decode (mB 181) 63 = .ok (.iadd, 1) := by decide +kernel
theorem d_181_64 : decode (mB 181) 64 = .ok (.iaload, 1) := by decide +kernel
theorem d_181_65 : decode (mB 181) 65 = .ok (.ireturn, 1) := by decide +kernel
theorem d_181_66 : decode (mB 181) 66 = .ok (.iload 4, 2) := by decide +kernel
theorem d_181_68 : decode (mB 181) 68 = .ok (.iconst (-1), 1) := by decide +kernel
theorem d_181_69 : decode (mB 181) 69 = .ok (.if_icmp .ne 7, 3) := by decide +kernel
theorem d_181_72 : decode (mB 181) 72 = .ok (.iconst 0, 1) := by decide +kernel
theorem d_181_73 : decode (mB 181) 73 = .ok (.goto 13, 3) := by decide +kernel
theorem d_181_76 : decode (mB 181) 76 = .ok (.aload_n 0, 1) := by decide +kernel
theorem d_181_77 : decode (mB 181) 77 = .ok (.getfield 51, 3) := by decide +kernel
theorem d_181_80 : decode (mB 181) 80 = .ok (.iload 4, 2) := by decide +kernel
theorem d_181_82 : decode (mB 181) 82 = .ok (.bipush 6, 2) := by decide +kernel
theorem d_181_84 : decode (mB 181) 84 = .ok (.iadd, 1) := by decide +kernel
theorem d_181_85 : decode (mB 181) 85 = .ok (.iaload, 1) := by decide +kernel
theorem d_181_86 : decode (mB 181) 86 = .ok (.ireturn, 1) := by decide +kernel
theorem d_182_0 : decode (mB 182) 0 = .ok (.aload_n 0, 1) := by decide +kernel
theorem d_182_1 : decode (mB 182) 1 = .ok (.iconst 0, 1) := by decide +kernel
theorem d_182_2 : decode (mB 182) 2 = .ok (.putfield 157, 3) := by decide +kernel
theorem d_182_5 : decode (mB 182) 5 = .ok (.iconst 0, 1) := by decide +kernel
theorem d_182_6 : decode (mB 182) 6 = .ok (.istore_n 2, 1) := by decide +kernel
theorem d_182_7 : decode (mB 182) 7 = .ok (.iload_n 1, 1) := by decide +kernel
theorem d_182_8 : decode (mB 182) 8 = .ok (.tableswitch 190 0 11 #[64, 69, 103, 108, 113, 118, 152, 157, 162, 167, 180, 185], 64) := by decide +kernel
theorem d_182_72 : decode (mB 182) 72 = .ok (.aload_n 0, 1) := by decide +kernel
theorem d_182_73 : decode (mB 182) 73 = .ok (.getfield 374, 3) := by decide +kernel
theorem d_182_76 : decode (mB 182) 76 = .ok (.ireturn, 1) := by decide +kernel
theorem d_182_77 : decode (mB 182) 77 = .ok (.iconst 0, 1) := by decide +kernel
theorem d_182_78 : decode (mB 182) 78 = .ok (.istore_n 3, 1) := by decide +kernel
theorem d_182_79 : decode (mB 182) 79 = .ok (.iload_n 3, 1) := by decide +kernel
theorem d_182_80 : decode (mB 182) 80 = .ok (.bipush 40, 2) := by decide +kernel
theorem d_182_82 : decode (mB 182) 82 = .ok (.if_icmp .ge 27, 3) := by decide +kernel
theorem d_182_85 : decode (mB 182) 85 = .ok (.iload_n 2, 1) := by decide +kernel
theorem d_182_86 : decode (mB 182) 86 = .ok (.aload_n 0, 1) := by decide +kernel
theorem d_182_87 : decode (mB 182) 87 = .ok (.getfield 110, 3) := by decide +kernel
theorem d_182_90 : decode (mB 182) 90 = .ok (.iload_n 3, 1) := by decide +kernel
theorem d_182_91 : decode (mB 182) 91 = .ok (.iaload, 1) := by decide +kernel
theorem d_182_92 : decode (mB 182) 92 = .ok (.iconst (-1), 1) := by decide +kernel
theorem d_182_93 : decode (mB 182) 93 = .ok (.if_icmp .eq 7, 3) := by decide +kernel
theorem d_182_96 : decode (mB 182) 96 = .ok (.iconst 1, 1) := by decide +kernel
theorem d_182_97 : decode (mB 182) 97 = .ok (.goto 4, 3) := by decide +kernel
theorem d_182_100 : decode (mB 182) 100 = .ok (.iconst 0, 1) := by decide +kernel
theorem d_182_101 : decode (mB 182) 101 = .ok (.iadd, 1) := by decide +kernel
theorem d_182_102 : decode (mB 182) 102 = .ok (.istore_n 2, 1) := by decide +kernel
theorem d_182_103 : decode (mB 182) 103 = .ok (.iinc 3 1, 3) := by decide +kernel
theorem d_182_106 : decode (mB 182) 106 = .ok (.goto (-27), 3) := by decide +kernel
theorem d_182_109 : decode (mB 182) 109 = .ok (.iload_n 2, 1) := by decide +kernel
theorem d_182_110 : decode (mB 182) 110 = .ok (.ireturn, 1) := by decide +kernel
theorem d_182_111 : decode (mB 182) 111 = .ok (.aload_n 0, 1) := by decide +kernel
theorem d_182_112 : decode (mB 182) 112 = .ok (.getfield 183, 3) := by decide +kernel
theorem d_182_115 : decode (mB 182) 115 = .ok (.ireturn, 1) := by decide +kernel
theorem d_182_116 : decode (mB 182) 116 = .ok (.aload_n 0, 1) := by decide +kernel
theorem d_182_117 : decode (mB 182) 117 = .ok (.getfield 239, 3) := by decide +kernel
theorem d_182_120 : decode (mB 182) 120 = .ok (.ireturn, 1) := by decide +kernel
theorem d_182_121 : decode (mB 182) 121 = .ok (.aload_n 0, 1) := by decide +kernel
theorem d_182_122 : decode (mB 182) 122 = .ok (.getfield 353, 3) := by decide +kernel
theorem d_182_125 : decode (mB 182) 125 = .ok (.ireturn, 1) := by decide +kernel
theorem d_182_126 : decode (mB 182) 126 = .ok (.iconst 0, 1) := by decide +kernel
theorem d_182_127 : decode (mB 182) 127 = .ok (.istore_n 3, 1) := by decide +kernel
theorem d_182_128 : decode (mB 182) 128 = .ok (.iload_n 3, 1) := by decide +kernel
theorem d_182_129 : decode (mB 182) 129 = .ok (.bipush 8, 2) := by decide +kernel
theorem d_182_131 : decode (mB 182) 131 = .ok (.if_icmp .ge 27, 3) := by decide +kernel
theorem d_182_134 : decode (mB 182) 134 = .ok (.iload_n 2, 1) := by decide +kernel
theorem d_182_135 : decode (mB 182) 135 = .ok (.aload_n 0, 1) := by decide +kernel
theorem d_182_136 : decode (mB 182) 136 = .ok (.getfield 35, 3) := by decide +kernel
theorem d_182_139 : decode (mB 182) 139 = .ok (.iload_n 3, 1) := by decide +kernel
theorem d_182_140 : decode (mB 182) 140 = .ok (.iaload, 1) := by decide +kernel
theorem d_182_141 : decode (mB 182) 141 = .ok (.iconst (-1), 1) := by decide +kernel
theorem d_182_142 : decode (mB 182) 142 = .ok (.if_icmp .ne 7, 3) := by decide +kernel
theorem d_182_145 : decode (mB 182) 145 = .ok (.iconst 1, 1) := by decide +kernel
theorem d_182_146 : decode (mB 182) 146 = .ok (.goto 4, 3) := by decide +kernel
theorem d_182_149 : decode (mB 182) 149 = .ok (.iconst 0, 1) := by decide +kernel
theorem d_182_150 : decode (mB 182) 150 = .ok (.iadd, 1) := by decide +kernel
theorem d_182_151 : decode (mB 182) 151 = .ok (.istore_n 2, 1) := by decide +kernel
theorem d_182_152 : decode (mB 182) 152 = .ok (.iinc 3 1, 3) := by decide +kernel
theorem d_182_155 : decode (mB 182) 155 = .ok (.goto (-27), 3) := by decide +kernel
theorem d_182_158 : decode (mB 182) 158 = .ok (.iload_n 2, 1) := by decide +kernel
theorem d_182_159 : decode (mB 182) 159 = .ok (.ireturn, 1) := by decide +kernel
theorem d_182_160 : decode (mB 182) 160 = .ok (.aload_n 0, 1) := by decide +kernel
theorem d_182_161 : decode (mB 182) 161 = .ok (.getfield 359, 3) := by decide +kernel
theorem d_182_164 : decode (mB 182) 164 = .ok (.ireturn, 1) := by decide +kernel
theorem d_182_165 : decode (mB 182) 165 = .ok (.aload_n 0, 1) := by decide +kernel
theorem d_182_166 : decode (mB 182) 166 = .ok (.getfield 275, 3) := by decide +kernel
theorem d_182_169 : decode (mB 182) 169 = .ok (.ireturn, 1) := by decide +kernel
theorem d_182_170 : decode (mB 182) 170 = .ok (.aload_n 0, 1) := by decide +kernel
theorem d_182_171 : decode (mB 182) 171 = .ok (.getfield 284, 3) := by decide +kernel
theorem d_182_174 : decode (mB 182) 174 = .ok (.ireturn, 1) := by decide +kernel
theorem d_182_175 : decode (mB 182) 175 = .ok (.aload_n 0, 1) := by decide +kernel
theorem d_182_176 : decode (mB 182) 176 = .ok (.getfield 242, 3) := by decide +kernel
theorem d_182_179 : decode (mB 182) 179 = .ok (.ifCond .eq 7, 3) := by decide +kernel
theorem d_182_182 : decode (mB 182) 182 = .ok (.iconst 1, 1) := by decide +kernel
theorem d_182_183 : decode (mB 182) 183 = .ok (.goto 4, 3) := by decide +kernel
theorem d_182_186 : decode (mB 182) 186 = .ok (.iconst 0, 1) := by decide +kernel
theorem d_182_187 : decode (mB 182) 187 = .ok (.ireturn, 1) := by decide +kernel
theorem d_182_188 : decode (mB 182) 188 = .ok (.aload_n 0, 1) := by decide +kernel
theorem d_182_189 : decode (mB 182) 189 = .ok (.getfield 347, 3) := by decide +kernel
theorem d_182_192 : decode (mB 182) 192 = .ok (.ireturn, 1) := by decide +kernel
theorem d_182_193 : decode (mB 182) 193 = .ok (.aload_n 0, 1) := by decide +kernel
theorem d_182_194 : decode (mB 182) 194 = .ok (.getfield 316, 3) := by decide +kernel
theorem d_182_197 : decode (mB 182) 197 = .ok (.ireturn, 1) := by decide +kernel
theorem d_182_198 : decode (mB 182) 198 = .ok (.iconst (-1), 1) := by decide +kernel
theorem d_182_199 : decode (mB 182) 199 = .ok (.ireturn, 1) := by decide +kernel
theorem d_183_0 : decode (mB 183) 0 = .ok (.iload_n 0, 1) := by decide +kernel
theorem d_183_1 : decode (mB 183) 1 = .ok (.iload_n 0, 1) := by decide +kernel
theorem d_183_2 : decode (mB 183) 2 = .ok (.iconst 1, 1) := by decide +kernel
theorem d_183_3 : decode (mB 183) 3 = .ok (.iushr, 1) := by decide +kernel
theorem d_183_4 : decode (mB 183) 4 = .ok (.ldc_w 265, 3) := by decide +kernel
theorem d_183_7 : decode (mB 183) 7 = .ok (.iand, 1) := by decide +kernel
theorem d_183_8 : decode (mB 183) 8 = .ok (.isub, 1) := by decide +kernel
theorem d_183_9 : decode (mB 183) 9 = .ok (.istore_n 0, 1) := by decide +kernel
theorem d_183_10 : decode (mB 183) 10 = .ok (.iload_n 0, 1) := by decide +kernel
theorem d_183_11 : decode (mB 183) 11 = .ok (.ldc_w 266, 3) := by decide +kernel
theorem d_183_14 : decode (mB 183) 14 = .ok (.iand, 1) := by decide +kernel
theorem d_183_15 : decode (mB 183) 15 = .ok (.iload_n 0, 1) := by decide +kernel
theorem d_183_16 : decode (mB 183) 16 = .ok (.iconst 2, 1) := by decide +kernel
theorem d_183_17 : decode (mB 183) 17 = .ok (.iushr, 1) := by decide +kernel
theorem d_183_18 : decode (mB 183) 18 = .ok (.ldc_w 266, 3) := by decide +kernel
theorem d_183_21 : decode (mB 183) 21 = .ok (.iand, 1) := by decide +kernel
theorem d_183_22 : decode (mB 183) 22 = .ok (.iadd, 1) := by decide +kernel
theorem d_183_23 : decode (mB 183) 23 = .ok (.istore_n 0, 1) := by decide +kernel
theorem d_183_24 : decode (mB 183) 24 = .ok (.iload_n 0, 1) := by decide +kernel
theorem d_183_25 : decode (mB 183) 25 = .ok (.iload_n 0, 1) := by decide +kernel
theorem d_183_26 : decode (mB 183) 26 = .ok (.iconst 4, 1) := by decide +kernel
theorem d_183_27 : decode (mB 183) 27 = .ok (.iushr, 1) := by decide +kernel
theorem d_183_28 : decode (mB 183) 28 = .ok (.iadd, 1) := by decide +kernel
theorem d_183_29 : decode (mB 183) 29 = .ok (.ldc_w 267, 3) := by decide +kernel
theorem d_183_32 : decode (mB 183) 32 = .ok (.iand, 1) := by decide +kernel
theorem d_183_33 : decode (mB 183) 33 = .ok (.istore_n 0, 1) := by decide +kernel
theorem d_183_34 : decode (mB 183) 34 = .ok (.iload_n 0, 1) := by decide +kernel
theorem d_183_35 : decode (mB 183) 35 = .ok (.iload_n 0, 1) := by decide +kernel
theorem d_183_36 : decode (mB 183) 36 = .ok (.bipush 8, 2) := by decide +kernel
theorem d_183_38 : decode (mB 183) 38 = .ok (.iushr, 1) := by decide +kernel
theorem d_183_39 : decode (mB 183) 39 = .ok (.iadd, 1) := by decide +kernel
theorem d_183_40 : decode (mB 183) 40 = .ok (.istore_n 0, 1) := by decide +kernel
theorem d_183_41 : decode (mB 183) 41 = .ok (.iload_n 0, 1) := by decide +kernel
theorem d_183_42 : decode (mB 183) 42 = .ok (.iload_n 0, 1) := by decide +kernel
theorem d_183_43 : decode (mB 183) 43 = .ok (.bipush 16, 2) := by decide +kernel
theorem d_183_45 : decode (mB 183) 45 = .ok (.iushr, 1) := by decide +kernel
theorem d_183_46 : decode (mB 183) 46 = .ok (.iadd, 1) := by decide +kernel
theorem d_183_47 : decode (mB 183) 47 = .ok (.istore_n 0, 1) := by decide +kernel
theorem d_183_48 : decode (mB 183) 48 = .ok (.iload_n 0, 1) := by decide +kernel
theorem d_183_49 : decode (mB 183) 49 = .ok (.bipush 63, 2) := by decide +kernel
theorem d_183_51 : decode (mB 183) 51 = .ok (.iand, 1) := by decide +kernel
theorem d_183_52 : decode (mB 183) 52 = .ok (.ireturn, 1) := by decide +kernel
theorem d_184_0 : decode (mB 184) 0 = .ok (.iload_n 0, 1) := by decide +kernel
theorem d_184_1 : decode (mB 184) 1 = .ok (.iload_n 1, 1) := by decide +kernel
theorem d_184_2 : decode (mB 184) 2 = .ok (.if_icmp .lt 7, 3) := by decide +kernel
theorem d_184_5 : decode (mB 184) 5 = .ok (.iload_n 0, 1) := by decide +kernel
theorem d_184_6 : decode (mB 184) 6 = .ok (.goto 4, 3) := by decide +kernel
theorem d_184_9 : decode (mB 184) 9 = .ok (.iload_n 1, 1) := by decide +kernel
theorem d_184_10 : decode (mB 184) 10 = .ok (.ireturn, 1) := by decide +kernel
theorem d_185_0 : decode (mB 185) 0 = .ok (.iload_n 0, 1) := by decide +kernel
theorem d_185_1 : decode (mB 185) 1 = .ok (.iload_n 1, 1) := by decide +kernel
theorem d_185_2 : decode (mB 185) 2 = .ok (.if_icmp .gt 7, 3) := by decide +kernel
theorem d_185_5 : decode (mB 185) 5 = .ok (.iload_n 0, 1) := by decide +kernel
theorem d_185_6 : decode (mB 185) 6 = .ok (.goto 4, 3) := by decide +kernel
theorem d_185_9 : decode (mB 185) 9 = .ok (.iload_n 1, 1) := by decide +kernel
theorem d_185_10 : decode (mB 185) 10 = .ok (.ireturn, 1) := by decide +kernel
theorem d_186_0 : decode (mB 186) 0 = .ok (.aload_n 0, 1) := by decide +kernel
theorem d_186_1 : decode (mB 186) 1 = .ok (.invokespecial 1, 3) := by decide +kernel
theorem d_186_4 : decode (mB 186) 4 = .ok (.return_, 1) := by decide +kernel
theorem d_187_0 : decode (mB 187) 0 = .ok (.aload_n 0, 1) := by decide +kernel
theorem d_187_1 : decode (mB 187) 1 = .ok (.invokespecial 1, 3) := by decide +kernel
theorem d_187_4 : decode (mB 187) 4 = .ok (.aload_n 0, 1) := by decide +kernel
theorem d_187_5 : decode (mB 187) 5 = .ok (.iconst 0, 1) := by decide +kernel
theorem d_187_6 : decode (mB 187) 6 = .ok (.putfield 7, 3) := by decide +kernel
theorem d_187_9 : decode (mB 187) 9 = .ok (.return_, 1) := by decide +kernel
theorem d_188_0 : decode (mB 188) 0 = .ok (.aload_n 0, 1) := by decide +kernel
theorem d_188_1 : decode (mB 188) 1 = .ok (.invokespecial 1, 3) := by decide +kernel
theorem d_188_4 : decode (mB 188) 4 = .ok (.aload_n 0, 1) := by decide +kernel
theorem d_188_5 : decode (mB 188) 5 = .ok (.getstatic 39, 3) := by decide +kernel
theorem d_188_8 : decode (mB 188) 8 = .ok (.putfield 9, 3) := by decide +kernel
theorem d_188_11 : decode (mB 188) 11 = .ok (.return_, 1) := by decide +kernel
theorem d_189_0 : decode (mB 189) 0 = .ok (.aload_n 0, 1) := by decide +kernel
theorem d_189_1 : decode (mB 189) 1 = .ok (.getfield 9, 3) := by decide +kernel
theorem d_189_4 : decode (mB 189) 4 = .ok (.arraylength, 1) := by decide +kernel
theorem d_189_5 : decode (mB 189) 5 = .ok (.istore_n 2, 1) := by decide +kernel
theorem d_189_6 : decode (mB 189) 6 = .ok (.iload_n 2, 1) := by decide +kernel
theorem d_189_7 : decode (mB 189) 7 = .ok (.ifCond .gt 13, 3) := by decide +kernel
theorem d_189_10 : decode (mB 189) 10 = .ok (.aload_n 0, 1) := by decide +kernel
theorem d_189_11 : decode (mB 189) 11 = .ok (.getfield 9, 3) := by decide +kernel
theorem d_189_14 : decode (mB 189) 14 = .ok (.getstatic 39, 3) := by decide +kernel
theorem d_189_17 : decode (mB 189) 17 = .ok (.if_acmp .eq 28, 3) := by decide +kernel
theorem d_189_20 : decode (mB 189) 20 = .ok (.iload_n 2, 1) := by decide +kernel
theorem d_189_21 : decode (mB 189) 21 = .ok (.iload_n 1, 1) := by decide +kernel
theorem d_189_22 : decode (mB 189) 22 = .ok (.iload_n 2, 1) := by decide +kernel
theorem d_189_23 : decode (mB 189) 23 = .ok (.isub, 1) := by decide +kernel
theorem d_189_24 : decode (mB 189) 24 = .ok (.iload_n 2, 1) := by decide +kernel
theorem d_189_25 : decode (mB 189) 25 = .ok (.iconst 1, 1) := by decide +kernel
theorem d_189_26 : decode (mB 189) 26 = .ok (.ishr, 1) := by decide +kernel
theorem d_189_27 : decode (mB 189) 27 = .ok (.invokestatic 73, 3) := by decide +kernel
theorem d_189_30 : decode (mB 189) 30 = .ok (.istore_n 3, 1) := by decide +kernel
theorem d_189_31 : decode (mB 189) 31 = .ok (.aload_n 0, 1) := by decide +kernel
theorem d_189_32 : decode (mB 189) 32 = .ok (.aload_n 0, 1) := by decide +kernel
theorem d_189_33 : decode (mB 189) 33 = .ok (.getfield 9, 3) := by decide +kernel
theorem d_189_36 : decode (mB 189) 36 = .ok (.iload_n 3, 1) := by decide +kernel
theorem d_189_37 : decode (mB 189) 37 = .ok (.invokestatic 66, 3) := by decide +kernel
theorem d_189_40 : decode (mB 189) 40 = .ok (.dup_x1, 1) := by decide +kernel
theorem d_189_41 : decode (mB 189) 41 = .ok (.putfield 9, 3) := by decide +kernel
theorem d_189_44 : decode (mB 189) 44 = .ok (.areturn, 1) := by decide +kernel
theorem d_189_45 : decode (mB 189) 45 = .ok (.aload_n 0, 1) := by decide +kernel
theorem d_189_46 : decode (mB 189) 46 = .ok (.bipush 10, 2) := by decide +kernel
theorem d_189_48 : decode (mB 189) 48 = .ok (.iload_n 1, 1) := by decide +kernel
theorem d_189_49 : decode (mB 189) 49 = .ok (.invokestatic 79, 3) := by decide +kernel
theorem d_189_52 : decode (mB 189) 52 = .ok (.anewarray 7, 3) := by decide +kernel
theorem d_189_55 : decode (mB 189) 55 = .ok (.dup_x1, 1) := by decide +kernel
theorem d_189_56 : decode (mB 189) 56 = .ok (.putfield 9, 3) := by decide +kernel
theorem d_189_59 : decode (mB 189) 59 = .ok (.areturn, 1) := by decide +kernel
theorem d_190_0 : decode (mB 190) 0 = .ok (.aload_n 0, 1) := by decide +kernel
theorem d_190_1 : decode (mB 190) 1 = .ok (.aload_n 0, 1) := by decide +kernel
theorem d_190_2 : decode (mB 190) 2 = .ok (.getfield 48, 3) := by decide +kernel
theorem d_190_5 : decode (mB 190) 5 = .ok (.iconst 1, 1) := by decide +kernel
theorem d_190_6 : decode (mB 190) 6 = .ok (.iadd, 1) := by decide +kernel
theorem d_190_7 : decode (mB 190) 7 = .ok (.invokevirtual 69, 3) := by decide +kernel
theorem d_190_10 : decode (mB 190) 10 = .ok (.areturn, 1) := by decide +kernel
theorem d_191_0 : decode (mB 191) 0 = .ok (.aload_n 0, 1) := by decide +kernel
theorem d_191_1 : decode (mB 191) 1 = .ok (.getfield 48, 3) := by decide +kernel
theorem d_191_4 : decode (mB 191) 4 = .ok (.ireturn, 1) := by decide +kernel
theorem d_192_0 : decode (mB 192) 0 = .ok (.aload_n 0, 1) := by decide +kernel
theorem d_192_1 : decode (mB 192) 1 = .ok (.getfield 9, 3) := by decide +kernel
theorem d_192_4 : decode (mB 192) 4 = .ok (.iload_n 1, 1) := by decide +kernel
theorem d_192_5 : decode (mB 192) 5 = .ok (.aaload, 1) := by decide +kernel
theorem d_192_6 : decode (mB 192) 6 = .ok (.areturn, 1) := by decide +kernel
theorem d_193_0 : decode (mB 193) 0 = .ok (.iload_n 1, 1) := by decide +kernel
theorem d_193_1 : decode (mB 193) 1 = .ok (.aload_n 0, 1) := by decide +kernel
theorem d_193_2 : decode (mB 193) 2 = .ok (.getfield 48, 3) := by decide +kernel
theorem d_193_5 : decode (mB 193) 5 = .ok (.invokestatic 118, 3) := by decide +kernel
theorem d_193_8 : decode (mB 193) 8 = .ok (.pop, 1) := by decide +kernel
theorem d_193_9 : decode (mB 193) 9 = .ok (.aload_n 0, 1) := by decide +kernel
theorem d_193_10 : decode (mB 193) 10 = .ok (.iload_n 1, 1) := by decide +kernel
theorem d_193_11 : decode (mB 193) 11 = .ok (.invokevirtual 123, 3) := by decide +kernel
theorem d_193_14 : decode (mB 193) 14 = .ok (.areturn, 1) := by decide +kernel
theorem d_194_0 : decode (mB 194) 0 = .ok (.iload_n 3, 1) := by decide +kernel
theorem d_194_1 : decode (mB 194) 1 = .ok (.aload_n 2, 1) := by decide +kernel
theorem d_194_2 : decode (mB 194) 2 = .ok (.arraylength, 1) := by decide +kernel
theorem d_194_3 : decode (mB 194) 3 = .ok (.if_icmp .ne 8, 3) := by decide +kernel
theorem d_194_6 : decode (mB 194) 6 = .ok (.aload_n 0, 1) := by decide +kernel
theorem d_194_7 : decode (mB 194) 7 = .ok (.invokevirtual 129, 3) := by decide +kernel
theorem d_194_10 : decode (mB 194) 10 = .ok (.astore_n 2, 1) := by decide +kernel
theorem d_194_11 : decode (mB 194) 11 = .ok (.aload_n 2, 1) := by decide +kernel
theorem d_194_12 : decode (mB 194) 12 = .ok (.iload_n 3, 1) := by decide +kernel
theorem d_194_13 : decode (mB 194) 13 = .ok (.aload_n 1, 1) := by decide +kernel
theorem d_194_14 : decode (mB 194) 14 = .ok (.aastore, 1) := by decide +kernel
theorem d_194_15 : decode (mB 194) 15 = .ok (.aload_n 0, 1) := by decide +kernel
theorem d_194_16 : decode (mB 194) 16 = .ok (.iload_n 3, 1) := by decide +kernel
theorem d_194_17 : decode (mB 194) 17 = .ok (.iconst 1, 1) := by decide +kernel
theorem d_194_18 : decode (mB 194) 18 = .ok (.iadd, 1) := by decide +kernel
theorem d_194_19 : decode (mB 194) 19 = .ok (.putfield 48, 3) := by decide +kernel
theorem d_194_22 : decode (mB 194) 22 = .ok (.return_, 1) := by decide +kernel
theorem d_195_0 : decode (mB 195) 0 = .ok (.aload_n 0, 1) := by decide +kernel
theorem d_195_1 : decode (mB 195) 1 = .ok (.dup, 1) := by decide +kernel
theorem d_195_2 : decode (mB 195) 2 = .ok (.getfield 63, 3) := by decide +kernel
theorem d_195_5 : decode (mB 195) 5 = .ok (.iconst 1, 1) := by decide +kernel
theorem d_195_6 : decode (mB 195) 6 = .ok (.iadd, 1) := by decide +kernel
theorem d_195_7 : decode (mB 195) 7 = .ok (.putfield 63, 3) := by decide +kernel
theorem d_195_10 : decode (mB 195) 10 = .ok (.aload_n 0, 1) := by decide +kernel
theorem d_195_11 : decode (mB 195) 11 = .ok (.aload_n 1, 1) := by decide +kernel
theorem d_195_12 : decode (mB 195) 12 = .ok (.aload_n 0, 1) := by decide +kernel
theorem d_195_13 : decode (mB 195) 13 = .ok (.getfield 9, 3) := by decide +kernel
theorem d_195_16 : decode (mB 195) 16 = .ok (.aload_n 0, 1) := by decide +kernel
theorem d_195_17 : decode (mB 195) 17 = .ok (.getfield 48, 3) := by decide +kernel
theorem d_195_20 : decode (mB 195) 20 = .ok (.invokevirtual 131, 3) := by decide +kernel
theorem d_195_23 : decode (mB 195) 23 = .ok (.iconst 1, 1) := by decide +kernel
theorem d_195_24 : decode (mB 195) 24 = .ok (.ireturn, 1) := by decide +kernel
theorem d_196_0 : decode (mB 196) 0 = .ok (.aload_n 0, 1) := by decide +kernel
theorem d_196_1 : decode (mB 196) 1 = .ok (.iload_n 1, 1) := by decide +kernel
theorem d_196_2 : decode (mB 196) 2 = .ok (.invokevirtual 135, 3) := by decide +kernel
theorem d_196_5 : decode (mB 196) 5 = .ok (.aload_n 0, 1) := by decide +kernel
theorem d_196_6 : decode (mB 196) 6 = .ok (.dup, 1) := by decide +kernel
theorem d_196_7 : decode (mB 196) 7 = .ok (.getfield 63, 3) := by decide +kernel
theorem d_196_10 : decode (mB 196) 10 = .ok (.iconst 1, 1) := by decide +kernel
theorem d_196_11 : decode (mB 196) 11 = .ok (.iadd, 1) := by decide +kernel
theorem d_196_12 : decode (mB 196) 12 = .ok (.putfield 63, 3) := by decide +kernel
theorem d_196_15 : decode (mB 196) 15 = .ok (.aload_n 0, 1) := by decide +kernel
theorem d_196_16 : decode (mB 196) 16 = .ok (.getfield 48, 3) := by decide +kernel
theorem d_196_19 : decode (mB 196) 19 = .ok (.dup, 1) := by decide +kernel
theorem d_196_20 : decode (mB 196) 20 = .ok (.istore_n 3, 1) := by decide +kernel
theorem d_196_21 : decode (mB 196) 21 = .ok (.aload_n 0, 1) := by decide +kernel
theorem d_196_22 : decode (mB 196) 22 = .ok (.getfield 9, 3) := by decide +kernel
theorem d_196_25 : decode (mB 196) 25 = .ok (.dup, 1) := by decide +kernel
theorem d_196_26 : decode (mB 196) 26 = .ok (.astore 4, 2) := by decide +kernel
theorem d_196_28 : decode (mB 196) 28 = .ok (.arraylength, 1) := by decide +kernel
theorem d_196_29 : decode (mB 196) 29 = .ok (.if_icmp .ne 9, 3) := by decide +kernel
theorem d_196_32 : decode (mB 196) 32 = .ok (.aload_n 0, 1) := by decide +kernel
theorem d_196_33 : decode (mB 196) 33 = .ok (.invokevirtual 129, 3) := by decide +kernel
theorem d_196_36 : decode (mB 196) 36 = .ok (.astore 4, 2) := by decide +kernel
theorem d_196_38 : decode (mB 196) 38 = .ok (.aload 4, 2) := by decide +kernel
theorem d_196_40 : decode (mB 196) 40 = .ok (.iload_n 1, 1) := by decide +kernel
theorem d_196_41 : decode (mB 196) 41 = .ok (.aload 4, 2) := by decide +kernel
theorem d_196_43 : decode (mB 196) 43 = .ok (.iload_n 1, 1) := by decide +kernel
theorem d_196_44 : decode (mB 196) 44 = .ok (.iconst 1, 1) := by decide +kernel
theorem d_196_45 : decode (mB 196) 45 = .ok (.iadd, 1) := by decide +kernel
theorem d_196_46 : decode (mB 196) 46 = .ok (.iload_n 3, 1) := by decide +kernel
theorem d_196_47 : decode (mB 196) 47 = .ok (.iload_n 1, 1) := by decide +kernel
theorem d_196_48 : decode (mB 196) 48 = .ok (.isub, 1) := by decide +kernel
theorem d_196_49 : decode (mB 196) 49 = .ok (.invokestatic 112, 3) := by decide +kernel
theorem d_196_52 : decode (mB 196) 52 = .ok (.aload 4, 2) := by decide +kernel
theorem d_196_54 : decode (mB 196) 54 = .ok (.iload_n 1, 1) := by decide +kernel
theorem d_196_55 : decode (mB 196) 55 = .ok (.aload_n 2, 1) := by decide +kernel
theorem d_196_56 : decode (mB 196) 56 = .ok (.aastore, 1) := by decide +kernel
theorem d_196_57 : decode (mB 196) 57 = .ok (.aload_n 0, 1) := by decide +kernel
theorem d_196_58 : decode (mB 196) 58 = .ok (.iload_n 3, 1) := by decide +kernel
theorem d_196_59 : decode (mB 196) 59 = .ok (.iconst 1, 1) := by decide +kernel
theorem d_196_60 : decode (mB 196) 60 = .ok (.iadd, 1) := by decide +kernel
theorem d_196_61 : decode (mB 196) 61 = .ok (.putfield 48, 3) := by decide +kernel
theorem d_196_64 : decode (mB 196) 64 = .ok (.return_, 1) := by decide +kernel
theorem d_197_0 : decode (mB 197) 0 = .ok (.iload_n 1, 1) := by decide +kernel
theorem d_197_1 : decode (mB 197) 1 = .ok (.aload_n 0, 1) := by decide +kernel
theorem d_197_2 : decode (mB 197) 2 = .ok (.getfield 48, 3) := by decide +kernel
theorem d_197_5 : decode (mB 197) 5 = .ok (.invokestatic 118, 3) := by decide +kernel
theorem d_197_8 : decode (mB 197) 8 = .ok (.pop, 1) := by decide +kernel
theorem d_197_9 : decode (mB 197) 9 = .ok (.aload_n 0, 1) := by decide +kernel
theorem d_197_10 : decode (mB 197) 10 = .ok (.getfield 9, 3) := by decide +kernel
theorem d_197_13 : decode (mB 197) 13 = .ok (.astore_n 2, 1) := by decide +kernel
theorem d_197_14 : decode (mB 197) 14 = .ok (.aload_n 2, 1) := by decide +kernel
theorem d_197_15 : decode (mB 197) 15 = .ok (.iload_n 1, 1) := by decide +kernel
theorem d_197_16 : decode (mB 197) 16 = .ok (.aaload, 1) := by decide +kernel
theorem d_197_17 : decode (mB 197) 17 = .ok (.astore_n 3, 1) := by decide +kernel
theorem d_197_18 : decode (mB 197) 18 = .ok (.aload_n 0, 1) := by decide +kernel
theorem d_197_19 : decode (mB 197) 19 = .ok (.aload_n 2, 1) := by decide +kernel
theorem d_197_20 : decode (mB 197) 20 = .ok (.iload_n 1, 1) := by decide +kernel
theorem d_197_21 : decode (mB 197) 21 = .ok (.invokevirtual 144, 3) := by decide +kernel
theorem d_197_24 : decode (mB 197) 24 = .ok (.aload_n 3, 1) := by decide +kernel
theorem d_197_25 : decode (mB 197) 25 = .ok (.areturn, 1) := by decide +kernel
theorem d_198_0 : decode (mB 198) 0 = .ok (.aload_n 0, 1) := by decide +kernel
theorem d_198_1 : decode (mB 198) 1 = .ok (.dup, 1) := by decide +kernel
theorem d_198_2 : decode (mB 198) 2 = .ok (.getfield 63, 3) := by decide +kernel
theorem d_198_5 : decode (mB 198) 5 = .ok (.iconst 1, 1) := by decide +kernel
theorem d_198_6 : decode (mB 198) 6 = .ok (.iadd, 1) := by decide +kernel
theorem d_198_7 : decode (mB 198) 7 = .ok (.putfield 63, 3) := by decide +kernel
theorem d_198_10 : decode (mB 198) 10 = .ok (.aload_n 0, 1) := by decide +kernel
theorem d_198_11 : decode (mB 198) 11 = .ok (.getfield 48, 3) := by decide +kernel
theorem d_198_14 : decode (mB 198) 14 = .ok (.iconst 1, 1) := by decide +kernel
theorem d_198_15 : decode (mB 198) 15 = .ok (.isub, 1) := by decide +kernel
theorem d_198_16 : decode (mB 198) 16 = .ok (.dup, 1) := by decide +kernel
theorem d_198_17 : decode (mB 198) 17 = .ok (.istore_n 3, 1) := by decide +kernel
theorem d_198_18 : decode (mB 198) 18 = .ok (.iload_n 2, 1) := by decide +kernel
theorem d_198_19 : decode (mB 198) 19 = .ok (.if_icmp .le 15, 3) := by decide +kernel
theorem d_198_22 : decode (mB 198) 22 = .ok (.aload_n 1, 1) := by decide +kernel
theorem d_198_23 : decode (mB 198) 23 = .ok (.iload_n 2, 1) := by decide +kernel
theorem d_198_24 : decode (mB 198) 24 = .ok (.iconst 1, 1) := by decide +kernel
theorem d_198_25 : decode (mB 198) 25 = .ok (.iadd, 1) := by decide +kernel
theorem d_198_26 : decode (mB 198) 26 = .ok (.aload_n 1, 1) := by decide +kernel
theorem d_198_27 : decode (mB 198) 27 = .ok (.iload_n 2, 1) := by decide +kernel
theorem d_198_28 : decode (mB 198) 28 = .ok (.iload_n 3, 1) := by decide +kernel
theorem d_198_29 : decode (mB 198) 29 = .ok (.iload_n 2, 1) := by decide +kernel
theorem d_198_30 : decode (mB 198) 30 = .ok (.isub, 1) := by decide +kernel
theorem d_198_31 : decode (mB 198) 31 = .ok (.invokestatic 112, 3) := by decide +kernel
theorem d_198_34 : decode (mB 198) 34 = .ok (.aload_n 1, 1) := by decide +kernel
theorem d_198_35 : decode (mB 198) 35 = .ok (.aload_n 0, 1) := by decide +kernel
theorem d_198_36 : decode (mB 198) 36 = .ok (.iload_n 3, 1) := by decide +kernel
theorem d_198_37 : decode (mB 198) 37 = .ok (.dup_x1, 1) := by decide +kernel
theorem d_198_38 : decode (mB 198) 38 = .ok (.putfield 48, 3) := by decide +kernel
theorem d_198_41 : decode (mB 198) 41 = .ok (.aconst_null, 1) := by decide +kernel
theorem d_198_42 : decode (mB 198) 42 = .ok (.aastore, 1) := by decide +kernel
theorem d_198_43 : decode (mB 198) 43 = .ok (.return_, 1) := by decide +kernel
theorem d_199_0 : decode (mB 199) 0 = .ok (.aload_n 0, 1) := by decide +kernel
theorem d_199_1 : decode (mB 199) 1 = .ok (.dup, 1) := by decide +kernel
theorem d_199_2 : decode (mB 199) 2 = .ok (.getfield 63, 3) := by decide +kernel
theorem d_199_5 : decode (mB 199) 5 = .ok (.iconst 1, 1) := by decide +kernel
theorem d_199_6 : decode (mB 199) 6 = .ok (.iadd, 1) := by decide +kernel
theorem d_199_7 : decode (mB 199) 7 = .ok (.putfield 63, 3) := by decide +kernel
theorem d_199_10 : decode (mB 199) 10 = .ok (.aload_n 0, 1) := by decide +kernel
theorem d_199_11 : decode (mB 199) 11 = .ok (.getfield 9, 3) := by decide +kernel
theorem d_199_14 : decode (mB 199) 14 = .ok (.astore_n 1, 1) := by decide +kernel
theorem d_199_15 : decode (mB 199) 15 = .ok (.aload_n 0, 1) := by decide +kernel
theorem d_199_16 : decode (mB 199) 16 = .ok (.getfield 48, 3) := by decide +kernel
theorem d_199_19 : decode (mB 199) 19 = .ok (.istore_n 2, 1) := by decide +kernel
theorem d_199_20 : decode (mB 199) 20 = .ok (.aload_n 0, 1) := by decide +kernel
theorem d_199_21 : decode (mB 199) 21 = .ok (.iconst 0, 1) := by decide +kernel
theorem d_199_22 : decode (mB 199) 22 = .ok (.dup_x1, 1) := by decide +kernel
theorem d_199_23 : decode (mB 199) 23 = .ok (.putfield 48, 3) := by decide +kernel
theorem d_199_26 : decode (mB 199) 26 = .ok (.istore_n 3, 1) := by decide +kernel
theorem d_199_27 : decode (mB 199) 27 = .ok (.iload_n 3, 1) := by decide +kernel
theorem d_199_28 : decode (mB 199) 28 = .ok (.iload_n 2, 1) := by decide +kernel
theorem d_199_29 : decode (mB 199) 29 = .ok (.if_icmp .ge 13, 3) := by decide +kernel
theorem d_199_32 : decode (mB 199) 32 = .ok (.aload_n 1, 1) := by decide +kernel
theorem d_199_33 : decode (mB 199) 33 = .ok (.iload_n 3, 1) := by decide +kernel
theorem d_199_34 : decode (mB 199) 34 = .ok (.aconst_null, 1) := by decide +kernel
theorem d_199_35 : decode (mB 199) 35 = .ok (.aastore, 1) := by decide +kernel
theorem d_199_36 : decode (mB 199) 36 = .ok (.iinc 3 1, 3) := by decide +kernel
theorem d_199_39 : decode (mB 199) 39 = .ok (.goto (-12), 3) := by decide +kernel
theorem d_199_42 : decode (mB 199) 42 = .ok (.return_, 1) := by decide +kernel
theorem d_200_0 : decode (mB 200) 0 = .ok (.iload_n 1, 1) := by decide +kernel
theorem d_200_1 : decode (mB 200) 1 = .ok (.aload_n 0, 1) := by decide +kernel
theorem d_200_2 : decode (mB 200) 2 = .ok (.getfield 48, 3) := by decide +kernel
theorem d_200_5 : decode (mB 200) 5 = .ok (.if_icmp .gt 7, 3) := by decide +kernel
theorem d_200_8 : decode (mB 200) 8 = .ok (.iload_n 1, 1) := by decide +kernel
theorem d_200_9 : decode (mB 200) 9 = .ok (.ifCond .ge 16, 3) := by decide +kernel
theorem d_200_12 : decode (mB 200) 12 = .ok (.new 187, 3) := by decide +kernel
theorem d_200_15 : decode (mB 200) 15 = .ok (.dup, 1) := by decide +kernel
theorem d_200_16 : decode (mB 200) 16 = .ok (.aload_n 0, 1) := by decide +kernel
theorem d_200_17 : decode (mB 200) 17 = .ok (.iload_n 1, 1) := by decide +kernel
theorem d_200_18 : decode (mB 200) 18 = .ok (.invokevirtual 198, 3) := by decide +kernel
theorem d_200_21 : decode (mB 200) 21 = .ok (.invokespecial 193, 3) := by decide +kernel
theorem d_200_24 : decode (mB 200) 24 = .ok (.athrow, 1) := by decide +kernel
theorem d_200_25 : decode (mB 200) 25 = .ok (.return_, 1) := by decide +kernel
theorem d_201_0 : decode (mB 201) 0 = .ok (.iload_n 0, 1) := by decide +kernel
theorem d_201_1 : decode (mB 201) 1 = .ok (.iload_n 1, 1) := by decide +kernel
theorem d_201_2 : decode (mB 201) 2 = .ok (.aconst_null, 1) := by decide +kernel
theorem d_201_3 : decode (mB 201) 3 = .ok (.invokestatic 105, 3) := by decide +kernel
theorem d_201_6 : decode (mB 201) 6 = .ok (.ireturn, 1) := by decide +kernel
theorem d_202_0 : decode (mB 202) 0 = .ok (.iload_n 0, 1) := by decide +kernel
theorem d_202_1 : decode (mB 202) 1 = .ok (.iload_n 1, 1) := by decide +kernel
theorem d_202_2 : decode (mB 202) 2 = .ok (.iload_n 2, 1) := by decide +kernel
theorem d_202_3 : decode (mB 202) 3 = .ok (.invokestatic 194, 3) := by decide +kernel
theorem d_202_6 : decode (mB 202) 6 = .ok (.iadd, 1) := by decide +kernel
theorem d_202_7 : decode (mB 202) 7 = .ok (.istore_n 3, 1) := by decide +kernel
theorem d_202_8 : decode (mB 202) 8 = .ok (.iconst 0, 1) := by decide +kernel
theorem d_202_9 : decode (mB 202) 9 = .ok (.iload_n 3, 1) := by decide +kernel
theorem d_202_10 : decode (mB 202) 10 = .ok (.if_icmp .ge 11, 3) := by decide +kernel
theorem d_202_13 : decode (mB 202) 13 = .ok (.iload_n 3, 1) := by decide +kernel
theorem d_202_14 : decode (mB 202) 14 = .ok (.ldc 200, 2) := by decide +kernel
theorem d_202_16 : decode (mB 202) 16 = .ok (.if_icmp .gt 5, 3) := by decide +kernel
theorem d_202_19 : decode (mB 202) 19 = .ok (.iload_n 3, 1) := by decide +kernel
theorem d_202_20 : decode (mB 202) 20 = .ok (.ireturn, 1) := by decide +kernel
theorem d_202_21 : decode (mB 202) 21 = .ok (.iload_n 0, 1) := by decide +kernel
theorem d_202_22 : decode (mB 202) 22 = .ok (.iload_n 1, 1) := by decide +kernel
theorem d_202_23 : decode (mB 202) 23 = .ok (.invokestatic 201, 3) := by decide +kernel
theorem d_202_26 : decode (mB 202) 26 = .ok (.ireturn, 1) := by decide +kernel
theorem d_203_0 : decode (mB 203) 0 = .ok (.iload_n 0, 1) := by decide +kernel
theorem d_203_1 : decode (mB 203) 1 = .ok (.ifCond .lt 8, 3) := by decide +kernel
theorem d_203_4 : decode (mB 203) 4 = .ok (.iload_n 0, 1) := by decide +kernel
theorem d_203_5 : decode (mB 203) 5 = .ok (.iload_n 1, 1) := by decide +kernel
theorem d_203_6 : decode (mB 203) 6 = .ok (.if_icmp .lt 10, 3) := by decide +kernel
theorem d_203_9 : decode (mB 203) 9 = .ok (.aload_n 2, 1) := by decide +kernel
theorem d_203_10 : decode (mB 203) 10 = .ok (.iload_n 0, 1) := by decide +kernel
theorem d_203_11 : decode (mB 203) 11 = .ok (.iload_n 1, 1) := by decide +kernel
theorem d_203_12 : decode (mB 203) 12 = .ok (.invokestatic 95, 3) := by decide +kernel
theorem d_203_15 : decode (mB 203) 15 = .ok (.athrow, 1) := by decide +kernel
theorem d_203_16 : decode (mB 203) 16 = .ok (.iload_n 0, 1) := by decide +kernel
theorem d_203_17 : decode (mB 203) 17 = .ok (.ireturn, 1) := by decide +kernel
theorem d_204_0 : decode (mB 204) 0 = .ok (.iload_n 1, 1) := by decide +kernel
theorem d_204_1 : decode (mB 204) 1 = .ok (.aload_n 0, 1) := by decide +kernel
theorem d_204_2 : decode (mB 204) 2 = .ok (.arraylength, 1) := by decide +kernel
theorem d_204_3 : decode (mB 204) 3 = .ok (.if_icmp .ge 9, 3) := by decide +kernel
theorem d_204_6 : decode (mB 204) 6 = .ok (.aload_n 0, 1) := by decide +kernel
theorem d_204_7 : decode (mB 204) 7 = .ok (.iload_n 1, 1) := by decide +kernel
theorem d_204_8 : decode (mB 204) 8 = .ok (.iaload, 1) := by decide +kernel
theorem d_204_9 : decode (mB 204) 9 = .ok (.goto 4, 3) := by decide +kernel
theorem d_204_12 : decode (mB 204) 12 = .ok (.iconst 0, 1) := by decide +kernel
theorem d_204_13 : decode (mB 204) 13 = .ok (.ireturn, 1) := by decide +kernel
theorem d_205_0 : decode (mB 205) 0 = .ok (.aload_n 3, 1) := by decide +kernel
theorem d_205_1 : decode (mB 205) 1 = .ok (.iconst 0, 1) := by decide +kernel
theorem d_205_2 : decode (mB 205) 2 = .ok (.aload_n 0, 1) := by decide +kernel
theorem d_205_3 : decode (mB 205) 3 = .ok (.iload_n 1, 1) := by decide +kernel
theorem d_205_4 : decode (mB 205) 4 = .ok (.iload_n 2, 1) := by decide +kernel
theorem d_205_5 : decode (mB 205) 5 = .ok (.invokevirtual 7, 3) := by decide +kernel
theorem d_205_8 : decode (mB 205) 8 = .ok (.i2l, 1) := by decide +kernel
theorem d_205_9 : decode (mB 205) 9 = .ok (.lastore, 1) := by decide +kernel
theorem d_205_10 : decode (mB 205) 10 = .ok (.goto 7, 3) := by decide +kernel
theorem d_205_13 : decode (mB 205) 13 = .ok (.astore 4, 2) := by decide +kernel
theorem d_205_15 : decode (mB 205) 15 = .ok (.iconst 1, 1) := by decide +kernel
theorem d_205_16 : decode (mB 205) 16 = .ok (.ireturn, 1) := by decide +kernel
theorem d_205_17 : decode (mB 205) 17 = .ok (.iconst 0, 1) := by decide +kernel
theorem d_205_18 : decode (mB 205) 18 = .ok (.ireturn, 1) := by decide +kernel
theorem d_207_0 : decode (mB 207) 0 = .ok (.new 8, 3) := by decide +kernel
theorem d_207_3 : decode (mB 207) 3 = .ok (.dup, 1) := by decide +kernel
theorem d_207_4 : decode (mB 207) 4 = .ok (.aload_n 0, 1) := by decide +kernel
theorem d_207_5 : decode (mB 207) 5 = .ok (.iconst 0, 1) := by decide +kernel
theorem d_207_6 : decode (mB 207) 6 = .ok (.invokestatic 15, 3) := by decide +kernel
theorem d_207_9 : decode (mB 207) 9 = .ok (.aload_n 0, 1) := by decide +kernel
theorem d_207_10 : decode (mB 207) 10 = .ok (.iconst 1, 1) := by decide +kernel
theorem d_207_11 : decode (mB 207) 11 = .ok (.invokestatic 15, 3) := by decide +kernel
theorem d_207_14 : decode (mB 207) 14 = .ok (.aload_n 0, 1) := by decide +kernel
theorem d_207_15 : decode (mB 207) 15 = .ok (.iconst 2, 1) := by decide +kernel
theorem d_207_16 : decode (mB 207) 16 = .ok (.invokestatic 15, 3) := by decide +kernel
theorem d_207_19 : decode (mB 207) 19 = .ok (.aload_n 0, 1) := by decide +kernel
theorem d_207_20 : decode (mB 207) 20 = .ok (.iconst 3, 1) := by decide +kernel
theorem d_207_21 : decode (mB 207) 21 = .ok (.invokestatic 15, 3) := by decide +kernel
theorem d_207_24 : decode (mB 207) 24 = .ok (.invokespecial 21, 3) := by decide +kernel
theorem d_207_27 : decode (mB 207) 27 = .ok (.astore_n 1, 1) := by decide +kernel
theorem d_207_28 : decode (mB 207) 28 = .ok (.new 24, 3) := by decide +kernel
theorem d_207_31 : decode (mB 207) 31 = .ok (.dup, 1) := by decide +kernel
theorem d_207_32 : decode (mB 207) 32 = .ok (.aload_n 0, 1) := by decide +kernel
theorem d_207_33 : decode (mB 207) 33 = .ok (.iconst 0, 1) := by decide +kernel
theorem d_207_34 : decode (mB 207) 34 = .ok (.invokestatic 15, 3) := by decide +kernel
theorem d_207_37 : decode (mB 207) 37 = .ok (.aload_n 0, 1) := by decide +kernel
theorem d_207_38 : decode (mB 207) 38 = .ok (.iconst 1, 1) := by decide +kernel
theorem d_207_39 : decode (mB 207) 39 = .ok (.invokestatic 15, 3) := by decide +kernel
theorem d_207_42 : decode (mB 207) 42 = .ok (.aload_n 0, 1) := by decide +kernel
theorem d_207_43 : decode (mB 207) 43 = .ok (.iconst 2, 1) := by decide +kernel
theorem d_207_44 : decode (mB 207) 44 = .ok (.invokestatic 15, 3) := by decide +kernel
theorem d_207_47 : decode (mB 207) 47 = .ok (.aload_n 0, 1) := by decide +kernel
theorem d_207_48 : decode (mB 207) 48 = .ok (.iconst 3, 1) := by decide +kernel
theorem d_207_49 : decode (mB 207) 49 = .ok (.invokestatic 15, 3) := by decide +kernel
theorem d_207_52 : decode (mB 207) 52 = .ok (.invokespecial 26, 3) := by decide +kernel
theorem d_207_55 : decode (mB 207) 55 = .ok (.astore_n 2, 1) := by decide +kernel
theorem d_207_56 : decode (mB 207) 56 = .ok (.iconst 1, 1) := by decide +kernel
theorem d_207_57 : decode (mB 207) 57 = .ok (.newarray .long, 2) := by decide +kernel
theorem d_207_59 : decode (mB 207) 59 = .ok (.astore_n 3, 1) := by decide +kernel
theorem d_207_60 : decode (mB 207) 60 = .ok (.iconst 4, 1) := by decide +kernel
theorem d_207_61 : decode (mB 207) 61 = .ok (.istore 4, 2) := by decide +kernel
theorem d_207_63 : decode (mB 207) 63 = .ok (.iload 4, 2) := by decide +kernel
theorem d_207_65 : decode (mB 207) 65 = .ok (.aload_n 0, 1) := by decide +kernel
theorem d_207_66 : decode (mB 207) 66 = .ok (.arraylength, 1) := by decide +kernel
theorem d_207_67 : decode (mB 207) 67 = .ok (.bipush 6, 2) := by decide +kernel
theorem d_207_69 : decode (mB 207) 69 = .ok (.isub, 1) := by decide +kernel
theorem d_207_70 : decode (mB 207) 70 = .ok (.if_icmp .gt 825, 3) := by decide +kernel
theorem d_207_73 : decode (mB 207) 73 = .ok (.aload_n 0, 1) := by decide +kernel
theorem d_207_74 : decode (mB 207) 74 = .ok (.iload 4, 2) := by decide +kernel
theorem d_207_76 : decode (mB 207) 76 = .ok (.iaload, 1) := by decide +kernel
theorem d_207_77 : decode (mB 207) 77 = .ok (.bipush 31, 2) := by decide +kernel
theorem d_207_79 : decode (mB 207) 79 = .ok (.iand, 1) := by decide +kernel
theorem d_207_80 : decode (mB 207) 80 = .ok (.tableswitch 809 0 19 #[96, 169, 206, 231, 256, 281, 349, 398, 423, 448, 473, 498, 523, 560, 599, 624, 649, 686, 735, 784], 96) := by decide +kernel
theorem d_207_176 : decode (mB 207) 176 = .ok (.aload_n 1, 1) := by decide +kernel
theorem d_207_177 : decode (mB 207) 177 = .ok (.aload_n 0, 1) := by decide +kernel
theorem d_207_178 : decode (mB 207) 178 = .ok (.iload 4, 2) := by decide +kernel
theorem d_207_180 : decode (mB 207) 180 = .ok (.iconst 1, 1) := by decide +kernel
theorem d_207_181 : decode (mB 207) 181 = .ok (.iadd, 1) := by decide +kernel
theorem d_207_182 : decode (mB 207) 182 = .ok (.iaload, 1) := by decide +kernel
theorem d_207_183 : decode (mB 207) 183 = .ok (.aload_n 0, 1) := by decide +kernel
theorem d_207_184 : decode (mB 207) 184 = .ok (.iload 4, 2) := by decide +kernel
theorem d_207_186 : decode (mB 207) 186 = .ok (.iconst 2, 1) := by decide +kernel
theorem d_207_187 : decode (mB 207) 187 = .ok (.iadd, 1) := by decide +kernel
theorem d_207_188 : decode (mB 207) 188 = .ok (.iaload, 1) := by decide +kernel
theorem d_207_189 : decode (mB 207) 189 = .ok (.aload_n 0, 1) := by decide +kernel
theorem d_207_190 : decode (mB 207) 190 = .ok (.iload 4, 2) := by decide +kernel
theorem d_207_192 : decode (mB 207) 192 = .ok (.iconst 3, 1) := by decide +kernel
theorem d_207_193 : decode (mB 207) 193 = .ok (.iadd, 1) := by decide +kernel
theorem d_207_194 : decode (mB 207) 194 = .ok (.iaload, 1) := by decide +kernel
theorem d_207_195 : decode (mB 207) 195 = .ok (.aload_n 0, 1) := by decide +kernel
theorem d_207_196 : decode (mB 207) 196 = .ok (.iload 4, 2) := by decide +kernel
theorem d_207_198 : decode (mB 207) 198 = .ok (.iconst 4, 1) := by decide +kernel
theorem d_207_199 : decode (mB 207) 199 = .ok (.iadd, 1) := by decide +kernel
theorem d_207_200 : decode (mB 207) 200 = .ok (.iaload, 1) := by decide +kernel
theorem d_207_201 : decode (mB 207) 201 = .ok (.aload_n 0, 1) := by decide +kernel
theorem d_207_202 : decode (mB 207) 202 = .ok (.iload 4, 2) := by decide +kernel
theorem d_207_204 : decode (mB 207) 204 = .ok (.iconst 5, 1) := by decide +kernel
theorem d_207_205 : decode (mB 207) 205 = .ok (.iadd, 1) := by decide +kernel
theorem d_207_206 : decode (mB 207) 206 = .ok (.iaload, 1) := by decide +kernel
theorem d_207_207 : decode (mB 207) 207 = .ok (.invokevirtual 27, 3) := by decide +kernel
theorem d_207_210 : decode (mB 207) 210 = .ok (.aload_n 2, 1) := by decide +kernel
theorem d_207_211 : decode (mB 207) 211 = .ok (.aload_n 0, 1) := by decide +kernel
theorem d_207_212 : decode (mB 207) 212 = .ok (.iload 4, 2) := by decide +kernel
theorem d_207_214 : decode (mB 207) 214 = .ok (.iconst 1, 1) := by decide +kernel
theorem d_207_215 : decode (mB 207) 215 = .ok (.iadd, 1) := by decide +kernel
theorem d_207_216 : decode (mB 207) 216 = .ok (.iaload, 1) := by decide +kernel
theorem d_207_217 : decode (mB 207) 217 = .ok (.aload_n 0, 1) := by decide +kernel
theorem d_207_218 : decode (mB 207) 218 = .ok (.iload 4, 2) := by decide +kernel
theorem d_207_220 : decode (mB 207) 220 = .ok (.iconst 2, 1) := by decide +kernel
theorem d_207_221 : decode (mB 207) 221 = .ok (.iadd, 1) := by decide +kernel
theorem d_207_222 : decode (mB 207) 222 = .ok (.iaload, 1) := by decide +kernel
theorem d_207_223 : decode (mB 207) 223 = .ok (.aload_n 0, 1) := by decide +kernel
theorem d_207_224 : decode (mB 207) 224 = .ok (.iload 4, 2) := by decide +kernel
theorem d_207_226 : decode (mB 207) 226 = .ok (.iconst 3, 1) := by decide +kernel
theorem d_207_227 : decode (mB 207) 227 = .ok (.iadd, 1) := by decide +kernel
theorem d_207_228 : decode (mB 207) 228 = .ok (.iaload, 1) := by decide +kernel
theorem d_207_229 : decode (mB 207) 229 = .ok (.aload_n 0, 1) := by decide +kernel
theorem d_207_230 : decode (mB 207) 230 = .ok (.iload 4, 2) := by decide +kernel
theorem d_207_232 : decode (mB 207) 232 = .ok (.iconst 4, 1) := by decide +kernel
theorem d_207_233 : decode (mB 207) 233 = .ok (.iadd, 1) := by decide +kernel
theorem d_207_234 : decode (mB 207) 234 = .ok (.iaload, 1) := by decide +kernel
theorem d_207_235 : decode (mB 207) 235 = .ok (.aload_n 0, 1) := by decide +kernel
theorem d_207_236 : decode (mB 207) 236 = .ok (.iload 4, 2) := by decide +kernel
theorem d_207_238 : decode (mB 207) 238 = .ok (.iconst 5, 1) := by decide +kernel
theorem d_207_239 : decode (mB 207) 239 = .ok (.iadd, 1) := by decide +kernel
theorem d_207_240 : decode (mB 207) 240 = .ok (.iaload, 1) := by decide +kernel
theorem d_207_241 : decode (mB 207) 241 = .ok (.invokevirtual 31, 3) := by decide +kernel
theorem d_207_244 : decode (mB 207) 244 = .ok (.if_icmp .eq 645, 3) := by decide +kernel
theorem d_207_247 : decode (mB 207) 247 = .ok (.iconst 0, 1) := by decide +kernel
theorem d_207_248 : decode (mB 207) 248 = .ok (.ireturn, 1) := by decide +kernel
theorem d_207_249 : decode (mB 207) 249 = .ok (.aload_n 1, 1) := by decide +kernel
theorem d_207_250 : decode (mB 207) 250 = .ok (.aload_n 0, 1) := by decide +kernel
theorem d_207_251 : decode (mB 207) 251 = .ok (.iload 4, 2) := by decide +kernel
theorem d_207_253 : decode (mB 207) 253 = .ok (.iconst 1, 1) := by decide +kernel
theorem d_207_254 : decode (mB 207) 254 = .ok (.iadd, 1) := by decide +kernel
theorem d_207_255 : decode (mB 207) 255 = .ok (.iaload, 1) := by decide +kernel
theorem d_207_256 : decode (mB 207) 256 = .ok (.aload_n 0, 1) := by decide +kernel
theorem d_207_257 : decode (mB 207) 257 = .ok (.iload 4, 2) := by decide +kernel
theorem d_207_259 : decode (mB 207) 259 = .ok (.iconst 2, 1) := by decide +kernel
theorem d_207_260 : decode (mB 207) 260 = .ok (.iadd, 1) := by decide +kernel
theorem d_207_261 : decode (mB 207) 261 = .ok (.iaload, 1) := by decide +kernel
theorem d_207_262 : decode (mB 207) 262 = .ok (.invokevirtual 32, 3) := by decide +kernel
theorem d_207_265 : decode (mB 207) 265 = .ok (.aload_n 2, 1) := by decide +kernel
theorem d_207_266 : decode (mB 207) 266 = .ok (.aload_n 0, 1) := by decide +kernel
theorem d_207_267 : decode (mB 207) 267 = .ok (.iload 4, 2) := by decide +kernel
theorem d_207_269 : decode (mB 207) 269 = .ok (.iconst 1, 1) := by decide +kernel
theorem d_207_270 : decode (mB 207) 270 = .ok (.iadd, 1) := by decide +kernel
theorem d_207_271 : decode (mB 207) 271 = .ok (.iaload, 1) := by decide +kernel
theorem d_207_272 : decode (mB 207) 272 = .ok (.aload_n 0, 1) := by decide +kernel
theorem d_207_273 : decode (mB 207) 273 = .ok (.iload 4, 2) := by decide +kernel
theorem d_207_275 : decode (mB 207) 275 = .ok (.iconst 2, 1) := by decide +kernel
theorem d_207_276 : decode (mB 207) 276 = .ok (.iadd, 1) := by decide +kernel
theorem d_207_277 : decode (mB 207) 277 = .ok (.iaload, 1) := by decide +kernel
theorem d_207_278 : decode (mB 207) 278 = .ok (.invokevirtual 35, 3) := by decide +kernel
theorem d_207_281 : decode (mB 207) 281 = .ok (.if_icmp .eq 608, 3) := by decide +kernel
theorem d_207_284 : decode (mB 207) 284 = .ok (.iconst 0, 1) := by decide +kernel
theorem d_207_285 : decode (mB 207) 285 = .ok (.ireturn, 1) := by decide +kernel
theorem d_207_286 : decode (mB 207) 286 = .ok (.aload_n 1, 1) := by decide +kernel
theorem d_207_287 : decode (mB 207) 287 = .ok (.aload_n 0, 1) := by decide +kernel
theorem d_207_288 : decode (mB 207) 288 = .ok (.iload 4, 2) := by decide +kernel
theorem d_207_290 : decode (mB 207) 290 = .ok (.iconst 1, 1) := by decide +kernel
theorem d_207_291 : decode (mB 207) 291 = .ok (.iadd, 1) := by decide +kernel
theorem d_207_292 : decode (mB 207) 292 = .ok (.iaload, 1) := by decide +kernel
theorem d_207_293 : decode (mB 207) 293 = .ok (.invokevirtual 36, 3) := by decide +kernel
theorem d_207_296 : decode (mB 207) 296 = .ok (.aload_n 2, 1) := by decide +kernel
theorem d_207_297 : decode (mB 207) 297 = .ok (.aload_n 0, 1) := by decide +kernel
theorem d_207_298 : decode (mB 207) 298 = .ok (.iload 4, 2) := by decide +kernel
theorem d_207_300 : decode (mB 207) 300 = .ok (.iconst 1, 1) := by decide +kernel
theorem d_207_301 : decode (mB 207) 301 = .ok (.iadd, 1) := by decide +kernel
theorem d_207_302 : decode (mB 207) 302 = .ok (.iaload, 1) := by decide +kernel
theorem d_207_303 : decode (mB 207) 303 = .ok (.invokevirtual 40, 3) := by decide +kernel
theorem d_207_306 : decode (mB 207) 306 = .ok (.if_icmp .eq 583, 3) := by decide +kernel
theorem d_207_309 : decode (mB 207) 309 = .ok (.iconst 0, 1) := by decide +kernel
theorem d_207_310 : decode (mB 207) 310 = .ok (.ireturn, 1) := by decide +kernel
theorem d_207_311 : decode (mB 207) 311 = .ok (.aload_n 1, 1) := by decide +kernel
theorem d_207_312 : decode (mB 207) 312 = .ok (.aload_n 0, 1) := by decide +kernel
theorem d_207_313 : decode (mB 207) 313 = .ok (.iload 4, 2) := by decide +kernel
theorem d_207_315 : decode (mB 207) 315 = .ok (.iconst 1, 1) := by decide +kernel
theorem d_207_316 : decode (mB 207) 316 = .ok (.iadd, 1) := by decide +kernel
theorem d_207_317 : decode (mB 207) 317 = .ok (.iaload, 1) := by decide +kernel
theorem d_207_318 : decode (mB 207) 318 = .ok (.invokevirtual 41, 3) := by decide +kernel
theorem d_207_321 : decode (mB 207) 321 = .ok (.aload_n 2, 1) := by decide +kernel
theorem d_207_322 : decode (mB 207) 322 = .ok (.aload_n 0, 1) := by decide +kernel
theorem d_207_323 : decode (mB 207) 323 = .ok (.iload 4, 2) := by decide +kernel
theorem d_207_325 : decode (mB 207) 325 = .ok (.iconst 1, 1) := by decide +kernel
theorem d_207_326 : decode (mB 207) 326 = .ok (.iadd, 1) := by decide +kernel
theorem d_207_327 : decode (mB 207) 327 = .ok (.iaload, 1) := by decide +kernel
theorem d_207_328 : decode (mB 207) 328 = .ok (.invokevirtual 45, 3) := by decide +kernel
theorem d_207_331 : decode (mB 207) 331 = .ok (.if_icmp .eq 558, 3) := by decide +kernel
theorem d_207_334 : decode (mB 207) 334 = .ok (.iconst 0, 1) := by decide +kernel
theorem d_207_335 : decode (mB 207) 335 = .ok (.ireturn, 1) := by decide +kernel
theorem d_207_336 : decode (mB 207) 336 = .ok (.aload_n 1, 1) := by decide +kernel
theorem d_207_337 : decode (mB 207) 337 = .ok (.aload_n 0, 1) := by decide +kernel
theorem d_207_338 : decode (mB 207) 338 = .ok (.iload 4, 2) := by decide +kernel
theorem d_207_340 : decode (mB 207) 340 = .ok (.iconst 1, 1) := by decide +kernel
theorem d_207_341 : decode (mB 207) 341 = .ok (.iadd, 1) := by decide +kernel
theorem d_207_342 : decode (mB 207) 342 = .ok (.iaload, 1) := by decide +kernel
theorem d_207_343 : decode (mB 207) 343 = .ok (.invokevirtual 46, 3) := by decide +kernel
theorem d_207_346 : decode (mB 207) 346 = .ok (.aload_n 2, 1) := by decide +kernel
theorem d_207_347 : decode (mB 207) 347 = .ok (.aload_n 0, 1) := by decide +kernel
theorem d_207_348 : decode (mB 207) 348 = .ok (.iload 4, 2) := by decide +kernel
theorem d_207_350 : decode (mB 207) 350 = .ok (.iconst 1, 1) := by decide +kernel
theorem d_207_351 : decode (mB 207) 351 = .ok (.iadd, 1) := by decide +kernel
theorem d_207_352 : decode (mB 207) 352 = .ok (.iaload, 1) := by decide +kernel
theorem d_207_353 : decode (mB 207) 353 = .ok (.invokevirtual 49, 3) := by decide +kernel
theorem d_207_356 : decode (mB 207) 356 = .ok (.if_icmp .eq 533, 3) := by decide +kernel
theorem d_207_359 : decode (mB 207) 359 = .ok (.iconst 0, 1) := by decide +kernel
theorem d_207_360 : decode (mB 207) 360 = .ok (.ireturn, 1) := by decide +kernel
theorem d_207_361 : decode (mB 207) 361 = .ok (.aload_n 1, 1) := by decide +kernel
theorem d_207_362 : decode (mB 207) 362 = .ok (.aload_n 0, 1) := by decide +kernel
theorem d_207_363 : decode (mB 207) 363 = .ok (.iload 4, 2) := by decide +kernel
theorem d_207_365 : decode (mB 207) 365 = .ok (.iconst 1, 1) := by decide +kernel
theorem d_207_366 : decode (mB 207) 366 = .ok (.iadd, 1) := by decide +kernel
theorem d_207_367 : decode (mB 207) 367 = .ok (.iaload, 1) := by decide +kernel
theorem d_207_368 : decode (mB 207) 368 = .ok (.aload_n 0, 1) := by decide +kernel
theorem d_207_369 : decode (mB 207) 369 = .ok (.iload 4, 2) := by decide +kernel
theorem d_207_371 : decode (mB 207) 371 = .ok (.iconst 2, 1) := by decide +kernel
theorem d_207_372 : decode (mB 207) 372 = .ok (.iadd, 1) := by decide +kernel
theorem d_207_373 : decode (mB 207) 373 = .ok (.iaload, 1) := by decide +kernel
theorem d_207_374 : decode (mB 207) 374 = .ok (.aload_n 3, 1) := by decide +kernel
theorem d_207_375 : decode (mB 207) 375 = .ok (.invokestatic 50, 3) := by decide +kernel
theorem d_207_378 : decode (mB 207) 378 = .ok (.istore 5, 2) := by decide +kernel
theorem d_207_380 : decode (mB 207) 380 = .ok (.aload_n 2, 1) := by decide +kernel
theorem d_207_381 : decode (mB 207) 381 = .ok (.aload_n 0, 1) := by decide +kernel
theorem d_207_382 : decode (mB 207) 382 = .ok (.iload 4, 2) := by decide +kernel
theorem d_207_384 : decode (mB 207) 384 = .ok (.iconst 1, 1) := by decide +kernel
theorem d_207_385 : decode (mB 207) 385 = .ok (.iadd, 1) := by decide +kernel
theorem d_207_386 : decode (mB 207) 386 = .ok (.iaload, 1) := by decide +kernel
theorem d_207_387 : decode (mB 207) 387 = .ok (.aload_n 0, 1) := by decide +kernel
theorem d_207_388 : decode (mB 207) 388 = .ok (.iload 4, 2) := by decide +kernel
theorem d_207_390 : decode (mB 207) 390 = .ok (.iconst 2, 1) := by decide +kernel
theorem d_207_391 : decode (mB 207) 391 = .ok (.iadd, 1) := by decide +kernel
theorem d_207_392 : decode (mB 207) 392 = .ok (.iaload, 1) := by decide +kernel
theorem d_207_393 : decode (mB 207) 393 = .ok (.invokevirtual 53, 3) := by decide +kernel
theorem d_207_396 : decode (mB 207) 396 = .ok (.istore 6, 2) := by decide +kernel
theorem d_207_398 : decode (mB 207) 398 = .ok (.aload_n 2, 1) := by decide +kernel
theorem d_207_399 : decode (mB 207) 399 = .ok (.invokevirtual 54, 3) := by decide +kernel
theorem d_207_402 : decode (mB 207) 402 = .ok (.iload 5, 2) := by decide +kernel
theorem d_207_404 : decode (mB 207) 404 = .ok (.if_icmp .eq 5, 3) := by decide +kernel
theorem d_207_407 : decode (mB 207) 407 = .ok (.iconst 0, 1) := by decide +kernel
theorem d_207_408 : decode (mB 207) 408 = .ok (.ireturn, 1) := by decide +kernel
theorem d_207_409 : decode (mB 207) 409 = .ok (.iload 5, 2) := by decide +kernel
theorem d_207_411 : decode (mB 207) 411 = .ok (.ifCond .ne 15, 3) := by decide +kernel
theorem d_207_414 : decode (mB 207) 414 = .ok (.aload_n 3, 1) := by decide +kernel
theorem d_207_415 : decode (mB 207) 415 = .ok (.iconst 0, 1) := by decide +kernel
theorem d_207_416 : decode (mB 207) 416 = .ok (.laload, 1) := by decide +kernel
theorem d_207_417 : decode (mB 207) 417 = .ok (.iload 6, 2) := by decide +kernel
theorem d_207_419 : decode (mB 207) 419 = .ok (.i2l, 1) := by decide +kernel
theorem d_207_420 : decode (mB 207) 420 = .ok (.lcmp, 1) := by decide +kernel
theorem d_207_421 : decode (mB 207) 421 = .ok (.ifCond .eq 5, 3) := by decide +kernel
theorem d_207_424 : decode (mB 207) 424 = .ok (.iconst 0, 1) := by decide +kernel
theorem d_207_425 : decode (mB 207) 425 = .ok (.ireturn, 1) := by decide +kernel
theorem d_207_426 : decode (mB 207) 426 = .ok (.goto 463, 3) := by decide +kernel
theorem d_207_429 : decode (mB 207) 429 = .ok (.aload_n 1, 1) := by decide +kernel
theorem d_207_430 : decode (mB 207) 430 = .ok (.aload_n 0, 1) := by decide +kernel
theorem d_207_431 : decode (mB 207) 431 = .ok (.iload 4, 2) := by decide +kernel
theorem d_207_433 : decode (mB 207) 433 = .ok (.iconst 1, 1) := by decide +kernel
theorem d_207_434 : decode (mB 207) 434 = .ok (.iadd, 1) := by decide +kernel
theorem d_207_435 : decode (mB 207) 435 = .ok (.iaload, 1) := by decide +kernel
theorem d_207_436 : decode (mB 207) 436 = .ok (.aload_n 0, 1) := by decide +kernel
theorem d_207_437 : decode (mB 207) 437 = .ok (.iload 4, 2) := by decide +kernel
theorem d_207_439 : decode (mB 207) 439 = .ok (.iconst 2, 1) := by decide +kernel
theorem d_207_440 : decode (mB 207) 440 = .ok (.iadd, 1) := by decide +kernel
theorem d_207_441 : decode (mB 207) 441 = .ok (.iaload, 1) := by decide +kernel
theorem d_207_442 : decode (mB 207) 442 = .ok (.aload_n 0, 1) := by decide +kernel
theorem d_207_443 : decode (mB 207) 443 = .ok (.iload 4, 2) := by decide +kernel
theorem d_207_445 : decode (mB 207) 445 = .ok (.iconst 3, 1) := by decide +kernel
theorem d_207_446 : decode (mB 207) 446 = .ok (.iadd, 1) := by decide +kernel
theorem d_207_447 : decode (mB 207) 447 = .ok (.iaload, 1) := by decide +kernel
theorem d_207_448 : decode (mB 207) 448 = .ok (.invokevirtual 58, 3) := by decide +kernel
theorem d_207_451 : decode (mB 207) 451 = .ok (.aload_n 2, 1) := by decide +kernel
theorem d_207_452 : decode (mB 207) 452 = .ok (.aload_n 0, 1) := by decide +kernel
theorem d_207_453 : decode (mB 207) 453 = .ok (.iload 4, 2) := by decide +kernel
theorem d_207_455 : decode (mB 207) 455 = .ok (.iconst 1, 1) := by decide +kernel
theorem d_207_456 : decode (mB 207) 456 = .ok (.iadd, 1) := by decide +kernel
theorem d_207_457 : decode (mB 207) 457 = .ok (.iaload, 1) := by decide +kernel
theorem d_207_458 : decode (mB 207) 458 = .ok (.aload_n 0, 1) := by decide +kernel
theorem d_207_459 : decode (mB 207) 459 = .ok (.iload 4, 2) := by decide +kernel
theorem d_207_461 : decode (mB 207) 461 = .ok (.iconst 2, 1) := by decide +kernel
theorem d_207_462 : decode (mB 207) 462 = .ok (.iadd, 1) := by decide +kernel
theorem d_207_463 : decode (mB 207) 463 = .ok (.iaload, 1) := by decide +kernel
theorem d_207_464 : decode (mB 207) 464 = .ok (.aload_n 0, 1) := by decide +kernel
theorem d_207_465 : decode (mB 207) 465 = .ok (.iload 4, 2) := by decide +kernel
theorem d_207_467 : decode (mB 207) 467 = .ok (.iconst 3, 1) := by decide +kernel
theorem d_207_468 : decode (mB 207) 468 = .ok (.iadd, 1) := by decide +kernel
theorem d_207_469 : decode (mB 207) 469 = .ok (.iaload, 1) := by decide +kernel
theorem d_207_470 : decode (mB 207) 470 = .ok (.invokevirtual 62, 3) := by decide +kernel
theorem d_207_473 : decode (mB 207) 473 = .ok (.if_icmp .eq 416, 3) := by decide +kernel
theorem d_207_476 : decode (mB 207) 476 = .ok (.iconst 0, 1) := by decide +kernel
theorem d_207_477 : decode (mB 207) 477 = .ok (.ireturn, 1) := by decide +kernel
theorem d_207_478 : decode (mB 207) 478 = .ok (.aload_n 1, 1) := by decide +kernel
theorem d_207_479 : decode (mB 207) 479 = .ok (.aload_n 0, 1) := by decide +kernel
theorem d_207_480 : decode (mB 207) 480 = .ok (.iload 4, 2) := by decide +kernel
theorem d_207_482 : decode (mB 207) 482 = .ok (.iconst 1, 1) := by decide +kernel
theorem d_207_483 : decode (mB 207) 483 = .ok (.iadd, 1) := by decide +kernel
theorem d_207_484 : decode (mB 207) 484 = .ok (.iaload, 1) := by decide +kernel
theorem d_207_485 : decode (mB 207) 485 = .ok (.invokevirtual 63, 3) := by decide +kernel
theorem d_207_488 : decode (mB 207) 488 = .ok (.aload_n 2, 1) := by decide +kernel
theorem d_207_489 : decode (mB 207) 489 = .ok (.aload_n 0, 1) := by decide +kernel
theorem d_207_490 : decode (mB 207) 490 = .ok (.iload 4, 2) := by decide +kernel
theorem d_207_492 : decode (mB 207) 492 = .ok (.iconst 1, 1) := by decide +kernel
theorem d_207_493 : decode (mB 207) 493 = .ok (.iadd, 1) := by decide +kernel
theorem d_207_494 : decode (mB 207) 494 = .ok (.iaload, 1) := by decide +kernel
theorem d_207_495 : decode (mB 207) 495 = .ok (.invokevirtual 66, 3) := by decide +kernel
theorem d_207_498 : decode (mB 207) 498 = .ok (.if_icmp .eq 391, 3) := by decide +kernel
theorem d_207_501 : decode (mB 207) 501 = .ok (.iconst 0, 1) := by decide +kernel
theorem d_207_502 : decode (mB 207) 502 = .ok (.ireturn, 1) := by decide +kernel
theorem d_207_503 : decode (mB 207) 503 = .ok (.aload_n 1, 1) := by decide +kernel
theorem d_207_504 : decode (mB 207) 504 = .ok (.aload_n 0, 1) := by decide +kernel
theorem d_207_505 : decode (mB 207) 505 = .ok (.iload 4, 2) := by decide +kernel
theorem d_207_507 : decode (mB 207) 507 = .ok (.iconst 1, 1) := by decide +kernel
theorem d_207_508 : decode (mB 207) 508 = .ok (.iadd, 1) := by decide +kernel
theorem d_207_509 : decode (mB 207) 509 = .ok (.iaload, 1) := by decide +kernel
theorem d_207_510 : decode (mB 207) 510 = .ok (.invokevirtual 67, 3) := by decide +kernel
theorem d_207_513 : decode (mB 207) 513 = .ok (.aload_n 2, 1) := by decide +kernel
theorem d_207_514 : decode (mB 207) 514 = .ok (.aload_n 0, 1) := by decide +kernel
theorem d_207_515 : decode (mB 207) 515 = .ok (.iload 4, 2) := by decide +kernel
theorem d_207_517 : decode (mB 207) 517 = .ok (.iconst 1, 1) := by decide +kernel
theorem d_207_518 : decode (mB 207) 518 = .ok (.iadd, 1) := by decide +kernel
theorem d_207_519 : decode (mB 207) 519 = .ok (.iaload, 1) := by decide +kernel
theorem d_207_520 : decode (mB 207) 520 = .ok (.invokevirtual 70, 3) := by decide +kernel
theorem d_207_523 : decode (mB 207) 523 = .ok (.if_icmp .eq 366, 3) := by decide +kernel
theorem d_207_526 : decode (mB 207) 526 = .ok (.iconst 0, 1) := by decide +kernel
theorem d_207_527 : decode (mB 207) 527 = .ok (.ireturn, 1) := by decide +kernel
theorem d_207_528 : decode (mB 207) 528 = .ok (.aload_n 1, 1) := by decide +kernel
theorem d_207_529 : decode (mB 207) 529 = .ok (.aload_n 0, 1) := by decide +kernel
theorem d_207_530 : decode (mB 207) 530 = .ok (.iload 4, 2) := by decide +kernel
theorem d_207_532 : decode (mB 207) 532 = .ok (.iconst 1, 1) := by decide +kernel
theorem d_207_533 : decode (mB 207) 533 = .ok (.iadd, 1) := by decide +kernel
theorem d_207_534 : decode (mB 207) 534 = .ok (.iaload, 1) := by decide +kernel
theorem d_207_535 : decode (mB 207) 535 = .ok (.invokevirtual 71, 3) := by decide +kernel
theorem d_207_538 : decode (mB 207) 538 = .ok (.aload_n 2, 1) := by decide +kernel
theorem d_207_539 : decode (mB 207) 539 = .ok (.aload_n 0, 1) := by decide +kernel
theorem d_207_540 : decode (mB 207) 540 = .ok (.iload 4, 2) := by decide +kernel
theorem d_207_542 : decode (mB 207) 542 = .ok (.iconst 1, 1) := by decide +kernel
theorem d_207_543 : decode (mB 207) 543 = .ok (.iadd, 1) := by decide +kernel
theorem d_207_544 : decode (mB 207) 544 = .ok (.iaload, 1) := by decide +kernel
theorem d_207_545 : decode (mB 207) 545 = .ok (.invokevirtual 74, 3) := by decide +kernel
theorem d_207_548 : decode (mB 207) 548 = .ok (.if_icmp .eq 341, 3) := by decide +kernel
theorem d_207_551 : decode (mB 207) 551 = .ok (.iconst 0, 1) := by decide +kernel
theorem d_207_552 : decode (mB 207) 552 = .ok (.ireturn, 1) := by decide +kernel
theorem d_207_553 : decode (mB 207) 553 = .ok (.aload_n 1, 1) := by decide +kernel
theorem d_207_554 : decode (mB 207) 554 = .ok (.aload_n 0, 1) := by decide +kernel
theorem d_207_555 : decode (mB 207) 555 = .ok (.iload 4, 2) := by decide +kernel
theorem d_207_557 : decode (mB 207) 557 = .ok (.iconst 1, 1) := by decide +kernel
theorem d_207_558 : decode (mB 207) 558 = .ok (.iadd, 1) := by decide +kernel
theorem d_207_559 : decode (mB 207) 559 = .ok (.iaload, 1) := by decide +kernel
theorem d_207_560 : decode (mB 207) 560 = .ok (.invokevirtual 75, 3) := by decide +kernel
theorem d_207_563 : decode (mB 207) 563 = .ok (.aload_n 2, 1) := by decide +kernel
theorem d_207_564 : decode (mB 207) 564 = .ok (.aload_n 0, 1) := by decide +kernel
theorem d_207_565 : decode (mB 207) 565 = .ok (.iload 4, 2) := by decide +kernel
theorem d_207_567 : decode (mB 207) 567 = .ok (.iconst 1, 1) := by decide +kernel
theorem d_207_568 : decode (mB 207) 568 = .ok (.iadd, 1) := by decide +kernel
theorem d_207_569 : decode (mB 207) 569 = .ok (.iaload, 1) := by decide +kernel
theorem d_207_570 : decode (mB 207) 570 = .ok (.invokevirtual 78, 3) := by decide +kernel
theorem d_207_573 : decode (mB 207) 573 = .ok (.if_icmp .eq 316, 3) := by decide +kernel
theorem d_207_576 : decode (mB 207) 576 = .ok (.iconst 0, 1) := by decide +kernel
theorem d_207_577 : decode (mB 207) 577 = .ok (.ireturn, 1) := by decide +kernel
theorem d_207_578 : decode (mB 207) 578 = .ok (.aload_n 1, 1) := by decide +kernel
theorem d_207_579 : decode (mB 207) 579 = .ok (.aload_n 0, 1) := by decide +kernel
theorem d_207_580 : decode (mB 207) 580 = .ok (.iload 4, 2) := by decide +kernel
theorem d_207_582 : decode (mB 207) 582 = .ok (.iconst 1, 1) := by decide +kernel
theorem d_207_583 : decode (mB 207) 583 = .ok (.iadd, 1) := by decide +kernel
theorem d_207_584 : decode (mB 207) 584 = .ok (.iaload, 1) := by decide +kernel
theorem d_207_585 : decode (mB 207) 585 = .ok (.invokevirtual 79, 3) := by decide +kernel
theorem d_207_588 : decode (mB 207) 588 = .ok (.aload_n 2, 1) := by decide +kernel
theorem d_207_589 : decode (mB 207) 589 = .ok (.aload_n 0, 1) := by decide +kernel
theorem d_207_590 : decode (mB 207) 590 = .ok (.iload 4, 2) := by decide +kernel
theorem d_207_592 : decode (mB 207) 592 = .ok (.iconst 1, 1) := by decide +kernel
theorem d_207_593 : decode (mB 207) 593 = .ok (.iadd, 1) := by decide +kernel
theorem d_207_594 : decode (mB 207) 594 = .ok (.iaload, 1) := by decide +kernel
theorem d_207_595 : decode (mB 207) 595 = .ok (.invokevirtual 82, 3) := by decide +kernel
theorem d_207_598 : decode (mB 207) 598 = .ok (.if_icmp .eq 291, 3) := by decide +kernel
theorem d_207_601 : decode (mB 207) 601 = .ok (.iconst 0, 1) := by decide +kernel
theorem d_207_602 : decode (mB 207) 602 = .ok (.ireturn, 1) := by decide +kernel
theorem d_207_603 : decode (mB 207) 603 = .ok (.aload_n 1, 1) := by decide +kernel
theorem d_207_604 : decode (mB 207) 604 = .ok (.aload_n 0, 1) := by decide +kernel
theorem d_207_605 : decode (mB 207) 605 = .ok (.iload 4, 2) := by decide +kernel
theorem d_207_607 : decode (mB 207) 607 = .ok (.iconst 1, 1) := by decide +kernel
theorem d_207_608 : decode (mB 207) 608 = .ok (.iadd, 1) := by decide +kernel
theorem d_207_609 : decode (mB 207) 609 = .ok (.iaload, 1) := by decide +kernel
theorem d_207_610 : decode (mB 207) 610 = .ok (.aload_n 0, 1) := by decide +kernel
theorem d_207_611 : decode (mB 207) 611 = .ok (.iload 4, 2) := by decide +kernel
theorem d_207_613 : decode (mB 207) 613 = .ok (.iconst 2, 1) := by decide +kernel
theorem d_207_614 : decode (mB 207) 614 = .ok (.iadd, 1) := by decide +kernel
theorem d_207_615 : decode (mB 207) 615 = .ok (.iaload, 1) := by decide +kernel
theorem d_207_616 : decode (mB 207) 616 = .ok (.invokevirtual 83, 3) := by decide +kernel
theorem d_207_619 : decode (mB 207) 619 = .ok (.aload_n 2, 1) := by decide +kernel
theorem d_207_620 : decode (mB 207) 620 = .ok (.aload_n 0, 1) := by decide +kernel
theorem d_207_621 : decode (mB 207) 621 = .ok (.iload 4, 2) := by decide +kernel
theorem d_207_623 : decode (mB 207) 623 = .ok (.iconst 1, 1) := by decide +kernel
theorem d_207_624 : decode (mB 207) 624 = .ok (.iadd, 1) := by decide +kernel
theorem d_207_625 : decode (mB 207) 625 = .ok (.iaload, 1) := by decide +kernel
theorem d_207_626 : decode (mB 207) 626 = .ok (.aload_n 0, 1) := by decide +kernel
theorem d_207_627 : decode (mB 207) 627 = .ok (.iload 4, 2) := by decide +kernel
theorem d_207_629 : decode (mB 207) 629 = .ok (.iconst 2, 1) := by decide +kernel
theorem d_207_630 : decode (mB 207) 630 = .ok (.iadd, 1) := by decide +kernel
theorem d_207_631 : decode (mB 207) 631 = .ok (.iaload, 1) := by decide +kernel
theorem d_207_632 : decode (mB 207) 632 = .ok (.invokevirtual 87, 3) := by decide +kernel
theorem d_207_635 : decode (mB 207) 635 = .ok (.if_icmp .eq 254, 3) := by decide +kernel
theorem d_207_638 : decode (mB 207) 638 = .ok (.iconst 0, 1) := by decide +kernel
theorem d_207_639 : decode (mB 207) 639 = .ok (.ireturn, 1) := by decide +kernel
theorem d_207_640 : decode (mB 207) 640 = .ok (.aload_n 1, 1) := by decide +kernel
theorem d_207_641 : decode (mB 207) 641 = .ok (.aload_n 0, 1) := by decide +kernel
theorem d_207_642 : decode (mB 207) 642 = .ok (.iload 4, 2) := by decide +kernel
theorem d_207_644 : decode (mB 207) 644 = .ok (.iconst 1, 1) := by decide +kernel
theorem d_207_645 : decode (mB 207) 645 = .ok (.iadd, 1) := by decide +kernel
theorem d_207_646 : decode (mB 207) 646 = .ok (.iaload, 1) := by decide +kernel
theorem d_207_647 : decode (mB 207) 647 = .ok (.ifCond .eq 7, 3) := by decide +kernel
theorem d_207_650 : decode (mB 207) 650 = .ok (.iconst 1, 1) := by decide +kernel
theorem d_207_651 : decode (mB 207) 651 = .ok (.goto 4, 3) := by decide +kernel
theorem d_207_654 : decode (mB 207) 654 = .ok (.iconst 0, 1) := by decide +kernel
theorem d_207_655 : decode (mB 207) 655 = .ok (.invokevirtual 88, 3) := by decide +kernel
theorem d_207_658 : decode (mB 207) 658 = .ok (.aload_n 2, 1) := by decide +kernel
theorem d_207_659 : decode (mB 207) 659 = .ok (.aload_n 0, 1) := by decide +kernel
theorem d_207_660 : decode (mB 207) 660 = .ok (.iload 4, 2) := by decide +kernel
theorem d_207_662 : decode (mB 207) 662 = .ok (.iconst 1, 1) := by decide +kernel
theorem d_207_663 : decode (mB 207) 663 = .ok (.iadd, 1) := by decide +kernel
theorem d_207_664 : decode (mB 207) 664 = .ok (.iaload, 1) := by decide +kernel
theorem d_207_665 : decode (mB 207) 665 = .ok (.ifCond .eq 7, 3) := by decide +kernel
theorem d_207_668 : decode (mB 207) 668 = .ok (.iconst 1, 1) := by decide +kernel
theorem d_207_669 : decode (mB 207) 669 = .ok (.goto 4, 3) := by decide +kernel
theorem d_207_672 : decode (mB 207) 672 = .ok (.iconst 0, 1) := by decide +kernel
theorem d_207_673 : decode (mB 207) 673 = .ok (.invokevirtual 92, 3) := by decide +kernel
theorem d_207_676 : decode (mB 207) 676 = .ok (.goto 213, 3) := by decide +kernel
theorem d_207_679 : decode (mB 207) 679 = .ok (.aload_n 1, 1) := by decide +kernel
theorem d_207_680 : decode (mB 207) 680 = .ok (.aload_n 0, 1) := by decide +kernel
theorem d_207_681 : decode (mB 207) 681 = .ok (.iload 4, 2) := by decide +kernel
theorem d_207_683 : decode (mB 207) 683 = .ok (.iconst 1, 1) := by decide +kernel
theorem d_207_684 : decode (mB 207) 684 = .ok (.iadd, 1) := by decide +kernel
theorem d_207_685 : decode (mB 207) 685 = .ok (.iaload, 1) := by decide +kernel
theorem d_207_686 : decode (mB 207) 686 = .ok (.invokevirtual 93, 3) := by decide +kernel
theorem d_207_689 : decode (mB 207) 689 = .ok (.aload_n 2, 1) := by decide +kernel
theorem d_207_690 : decode (mB 207) 690 = .ok (.aload_n 0, 1) := by decide +kernel
theorem d_207_691 : decode (mB 207) 691 = .ok (.iload 4, 2) := by decide +kernel
theorem d_207_693 : decode (mB 207) 693 = .ok (.iconst 1, 1) := by decide +kernel
theorem d_207_694 : decode (mB 207) 694 = .ok (.iadd, 1) := by decide +kernel
theorem d_207_695 : decode (mB 207) 695 = .ok (.iaload, 1) := by decide +kernel
theorem d_207_696 : decode (mB 207) 696 = .ok (.invokevirtual 96, 3) := by decide +kernel
theorem d_207_699 : decode (mB 207) 699 = .ok (.if_icmp .eq 190, 3) := by decide +kernel
theorem d_207_702 : decode (mB 207) 702 = .ok (.iconst 0, 1) := by decide +kernel
theorem d_207_703 : decode (mB 207) 703 = .ok (.ireturn, 1) := by decide +kernel
theorem d_207_704 : decode (mB 207) 704 = .ok (.aload_n 1, 1) := by decide +kernel
theorem d_207_705 : decode (mB 207) 705 = .ok (.aload_n 0, 1) := by decide +kernel
theorem d_207_706 : decode (mB 207) 706 = .ok (.iload 4, 2) := by decide +kernel
theorem d_207_708 : decode (mB 207) 708 = .ok (.iconst 1, 1) := by decide +kernel
theorem d_207_709 : decode (mB 207) 709 = .ok (.iadd, 1) := by decide +kernel
theorem d_207_710 : decode (mB 207) 710 = .ok (.iaload, 1) := by decide +kernel
theorem d_207_711 : decode (mB 207) 711 = .ok (.invokevirtual 97, 3) := by decide +kernel
theorem d_207_714 : decode (mB 207) 714 = .ok (.aload_n 2, 1) := by decide +kernel
theorem d_207_715 : decode (mB 207) 715 = .ok (.aload_n 0, 1) := by decide +kernel
theorem d_207_716 : decode (mB 207) 716 = .ok (.iload 4, 2) := by decide +kernel
theorem d_207_718 : decode (mB 207) 718 = .ok (.iconst 1, 1) := by decide +kernel
theorem d_207_719 : decode (mB 207) 719 = .ok (.iadd, 1) := by decide +kernel
theorem d_207_720 : decode (mB 207) 720 = .ok (.iaload, 1) := by decide +kernel
theorem d_207_721 : decode (mB 207) 721 = .ok (.invokevirtual 100, 3) := by decide +kernel
theorem d_207_724 : decode (mB 207) 724 = .ok (.if_icmp .eq 165, 3) := by decide +kernel
theorem d_207_727 : decode (mB 207) 727 = .ok (.iconst 0, 1) := by decide +kernel
theorem d_207_728 : decode (mB 207) 728 = .ok (.ireturn, 1) := by decide +kernel
theorem d_207_729 : decode (mB 207) 729 = .ok (.aload_n 1, 1) := by decide +kernel
theorem d_207_730 : decode (mB 207) 730 = .ok (.aload_n 0, 1) := by decide +kernel
theorem d_207_731 : decode (mB 207) 731 = .ok (.iload 4, 2) := by decide +kernel
theorem d_207_733 : decode (mB 207) 733 = .ok (.iconst 1, 1) := by decide +kernel
theorem d_207_734 : decode (mB 207) 734 = .ok (.iadd, 1) := by decide +kernel
theorem d_207_735 : decode (mB 207) 735 = .ok (.iaload, 1) := by decide +kernel
theorem d_207_736 : decode (mB 207) 736 = .ok (.aload_n 0, 1) := by decide +kernel
theorem d_207_737 : decode (mB 207) 737 = .ok (.iload 4, 2) := by decide +kernel
theorem d_207_739 : decode (mB 207) 739 = .ok (.iconst 2, 1) := by decide +kernel
theorem d_207_740 : decode (mB 207) 740 = .ok (.iadd, 1) := by decide +kernel
theorem d_207_741 : decode (mB 207) 741 = .ok (.iaload, 1) := by decide +kernel
theorem d_207_742 : decode (mB 207) 742 = .ok (.invokevirtual 101, 3) := by decide +kernel
theorem d_207_745 : decode (mB 207) 745 = .ok (.aload_n 2, 1) := by decide +kernel
theorem d_207_746 : decode (mB 207) 746 = .ok (.aload_n 0, 1) := by decide +kernel
theorem d_207_747 : decode (mB 207) 747 = .ok (.iload 4, 2) := by decide +kernel
theorem d_207_749 : decode (mB 207) 749 = .ok (.iconst 1, 1) := by decide +kernel
theorem d_207_750 : decode (mB 207) 750 = .ok (.iadd, 1) := by decide +kernel
theorem d_207_751 : decode (mB 207) 751 = .ok (.iaload, 1) := by decide +kernel
theorem d_207_752 : decode (mB 207) 752 = .ok (.aload_n 0, 1) := by decide +kernel
theorem d_207_753 : decode (mB 207) 753 = .ok (.iload 4, 2) := by decide +kernel
theorem d_207_755 : decode (mB 207) 755 = .ok (.iconst 2, 1) := by decide +kernel
theorem d_207_756 : decode (mB 207) 756 = .ok (.iadd, 1) := by decide +kernel
theorem d_207_757 : decode (mB 207) 757 = .ok (.iaload, 1) := by decide +kernel
theorem d_207_758 : decode (mB 207) 758 = .ok (.invokevirtual 104, 3) := by decide +kernel
theorem d_207_761 : decode (mB 207) 761 = .ok (.if_icmp .eq 128, 3) := by decide +kernel
theorem d_207_764 : decode (mB 207) 764 = .ok (.iconst 0, 1) := by decide +kernel
theorem d_207_765 : decode (mB 207) 765 = .ok (.ireturn, 1) := by decide +kernel
theorem d_207_766 : decode (mB 207) 766 = .ok (.aload_n 1, 1) := by decide +kernel
theorem d_207_767 : decode (mB 207) 767 = .ok (.aload_n 0, 1) := by decide +kernel
theorem d_207_768 : decode (mB 207) 768 = .ok (.iload 4, 2) := by decide +kernel
theorem d_207_770 : decode (mB 207) 770 = .ok (.iconst 1, 1) := by decide +kernel
theorem d_207_771 : decode (mB 207) 771 = .ok (.iadd, 1) := by decide +kernel
theorem d_207_772 : decode (mB 207) 772 = .ok (.iaload, 1) := by decide +kernel
theorem d_207_773 : decode (mB 207) 773 = .ok (.aload_n 0, 1) := by decide +kernel
theorem d_207_774 : decode (mB 207) 774 = .ok (.iload 4, 2) := by decide +kernel
theorem d_207_776 : decode (mB 207) 776 = .ok (.iconst 2, 1) := by decide +kernel
theorem d_207_777 : decode (mB 207) 777 = .ok (.iadd, 1) := by decide +kernel
theorem d_207_778 : decode (mB 207) 778 = .ok (.iaload, 1) := by decide +kernel
theorem d_207_779 : decode (mB 207) 779 = .ok (.aload_n 0, 1) := by decide +kernel
theorem d_207_780 : decode (mB 207) 780 = .ok (.iload 4, 2) := by decide +kernel
theorem d_207_782 : decode (mB 207) 782 = .ok (.iconst 3, 1) := by decide +kernel
theorem d_207_783 : decode (mB 207) 783 = .ok (.iadd, 1) := by decide +kernel
theorem d_207_784 : decode (mB 207) 784 = .ok (.iaload, 1) := by decide +kernel
theorem d_207_785 : decode (mB 207) 785 = .ok (.invokevirtual 105, 3) := by decide +kernel
theorem d_207_788 : decode (mB 207) 788 = .ok (.aload_n 2, 1) := by decide +kernel
theorem d_207_789 : decode (mB 207) 789 = .ok (.aload_n 0, 1) := by decide +kernel
theorem d_207_790 : decode (mB 207) 790 = .ok (.iload 4, 2) := by decide +kernel
theorem d_207_792 : decode (mB 207) 792 = .ok (.iconst 1, 1) := by decide +kernel
theorem d_207_793 : decode (mB 207) 793 = .ok (.iadd, 1) := by decide +kernel
theorem d_207_794 : decode (mB 207) 794 = .ok (.iaload, 1) := by decide +kernel
theorem d_207_795 : decode (mB 207) 795 = .ok (.aload_n 0, 1) := by decide +kernel
theorem d_207_796 : decode (mB 207) 796 = .ok (.iload 4, 2) := by decide +kernel
theorem d_207_798 : decode (mB 207) 798 = .ok (.iconst 2, 1) := by decide +kernel
theorem d_207_799 : decode (mB 207) 799 = .ok (.iadd, 1) := by decide +kernel
theorem d_207_800 : decode (mB 207) 800 = .ok (.iaload, 1) := by decide +kernel
theorem d_207_801 : decode (mB 207) 801 = .ok (.aload_n 0, 1) := by decide +kernel
theorem d_207_802 : decode (mB 207) 802 = .ok (.iload 4, 2) := by decide +kernel
theorem d_207_804 : decode (mB 207) 804 = .ok (.iconst 3, 1) := by decide +kernel
theorem d_207_805 : decode (mB 207) 805 = .ok (.iadd, 1) := by decide +kernel
theorem d_207_806 : decode (mB 207) 806 = .ok (.iaload, 1) := by decide +kernel
theorem d_207_807 : decode (mB 207) 807 = .ok (.invokevirtual 108, 3) := by decide +kernel
theorem d_207_810 : decode (mB 207) 810 = .ok (.if_icmp .eq 79, 3) := by decide +kernel
theorem d_207_813 : decode (mB 207) 813 = .ok (.iconst 0, 1) := by decide +kernel
theorem d_207_814 : decode (mB 207) 814 = .ok (.ireturn, 1) := by decide +kernel
theorem d_207_815 : decode (mB 207) 815 = .ok (.aload_n 1, 1) := by decide +kernel
theorem d_207_816 : decode (mB 207) 816 = .ok (.aload_n 0, 1) := by decide +kernel
theorem d_207_817 : decode (mB 207) 817 = .ok (.iload 4, 2) := by decide +kernel
theorem d_207_819 : decode (mB 207) 819 = .ok (.iconst 1, 1) := by decide +kernel
theorem d_207_820 : decode (mB 207) 820 = .ok (.iadd, 1) := by decide +kernel
theorem d_207_821 : decode (mB 207) 821 = .ok (.iaload, 1) := by decide +kernel
theorem d_207_822 : decode (mB 207) 822 = .ok (.aload_n 0, 1) := by decide +kernel
theorem d_207_823 : decode (mB 207) 823 = .ok (.iload 4, 2) := by decide +kernel
theorem d_207_825 : decode (mB 207) 825 = .ok (.iconst 2, 1) := by decide +kernel
theorem d_207_826 : decode (mB 207) 826 = .ok (.iadd, 1) := by decide +kernel
theorem d_207_827 : decode (mB 207) 827 = .ok (.iaload, 1) := by decide +kernel
theorem d_207_828 : decode (mB 207) 828 = .ok (.aload_n 0, 1) := by decide +kernel
theorem d_207_829 : decode (mB 207) 829 = .ok (.iload 4, 2) := by decide +kernel
theorem d_207_831 : decode (mB 207) 831 = .ok (.iconst 3, 1) := by decide +kernel
theorem d_207_832 : decode (mB 207) 832 = .ok (.iadd, 1) := by decide +kernel
theorem d_207_833 : decode (mB 207) 833 = .ok (.iaload, 1) := by decide +kernel
theorem d_207_834 : decode (mB 207) 834 = .ok (.invokevirtual 109, 3) := by decide +kernel
theorem d_207_837 : decode (mB 207) 837 = .ok (.aload_n 2, 1) := by decide +kernel
theorem d_207_838 : decode (mB 207) 838 = .ok (.aload_n 0, 1) := by decide +kernel
theorem d_207_839 : decode (mB 207) 839 = .ok (.iload 4, 2) := by decide +kernel
theorem d_207_841 : decode (mB 207) 841 = .ok (.iconst 1, 1) := by decide +kernel
theorem d_207_842 : decode (mB 207) 842 = .ok (.iadd, 1) := by decide +kernel
theorem d_207_843 : decode (mB 207) 843 = .ok (.iaload, 1) := by decide +kernel
theorem d_207_844 : decode (mB 207) 844 = .ok (.aload_n 0, 1) := by decide +kernel
theorem d_207_845 : decode (mB 207) 845 = .ok (.iload 4, 2) := by decide +kernel
theorem d_207_847 : decode (mB 207) 847 = .ok (.iconst 2, 1) := by decide +kernel
theorem d_207_848 : decode (mB 207) 848 = .ok (.iadd, 1) := by decide +kernel
theorem d_207_849 : decode (mB 207) 849 = .ok (.iaload, 1) := by decide +kernel
theorem d_207_850 : decode (mB 207) 850 = .ok (.aload_n 0, 1) := by decide +kernel
theorem d_207_851 : decode (mB 207) 851 = .ok (.iload 4, 2) := by decide +kernel
theorem d_207_853 : decode (mB 207) 853 = .ok (.iconst 3, 1) := by decide +kernel
theorem d_207_854 : decode (mB 207) 854 = .ok (.iadd, 1) := by decide +kernel
theorem d_207_855 : decode (mB 207) 855 = .ok (.iaload, 1) := by decide +kernel
theorem d_207_856 : decode (mB 207) 856 = .ok (.invokevirtual 112, 3) := by decide +kernel
theorem d_207_859 : decode (mB 207) 859 = .ok (.if_icmp .eq 30, 3) := by decide +kernel
theorem d_207_862 : decode (mB 207) 862 = .ok (.iconst 0, 1) := by decide +kernel
theorem d_207_863 : decode (mB 207) 863 = .ok (.ireturn, 1) := by decide +kernel
theorem d_207_864 : decode (mB 207) 864 = .ok (.aload_n 1, 1) := by decide +kernel
theorem d_207_865 : decode (mB 207) 865 = .ok (.aload_n 0, 1) := by decide +kernel
theorem d_207_866 : decode (mB 207) 866 = .ok (.iload 4, 2) := by decide +kernel
theorem d_207_868 : decode (mB 207) 868 = .ok (.iconst 1, 1) := by decide +kernel
theorem d_207_869 : decode (mB 207) 869 = .ok (.iadd, 1) := by decide +kernel
theorem d_207_870 : decode (mB 207) 870 = .ok (.iaload, 1) := by decide +kernel
theorem d_207_871 : decode (mB 207) 871 = .ok (.invokevirtual 113, 3) := by decide +kernel
theorem d_207_874 : decode (mB 207) 874 = .ok (.aload_n 2, 1) := by decide +kernel
theorem d_207_875 : decode (mB 207) 875 = .ok (.aload_n 0, 1) := by decide +kernel
theorem d_207_876 : decode (mB 207) 876 = .ok (.iload 4, 2) := by decide +kernel
theorem d_207_878 : decode (mB 207) 878 = .ok (.iconst 1, 1) := by decide +kernel
theorem d_207_879 : decode (mB 207) 879 = .ok (.iadd, 1) := by decide +kernel
theorem d_207_880 : decode (mB 207) 880 = .ok (.iaload, 1) := by decide +kernel
theorem d_207_881 : decode (mB 207) 881 = .ok (.invokevirtual 116, 3) := by decide +kernel
theorem d_207_884 : decode (mB 207) 884 = .ok (.if_icmp .eq 5, 3) := by decide +kernel
theorem d_207_887 : decode (mB 207) 887 = .ok (.iconst 0, 1) := by decide +kernel
theorem d_207_888 : decode (mB 207) 888 = .ok (.ireturn, 1) := by decide +kernel
theorem d_207_889 : decode (mB 207) 889 = .ok (.iinc 4 6, 3) := by decide +kernel
theorem d_207_892 : decode (mB 207) 892 = .ok (.goto (-829), 3) := by decide +kernel
theorem d_207_895 : decode (mB 207) 895 = .ok (.iconst 1, 1) := by decide +kernel
theorem d_207_896 : decode (mB 207) 896 = .ok (.ireturn, 1) := by decide +kernel
