theorem d_126_0 : decode (mB 126) 0 = .ok (.aload_n 0, 1) := by decide +kernel
theorem d_126_1 : decode (mB 126) 1 = .ok (.iload_n 1, 1) := by decide +kernel
theorem d_126_2 : decode (mB 126) 2 = .ok (.iload_n 2, 1) := by decide +kernel
theorem d_126_3 : decode (mB 126) 3 = .ok (.invokevirtual 205, 3) := by decide +kernel
theorem d_126_6 : decode (mB 126) 6 = .ok (.iload_n 3, 1) := by decide +kernel
theorem d_126_7 : decode (mB 126) 7 = .ok (.if_icmp .eq 5, 3) := by decide +kernel
theorem d_126_10 : decode (mB 126) 10 = .ok (.iconst 0, 1) := by decide +kernel
theorem d_126_11 : decode (mB 126) 11 = .ok (.ireturn, 1) := by decide +kernel
theorem d_126_12 : decode (mB 126) 12 = .ok (.iconst 0, 1) := by decide +kernel
theorem d_126_13 : decode (mB 126) 13 = .ok (.istore 6, 2) := by decide +kernel
theorem d_126_15 : decode (mB 126) 15 = .ok (.iload 6, 2) := by decide +kernel
theorem d_126_17 : decode (mB 126) 17 = .ok (.aload_n 0, 1) := by decide +kernel
theorem d_126_18 : decode (mB 126) 18 = .ok (.getfield 180, 3) := by decide +kernel
theorem d_126_21 : decode (mB 126) 21 = .ok (.if_icmp .ge 167, 3) := by decide +kernel
theorem d_126_24 : decode (mB 126) 24 = .ok (.aload_n 0, 1) := by decide +kernel
theorem d_126_25 : decode (mB 126) 25 = .ok (.getfield 38, 3) := by decide +kernel
theorem d_126_28 : decode (mB 126) 28 = .ok (.iload 6, 2) := by decide +kernel
theorem d_126_30 : decode (mB 126) 30 = .ok (.iaload, 1) := by decide +kernel
theorem d_126_31 : decode (mB 126) 31 = .ok (.iload_n 1, 1) := by decide +kernel
theorem d_126_32 : decode (mB 126) 32 = .ok (.if_icmp .eq 6, 3) := by decide +kernel
theorem d_126_35 : decode (mB 126) 35 = .ok (.goto 147, 3) := by decide +kernel
theorem d_126_38 : decode (mB 126) 38 = .ok (.iconst 0, 1) := by decide +kernel
theorem d_126_39 : decode (mB 126) 39 = .ok (.istore 7, 2) := by decide +kernel
theorem d_126_41 : decode (mB 126) 41 = .ok (.iload 7, 2) := by decide +kernel
theorem d_126_43 : decode (mB 126) 43 = .ok (.aload_n 0, 1) := by decide +kernel
theorem d_126_44 : decode (mB 126) 44 = .ok (.getfield 47, 3) := by decide +kernel
theorem d_126_47 : decode (mB 126) 47 = .ok (.iload 6, 2) := by decide +kernel
theorem d_126_49 : decode (mB 126) 49 = .ok (.iaload, 1) := by decide +kernel
theorem d_126_50 : decode (mB 126) 50 = .ok (.if_icmp .ge 132, 3) := by decide +kernel
theorem d_126_53 : decode (mB 126) 53 = .ok (.iconst 0, 1) := by decide +kernel
theorem d_126_54 : decode (mB 126) 54 = .ok (.istore 8, 2) := by decide +kernel
theorem d_126_56 : decode (mB 126) 56 = .ok (.iload 8, 2) := by decide +kernel
theorem d_126_58 : decode (mB 126) 58 = .ok (.iconst 2, 1) := by decide +kernel
theorem d_126_59 : decode (mB 126) 59 = .ok (.if_icmp .ge 117, 3) := by decide +kernel
theorem d_126_62 : decode (mB 126) 62 = .ok (.iload 6, 2) := by decide +kernel
theorem d_126_64 : decode (mB 126) 64 = .ok (.iload 7, 2) := by decide +kernel
theorem d_126_66 : decode (mB 126) 66 = .ok (.iload 8, 2) := by decide +kernel
theorem d_126_68 : decode (mB 126) 68 = .ok (.iconst 0, 1) := by decide +kernel
theorem d_126_69 : decode (mB 126) 69 = .ok (.invokestatic 168, 3) := by decide +kernel
theorem d_126_72 : decode (mB 126) 72 = .ok (.istore 9, 2) := by decide +kernel
theorem d_126_74 : decode (mB 126) 74 = .ok (.aload_n 0, 1) := by decide +kernel
theorem d_126_75 : decode (mB 126) 75 = .ok (.getfield 51, 3) := by decide +kernel
theorem d_126_78 : decode (mB 126) 78 = .ok (.iload 9, 2) := by decide +kernel
theorem d_126_80 : decode (mB 126) 80 = .ok (.iaload, 1) := by decide +kernel
theorem d_126_81 : decode (mB 126) 81 = .ok (.iconst 5, 1) := by decide +kernel
theorem d_126_82 : decode (mB 126) 82 = .ok (.if_icmp .eq 14, 3) := by decide +kernel
theorem d_126_85 : decode (mB 126) 85 = .ok (.aload_n 0, 1) := by decide +kernel
theorem d_126_86 : decode (mB 126) 86 = .ok (.getfield 51, 3) := by decide +kernel
theorem d_126_89 : decode (mB 126) 89 = .ok (.iload 9, 2) := by decide +kernel
theorem d_126_91 : decode (mB 126) 91 = .ok (.iaload, 1) := by decide +kernel
theorem d_126_92 : decode (mB 126) 92 = .ok (.iconst 2, 1) := by decide +kernel
theorem d_126_93 : decode (mB 126) 93 = .ok (.if_icmp .ne 77, 3) := by decide +kernel
theorem d_126_96 : decode (mB 126) 96 = .ok (.aload_n 0, 1) := by decide +kernel
theorem d_126_97 : decode (mB 126) 97 = .ok (.getfield 51, 3) := by decide +kernel
theorem d_126_100 : decode (mB 126) 100 = .ok (.iload 9, 2) := by decide +kernel
theorem d_126_102 : decode (mB 126) 102 = .ok (.iconst 1, 1) := by decide +kernel
theorem d_126_103 : decode (mB 126) 103 = .ok (.iadd, 1) := by decide +kernel
theorem d_126_104 : decode (mB 126) 104 = .ok (.iaload, 1) := by decide +kernel
theorem d_126_105 : decode (mB 126) 105 = .ok (.iload_n 2, 1) := by decide +kernel
theorem d_126_106 : decode (mB 126) 106 = .ok (.if_icmp .ne 64, 3) := by decide +kernel
theorem d_126_109 : decode (mB 126) 109 = .ok (.aload_n 0, 1) := by decide +kernel
theorem d_126_110 : decode (mB 126) 110 = .ok (.getfield 51, 3) := by decide +kernel
theorem d_126_113 : decode (mB 126) 113 = .ok (.iload 9, 2) := by decide +kernel
theorem d_126_115 : decode (mB 126) 115 = .ok (.bipush 7, 2) := by decide +kernel
theorem d_126_117 : decode (mB 126) 117 = .ok (.iadd, 1) := by decide +kernel
theorem d_126_118 : decode (mB 126) 118 = .ok (.iaload, 1) := by decide +kernel
theorem d_126_119 : decode (mB 126) 119 = .ok (.iload_n 3, 1) := by decide +kernel
theorem d_126_120 : decode (mB 126) 120 = .ok (.if_icmp .eq 6, 3) := by decide +kernel
theorem d_126_123 : decode (mB 126) 123 = .ok (.goto 47, 3) := by decide +kernel
theorem d_126_126 : decode (mB 126) 126 = .ok (.aload_n 0, 1) := by decide +kernel
theorem d_126_127 : decode (mB 126) 127 = .ok (.getfield 51, 3) := by decide +kernel
theorem d_126_130 : decode (mB 126) 130 = .ok (.iload 9, 2) := by decide +kernel
theorem d_126_132 : decode (mB 126) 132 = .ok (.iaload, 1) := by decide +kernel
theorem d_126_133 : decode (mB 126) 133 = .ok (.iconst 5, 1) := by decide +kernel
theorem d_126_134 : decode (mB 126) 134 = .ok (.if_icmp .eq 34, 3) := by decide +kernel
theorem d_126_137 : decode (mB 126) 137 = .ok (.aload_n 0, 1) := by decide +kernel
theorem d_126_138 : decode (mB 126) 138 = .ok (.getfield 41, 3) := by decide +kernel
theorem d_126_141 : decode (mB 126) 141 = .ok (.iload 6, 2) := by decide +kernel
theorem d_126_143 : decode (mB 126) 143 = .ok (.iaload, 1) := by decide +kernel
theorem d_126_144 : decode (mB 126) 144 = .ok (.iload 4, 2) := by decide +kernel
theorem d_126_146 : decode (mB 126) 146 = .ok (.if_icmp .lt 22, 3) := by decide +kernel
theorem d_126_149 : decode (mB 126) 149 = .ok (.aload_n 0, 1) := by decide +kernel
theorem d_126_150 : decode (mB 126) 150 = .ok (.getfield 41, 3) := by decide +kernel
theorem d_126_153 : decode (mB 126) 153 = .ok (.iload 6, 2) := by decide +kernel
theorem d_126_155 : decode (mB 126) 155 = .ok (.iaload, 1) := by decide +kernel
theorem d_126_156 : decode (mB 126) 156 = .ok (.iload 4, 2) := by decide +kernel
theorem d_126_158 : decode (mB 126) 158 = .ok (.if_icmp .ne 12, 3) := by decide +kernel
theorem d_126_161 : decode (mB 126) 161 = .ok (.iload 7, 2) := by decide +kernel
theorem d_126_163 : decode (mB 126) 163 = .ok (.iload 5, 2) := by decide +kernel
theorem d_126_165 : decode (mB 126) 165 = .ok (.if_icmp .ge 5, 3) := by decide +kernel
theorem d_126_168 : decode (mB 126) 168 = .ok (.iconst 0, 1) := by decide +kernel
theorem d_126_169 : decode (mB 126) 169 = .ok (.ireturn, 1) := by decide +kernel
theorem d_126_170 : decode (mB 126) 170 = .ok (.iinc 8 1, 3) := by decide +kernel
theorem d_126_173 : decode (mB 126) 173 = .ok (.goto (-117), 3) := by decide +kernel
theorem d_126_176 : decode (mB 126) 176 = .ok (.iinc 7 1, 3) := by decide +kernel
theorem d_126_179 : decode (mB 126) 179 = .ok (.goto (-138), 3) := by decide +kernel
theorem d_126_182 : decode (mB 126) 182 = .ok (.iinc 6 1, 3) := by decide +kernel
theorem d_126_185 : decode (mB 126) 185 = .ok (.goto (-170), 3) := by decide +kernel
theorem d_126_188 : decode (mB 126) 188 = .ok (.iconst 1, 1) := by decide +kernel
theorem d_126_189 : decode (mB 126) 189 = .ok (.ireturn, 1) := by decide +kernel
theorem d_127_0 : decode (mB 127) 0 = .ok (.iload_n 1, 1) := by decide +kernel
theorem d_127_1 : decode (mB 127) 1 = .ok (.iload_n 2, 1) := by decide +kernel
theorem d_127_2 : decode (mB 127) 2 = .ok (.iload_n 3, 1) := by decide +kernel
theorem d_127_3 : decode (mB 127) 3 = .ok (.iconst 0, 1) := by decide +kernel
theorem d_127_4 : decode (mB 127) 4 = .ok (.invokestatic 168, 3) := by decide +kernel
theorem d_127_7 : decode (mB 127) 7 = .ok (.istore 4, 2) := by decide +kernel
theorem d_127_9 : decode (mB 127) 9 = .ok (.aload_n 0, 1) := by decide +kernel
theorem d_127_10 : decode (mB 127) 10 = .ok (.getfield 38, 3) := by decide +kernel
theorem d_127_13 : decode (mB 127) 13 = .ok (.iload_n 1, 1) := by decide +kernel
theorem d_127_14 : decode (mB 127) 14 = .ok (.iaload, 1) := by decide +kernel
theorem d_127_15 : decode (mB 127) 15 = .ok (.istore 5, 2) := by decide +kernel
theorem d_127_17 : decode (mB 127) 17 = .ok (.aload_n 0, 1) := by decide +kernel
theorem d_127_18 : decode (mB 127) 18 = .ok (.getfield 51, 3) := by decide +kernel
theorem d_127_21 : decode (mB 127) 21 = .ok (.iload 4, 2) := by decide +kernel
theorem d_127_23 : decode (mB 127) 23 = .ok (.iaload, 1) := by decide +kernel
theorem d_127_24 : decode (mB 127) 24 = .ok (.tableswitch 149 2 5 #[116, 32, 66, 83], 32) := by decide +kernel
theorem d_127_56 : decode (mB 127) 56 = .ok (.aload_n 0, 1) := by decide +kernel
theorem d_127_57 : decode (mB 127) 57 = .ok (.iload 5, 2) := by decide +kernel
theorem d_127_59 : decode (mB 127) 59 = .ok (.aload_n 0, 1) := by decide +kernel
theorem d_127_60 : decode (mB 127) 60 = .ok (.getfield 51, 3) := by decide +kernel
theorem d_127_63 : decode (mB 127) 63 = .ok (.iload 4, 2) := by decide +kernel
theorem d_127_65 : decode (mB 127) 65 = .ok (.iconst 3, 1) := by decide +kernel
theorem d_127_66 : decode (mB 127) 66 = .ok (.iadd, 1) := by decide +kernel
theorem d_127_67 : decode (mB 127) 67 = .ok (.iaload, 1) := by decide +kernel
theorem d_127_68 : decode (mB 127) 68 = .ok (.invokevirtual 199, 3) := by decide +kernel
theorem d_127_71 : decode (mB 127) 71 = .ok (.aload_n 0, 1) := by decide +kernel
theorem d_127_72 : decode (mB 127) 72 = .ok (.getfield 51, 3) := by decide +kernel
theorem d_127_75 : decode (mB 127) 75 = .ok (.iload 4, 2) := by decide +kernel
theorem d_127_77 : decode (mB 127) 77 = .ok (.bipush 6, 2) := by decide +kernel
theorem d_127_79 : decode (mB 127) 79 = .ok (.iadd, 1) := by decide +kernel
theorem d_127_80 : decode (mB 127) 80 = .ok (.iaload, 1) := by decide +kernel
theorem d_127_81 : decode (mB 127) 81 = .ok (.if_icmp .ne 7, 3) := by decide +kernel
theorem d_127_84 : decode (mB 127) 84 = .ok (.iconst 1, 1) := by decide +kernel
theorem d_127_85 : decode (mB 127) 85 = .ok (.goto 4, 3) := by decide +kernel
theorem d_127_88 : decode (mB 127) 88 = .ok (.iconst 0, 1) := by decide +kernel
theorem d_127_89 : decode (mB 127) 89 = .ok (.ireturn, 1) := by decide +kernel
theorem d_127_90 : decode (mB 127) 90 = .ok (.aload_n 0, 1) := by decide +kernel
theorem d_127_91 : decode (mB 127) 91 = .ok (.iload 5, 2) := by decide +kernel
theorem d_127_93 : decode (mB 127) 93 = .ok (.aload_n 0, 1) := by decide +kernel
theorem d_127_94 : decode (mB 127) 94 = .ok (.getfield 51, 3) := by decide +kernel
theorem d_127_97 : decode (mB 127) 97 = .ok (.iload 4, 2) := by decide +kernel
theorem d_127_99 : decode (mB 127) 99 = .ok (.bipush 8, 2) := by decide +kernel
theorem d_127_101 : decode (mB 127) 101 = .ok (.iadd, 1) := by decide +kernel
theorem d_127_102 : decode (mB 127) 102 = .ok (.iaload, 1) := by decide +kernel
theorem d_127_103 : decode (mB 127) 103 = .ok (.invokevirtual 208, 3) := by decide +kernel
theorem d_127_106 : decode (mB 127) 106 = .ok (.ireturn, 1) := by decide +kernel
theorem d_127_107 : decode (mB 127) 107 = .ok (.aload_n 0, 1) := by decide +kernel
theorem d_127_108 : decode (mB 127) 108 = .ok (.getfield 51, 3) := by decide +kernel
theorem d_127_111 : decode (mB 127) 111 = .ok (.iload 4, 2) := by decide +kernel
theorem d_127_113 : decode (mB 127) 113 = .ok (.iconst 2, 1) := by decide +kernel
theorem d_127_114 : decode (mB 127) 114 = .ok (.iadd, 1) := by decide +kernel
theorem d_127_115 : decode (mB 127) 115 = .ok (.iaload, 1) := by decide +kernel
theorem d_127_116 : decode (mB 127) 116 = .ok (.aload_n 0, 1) := by decide +kernel
theorem d_127_117 : decode (mB 127) 117 = .ok (.iload 5, 2) := by decide +kernel
theorem d_127_119 : decode (mB 127) 119 = .ok (.aload_n 0, 1) := by decide +kernel
theorem d_127_120 : decode (mB 127) 120 = .ok (.getfield 51, 3) := by decide +kernel
theorem d_127_123 : decode (mB 127) 123 = .ok (.iload 4, 2) := by decide +kernel
theorem d_127_125 : decode (mB 127) 125 = .ok (.iconst 1, 1) := by decide +kernel
theorem d_127_126 : decode (mB 127) 126 = .ok (.iadd, 1) := by decide +kernel
theorem d_127_127 : decode (mB 127) 127 = .ok (.iaload, 1) := by decide +kernel
theorem d_127_128 : decode (mB 127) 128 = .ok (.invokevirtual 205, 3) := by decide +kernel
theorem d_127_131 : decode (mB 127) 131 = .ok (.if_icmp .lt 7, 3) := by decide +kernel
theorem d_127_134 : decode (mB 127) 134 = .ok (.iconst 1, 1) := by decide +kernel
theorem d_127_135 : decode (mB 127) 135 = .ok (.goto 4, 3) := by decide +kernel
theorem d_127_138 : decode (mB 127) 138 = .ok (.iconst 0, 1) := by decide +kernel
theorem d_127_139 : decode (mB 127) 139 = .ok (.ireturn, 1) := by decide +kernel
theorem d_127_140 : decode (mB 127) 140 = .ok (.aload_n 0, 1) := by decide +kernel
theorem d_127_141 : decode (mB 127) 141 = .ok (.iload 5, 2) := by decide +kernel
theorem d_127_143 : decode (mB 127) 143 = .ok (.aload_n 0, 1) := by decide +kernel
theorem d_127_144 : decode (mB 127) 144 = .ok (.getfield 51, 3) := by decide +kernel
theorem d_127_147 : decode (mB 127) 147 = .ok (.iload 4, 2) := by decide +kernel
theorem d_127_149 : decode (mB 127) 149 = .ok (.iconst 1, 1) := by decide +kernel
theorem d_127_150 : decode (mB 127) 150 = .ok (.iadd, 1) := by decide +kernel
theorem d_127_151 : decode (mB 127) 151 = .ok (.iaload, 1) := by decide +kernel
theorem d_127_152 : decode (mB 127) 152 = .ok (.aload_n 0, 1) := by decide +kernel
theorem d_127_153 : decode (mB 127) 153 = .ok (.getfield 51, 3) := by decide +kernel
theorem d_127_156 : decode (mB 127) 156 = .ok (.iload 4, 2) := by decide +kernel
theorem d_127_158 : decode (mB 127) 158 = .ok (.bipush 7, 2) := by decide +kernel
theorem d_127_160 : decode (mB 127) 160 = .ok (.iadd, 1) := by decide +kernel
theorem d_127_161 : decode (mB 127) 161 = .ok (.iaload, 1) := by decide +kernel
theorem d_127_162 : decode (mB 127) 162 = .ok (.aload_n 0, 1) := by decide +kernel
theorem d_127_163 : decode (mB 127) 163 = .ok (.getfield 41, 3) := by decide +kernel
theorem d_127_166 : decode (mB 127) 166 = .ok (.iload_n 1, 1) := by decide +kernel
theorem d_127_167 : decode (mB 127) 167 = .ok (.iaload, 1) := by decide +kernel
theorem d_127_168 : decode (mB 127) 168 = .ok (.iload_n 2, 1) := by decide +kernel
theorem d_127_169 : decode (mB 127) 169 = .ok (.invokevirtual 212, 3) := by decide +kernel
theorem d_127_172 : decode (mB 127) 172 = .ok (.ireturn, 1) := by decide +kernel
theorem d_127_173 : decode (mB 127) 173 = .ok (.iconst 0, 1) := by decide +kernel
theorem d_127_174 : decode (mB 127) 174 = .ok (.ireturn, 1) := by decide +kernel
theorem d_128_0 : decode (mB 128) 0 = .ok (.iconst 0, 1) := by decide +kernel
theorem d_128_1 : decode (mB 128) 1 = .ok (.istore_n 2, 1) := by decide +kernel
theorem d_128_2 : decode (mB 128) 2 = .ok (.iconst 0, 1) := by decide +kernel
theorem d_128_3 : decode (mB 128) 3 = .ok (.istore_n 3, 1) := by decide +kernel
theorem d_128_4 : decode (mB 128) 4 = .ok (.iload_n 3, 1) := by decide +kernel
theorem d_128_5 : decode (mB 128) 5 = .ok (.aload_n 0, 1) := by decide +kernel
theorem d_128_6 : decode (mB 128) 6 = .ok (.getfield 47, 3) := by decide +kernel
theorem d_128_9 : decode (mB 128) 9 = .ok (.iload_n 1, 1) := by decide +kernel
theorem d_128_10 : decode (mB 128) 10 = .ok (.iaload, 1) := by decide +kernel
theorem d_128_11 : decode (mB 128) 11 = .ok (.if_icmp .ge 58, 3) := by decide +kernel
theorem d_128_14 : decode (mB 128) 14 = .ok (.iconst 0, 1) := by decide +kernel
theorem d_128_15 : decode (mB 128) 15 = .ok (.istore 4, 2) := by decide +kernel
theorem d_128_17 : decode (mB 128) 17 = .ok (.iload 4, 2) := by decide +kernel
theorem d_128_19 : decode (mB 128) 19 = .ok (.iconst 2, 1) := by decide +kernel
theorem d_128_20 : decode (mB 128) 20 = .ok (.if_icmp .ge 43, 3) := by decide +kernel
theorem d_128_23 : decode (mB 128) 23 = .ok (.iload_n 2, 1) := by decide +kernel
theorem d_128_24 : decode (mB 128) 24 = .ok (.aload_n 0, 1) := by decide +kernel
theorem d_128_25 : decode (mB 128) 25 = .ok (.iload_n 1, 1) := by decide +kernel
theorem d_128_26 : decode (mB 128) 26 = .ok (.iload_n 3, 1) := by decide +kernel
theorem d_128_27 : decode (mB 128) 27 = .ok (.iload 4, 2) := by decide +kernel
theorem d_128_29 : decode (mB 128) 29 = .ok (.invokevirtual 216, 3) := by decide +kernel
theorem d_128_32 : decode (mB 128) 32 = .ok (.ifCond .eq 22, 3) := by decide +kernel
theorem d_128_35 : decode (mB 128) 35 = .ok (.aload_n 0, 1) := by decide +kernel
theorem d_128_36 : decode (mB 128) 36 = .ok (.getfield 51, 3) := by decide +kernel
theorem d_128_39 : decode (mB 128) 39 = .ok (.iload_n 1, 1) := by decide +kernel
theorem d_128_40 : decode (mB 128) 40 = .ok (.iload_n 3, 1) := by decide +kernel
theorem d_128_41 : decode (mB 128) 41 = .ok (.iload 4, 2) := by decide +kernel
theorem d_128_43 : decode (mB 128) 43 = .ok (.iconst 0, 1) := by decide +kernel
theorem d_128_44 : decode (mB 128) 44 = .ok (.invokestatic 168, 3) := by decide +kernel
theorem d_128_47 : decode (mB 128) 47 = .ok (.iaload, 1) := by decide +kernel
theorem d_128_48 : decode (mB 128) 48 = .ok (.invokestatic 172, 3) := by decide +kernel
theorem d_128_51 : decode (mB 128) 51 = .ok (.goto 4, 3) := by decide +kernel
theorem d_128_54 : decode (mB 128) 54 = .ok (.iconst 0, 1) := by decide +kernel
theorem d_128_55 : decode (mB 128) 55 = .ok (.iadd, 1) := by decide +kernel
theorem d_128_56 : decode (mB 128) 56 = .ok (.istore_n 2, 1) := by decide +kernel
theorem d_128_57 : decode (mB 128) 57 = .ok (.iinc 4 1, 3) := by decide +kernel
theorem d_128_60 : decode (mB 128) 60 = .ok (.goto (-43), 3) := by decide +kernel
theorem d_128_63 : decode (mB 128) 63 = .ok (.iinc 3 1, 3) := by decide +kernel
theorem d_128_66 : decode (mB 128) 66 = .ok (.goto (-62), 3) := by decide +kernel
theorem d_128_69 : decode (mB 128) 69 = .ok (.iload_n 2, 1) := by decide +kernel
theorem d_128_70 : decode (mB 128) 70 = .ok (.ireturn, 1) := by decide +kernel
theorem d_129_0 : decode (mB 129) 0 = .ok (.iconst 0, 1) := by decide +kernel
theorem d_129_1 : decode (mB 129) 1 = .ok (.istore_n 1, 1) := by decide +kernel
theorem d_129_2 : decode (mB 129) 2 = .ok (.iload_n 1, 1) := by decide +kernel
theorem d_129_3 : decode (mB 129) 3 = .ok (.bipush 18, 2) := by decide +kernel
theorem d_129_5 : decode (mB 129) 5 = .ok (.if_icmp .ge 16, 3) := by decide +kernel
theorem d_129_8 : decode (mB 129) 8 = .ok (.aload_n 0, 1) := by decide +kernel
theorem d_129_9 : decode (mB 129) 9 = .ok (.getfield 64, 3) := by decide +kernel
theorem d_129_12 : decode (mB 129) 12 = .ok (.iload_n 1, 1) := by decide +kernel
theorem d_129_13 : decode (mB 129) 13 = .ok (.iconst 0, 1) := by decide +kernel
theorem d_129_14 : decode (mB 129) 14 = .ok (.iastore, 1) := by decide +kernel
theorem d_129_15 : decode (mB 129) 15 = .ok (.iinc 1 1, 3) := by decide +kernel
theorem d_129_18 : decode (mB 129) 18 = .ok (.goto (-16), 3) := by decide +kernel
theorem d_129_21 : decode (mB 129) 21 = .ok (.return_, 1) := by decide +kernel
theorem d_130_0 : decode (mB 130) 0 = .ok (.aload_n 0, 1) := by decide +kernel
theorem d_130_1 : decode (mB 130) 1 = .ok (.invokevirtual 219, 3) := by decide +kernel
theorem d_130_4 : decode (mB 130) 4 = .ok (.iconst 0, 1) := by decide +kernel
theorem d_130_5 : decode (mB 130) 5 = .ok (.istore_n 2, 1) := by decide +kernel
theorem d_130_6 : decode (mB 130) 6 = .ok (.iload_n 2, 1) := by decide +kernel
theorem d_130_7 : decode (mB 130) 7 = .ok (.bipush 9, 2) := by decide +kernel
theorem d_130_9 : decode (mB 130) 9 = .ok (.if_icmp .ge 23, 3) := by decide +kernel
theorem d_130_12 : decode (mB 130) 12 = .ok (.aload_n 0, 1) := by decide +kernel
theorem d_130_13 : decode (mB 130) 13 = .ok (.getfield 64, 3) := by decide +kernel
theorem d_130_16 : decode (mB 130) 16 = .ok (.iload_n 2, 1) := by decide +kernel
theorem d_130_17 : decode (mB 130) 17 = .ok (.aload_n 0, 1) := by decide +kernel
theorem d_130_18 : decode (mB 130) 18 = .ok (.getfield 51, 3) := by decide +kernel
theorem d_130_21 : decode (mB 130) 21 = .ok (.iload_n 1, 1) := by decide +kernel
theorem d_130_22 : decode (mB 130) 22 = .ok (.iload_n 2, 1) := by decide +kernel
theorem d_130_23 : decode (mB 130) 23 = .ok (.iadd, 1) := by decide +kernel
theorem d_130_24 : decode (mB 130) 24 = .ok (.iaload, 1) := by decide +kernel
theorem d_130_25 : decode (mB 130) 25 = .ok (.iastore, 1) := by decide +kernel
theorem d_130_26 : decode (mB 130) 26 = .ok (.iinc 2 1, 3) := by decide +kernel
theorem d_130_29 : decode (mB 130) 29 = .ok (.goto (-23), 3) := by decide +kernel
theorem d_130_32 : decode (mB 130) 32 = .ok (.return_, 1) := by decide +kernel
theorem d_131_0 : decode (mB 131) 0 = .ok (.aload_n 0, 1) := by decide +kernel
theorem d_131_1 : decode (mB 131) 1 = .ok (.getfield 64, 3) := by decide +kernel
theorem d_131_4 : decode (mB 131) 4 = .ok (.iconst 0, 1) := by decide +kernel
theorem d_131_5 : decode (mB 131) 5 = .ok (.iaload, 1) := by decide +kernel
theorem d_131_6 : decode (mB 131) 6 = .ok (.invokestatic 172, 3) := by decide +kernel
theorem d_131_9 : decode (mB 131) 9 = .ok (.aload_n 0, 1) := by decide +kernel
theorem d_131_10 : decode (mB 131) 10 = .ok (.getfield 64, 3) := by decide +kernel
theorem d_131_13 : decode (mB 131) 13 = .ok (.bipush 9, 2) := by decide +kernel
theorem d_131_15 : decode (mB 131) 15 = .ok (.iaload, 1) := by decide +kernel
theorem d_131_16 : decode (mB 131) 16 = .ok (.invokestatic 172, 3) := by decide +kernel
theorem d_131_19 : decode (mB 131) 19 = .ok (.iadd, 1) := by decide +kernel
theorem d_131_20 : decode (mB 131) 20 = .ok (.ireturn, 1) := by decide +kernel
theorem d_132_0 : decode (mB 132) 0 = .ok (.aload_n 0, 1) := by decide +kernel
theorem d_132_1 : decode (mB 132) 1 = .ok (.getfield 47, 3) := by decide +kernel
theorem d_132_4 : decode (mB 132) 4 = .ok (.iload_n 1, 1) := by decide +kernel
theorem d_132_5 : decode (mB 132) 5 = .ok (.iaload, 1) := by decide +kernel
theorem d_132_6 : decode (mB 132) 6 = .ok (.istore_n 3, 1) := by decide +kernel
theorem d_132_7 : decode (mB 132) 7 = .ok (.iconst 0, 1) := by decide +kernel
theorem d_132_8 : decode (mB 132) 8 = .ok (.istore 4, 2) := by decide +kernel
theorem d_132_10 : decode (mB 132) 10 = .ok (.iload 4, 2) := by decide +kernel
theorem d_132_12 : decode (mB 132) 12 = .ok (.bipush 18, 2) := by decide +kernel
theorem d_132_14 : decode (mB 132) 14 = .ok (.if_icmp .ge 31, 3) := by decide +kernel
theorem d_132_17 : decode (mB 132) 17 = .ok (.aload_n 0, 1) := by decide +kernel
theorem d_132_18 : decode (mB 132) 18 = .ok (.getfield 51, 3) := by decide +kernel
theorem d_132_21 : decode (mB 132) 21 = .ok (.iload_n 1, 1) := by decide +kernel
theorem d_132_22 : decode (mB 132) 22 = .ok (.iload_n 3, 1) := by decide +kernel
theorem d_132_23 : decode (mB 132) 23 = .ok (.iconst 0, 1) := by decide +kernel
theorem d_132_24 : decode (mB 132) 24 = .ok (.iconst 0, 1) := by decide +kernel
theorem d_132_25 : decode (mB 132) 25 = .ok (.invokestatic 168, 3) := by decide +kernel
theorem d_132_28 : decode (mB 132) 28 = .ok (.iload 4, 2) := by decide +kernel
theorem d_132_30 : decode (mB 132) 30 = .ok (.iadd, 1) := by decide +kernel
theorem d_132_31 : decode (mB 132) 31 = .ok (.aload_n 0, 1) := by decide +kernel
theorem d_132_32 : decode (mB 132) 32 = .ok (.getfield 64, 3) := by decide +kernel
theorem d_132_35 : decode (mB 132) 35 = .ok (.iload 4, 2) := by decide +kernel
theorem d_132_37 : decode (mB 132) 37 = .ok (.iaload, 1) := by decide +kernel
theorem d_132_38 : decode (mB 132) 38 = .ok (.iastore, 1) := by decide +kernel
theorem d_132_39 : decode (mB 132) 39 = .ok (.iinc 4 1, 3) := by decide +kernel
theorem d_132_42 : decode (mB 132) 42 = .ok (.goto (-32), 3) := by decide +kernel
theorem d_132_45 : decode (mB 132) 45 = .ok (.aload_n 0, 1) := by decide +kernel
theorem d_132_46 : decode (mB 132) 46 = .ok (.getfield 47, 3) := by decide +kernel
theorem d_132_49 : decode (mB 132) 49 = .ok (.iload_n 1, 1) := by decide +kernel
theorem d_132_50 : decode (mB 132) 50 = .ok (.dup2, 1) := by decide +kernel
theorem d_132_51 : decode (mB 132) 51 = .ok (.iaload, 1) := by decide +kernel
theorem d_132_52 : decode (mB 132) 52 = .ok (.iconst 1, 1) := by decide +kernel
theorem d_132_53 : decode (mB 132) 53 = .ok (.iadd, 1) := by decide +kernel
theorem d_132_54 : decode (mB 132) 54 = .ok (.iastore, 1) := by decide +kernel
theorem d_132_55 : decode (mB 132) 55 = .ok (.iconst 0, 1) := by decide +kernel
theorem d_132_56 : decode (mB 132) 56 = .ok (.istore 4, 2) := by decide +kernel
theorem d_132_58 : decode (mB 132) 58 = .ok (.iload 4, 2) := by decide +kernel
theorem d_132_60 : decode (mB 132) 60 = .ok (.aload_n 0, 1) := by decide +kernel
theorem d_132_61 : decode (mB 132) 61 = .ok (.getfield 54, 3) := by decide +kernel
theorem d_132_64 : decode (mB 132) 64 = .ok (.iload_n 1, 1) := by decide +kernel
theorem d_132_65 : decode (mB 132) 65 = .ok (.iaload, 1) := by decide +kernel
theorem d_132_66 : decode (mB 132) 66 = .ok (.if_icmp .ge 33, 3) := by decide +kernel
theorem d_132_69 : decode (mB 132) 69 = .ok (.iload 4, 2) := by decide +kernel
theorem d_132_71 : decode (mB 132) 71 = .ok (.iload_n 2, 1) := by decide +kernel
theorem d_132_72 : decode (mB 132) 72 = .ok (.if_icmp .ge 27, 3) := by decide +kernel
theorem d_132_75 : decode (mB 132) 75 = .ok (.aload_n 0, 1) := by decide +kernel
theorem d_132_76 : decode (mB 132) 76 = .ok (.getfield 61, 3) := by decide +kernel
theorem d_132_79 : decode (mB 132) 79 = .ok (.bipush 8, 2) := by decide +kernel
theorem d_132_81 : decode (mB 132) 81 = .ok (.iload_n 1, 1) := by decide +kernel
theorem d_132_82 : decode (mB 132) 82 = .ok (.imul, 1) := by decide +kernel
theorem d_132_83 : decode (mB 132) 83 = .ok (.iload 4, 2) := by decide +kernel
theorem d_132_85 : decode (mB 132) 85 = .ok (.iadd, 1) := by decide +kernel
theorem d_132_86 : decode (mB 132) 86 = .ok (.aload_n 0, 1) := by decide +kernel
theorem d_132_87 : decode (mB 132) 87 = .ok (.getfield 47, 3) := by decide +kernel
theorem d_132_90 : decode (mB 132) 90 = .ok (.iload_n 1, 1) := by decide +kernel
theorem d_132_91 : decode (mB 132) 91 = .ok (.iaload, 1) := by decide +kernel
theorem d_132_92 : decode (mB 132) 92 = .ok (.iastore, 1) := by decide +kernel
theorem d_132_93 : decode (mB 132) 93 = .ok (.iinc 4 1, 3) := by decide +kernel
theorem d_132_96 : decode (mB 132) 96 = .ok (.goto (-38), 3) := by decide +kernel
theorem d_132_99 : decode (mB 132) 99 = .ok (.return_, 1) := by decide +kernel
theorem d_133_0 : decode (mB 133) 0 = .ok (.aload_n 0, 1) := by decide +kernel
theorem d_133_1 : decode (mB 133) 1 = .ok (.iload_n 1, 1) := by decide +kernel
theorem d_133_2 : decode (mB 133) 2 = .ok (.invokevirtual 193, 3) := by decide +kernel
theorem d_133_5 : decode (mB 133) 5 = .ok (.istore_n 2, 1) := by decide +kernel
theorem d_133_6 : decode (mB 133) 6 = .ok (.iconst 0, 1) := by decide +kernel
theorem d_133_7 : decode (mB 133) 7 = .ok (.istore_n 3, 1) := by decide +kernel
theorem d_133_8 : decode (mB 133) 8 = .ok (.aload_n 0, 1) := by decide +kernel
theorem d_133_9 : decode (mB 133) 9 = .ok (.iload_n 1, 1) := by decide +kernel
theorem d_133_10 : decode (mB 133) 10 = .ok (.iconst (-1), 1) := by decide +kernel
theorem d_133_11 : decode (mB 133) 11 = .ok (.invokevirtual 222, 3) := by decide +kernel
theorem d_133_14 : decode (mB 133) 14 = .ok (.istore 4, 2) := by decide +kernel
theorem d_133_16 : decode (mB 133) 16 = .ok (.iload 4, 2) := by decide +kernel
theorem d_133_18 : decode (mB 133) 18 = .ok (.iconst (-1), 1) := by decide +kernel
theorem d_133_19 : decode (mB 133) 19 = .ok (.if_icmp .eq 182, 3) := by decide +kernel
theorem d_133_22 : decode (mB 133) 22 = .ok (.iconst 0, 1) := by decide +kernel
theorem d_133_23 : decode (mB 133) 23 = .ok (.istore 5, 2) := by decide +kernel
theorem d_133_25 : decode (mB 133) 25 = .ok (.iload 5, 2) := by decide +kernel
theorem d_133_27 : decode (mB 133) 27 = .ok (.aload_n 0, 1) := by decide +kernel
theorem d_133_28 : decode (mB 133) 28 = .ok (.getfield 47, 3) := by decide +kernel
theorem d_133_31 : decode (mB 133) 31 = .ok (.iload 4, 2) := by decide +kernel
theorem d_133_33 : decode (mB 133) 33 = .ok (.iaload, 1) := by decide +kernel
theorem d_133_34 : decode (mB 133) 34 = .ok (.if_icmp .ge 52, 3) := by decide +kernel
theorem d_133_37 : decode (mB 133) 37 = .ok (.iconst 0, 1) := by decide +kernel
theorem d_133_38 : decode (mB 133) 38 = .ok (.istore 6, 2) := by decide +kernel
theorem d_133_40 : decode (mB 133) 40 = .ok (.iload 6, 2) := by decide +kernel
theorem d_133_42 : decode (mB 133) 42 = .ok (.iconst 2, 1) := by decide +kernel
theorem d_133_43 : decode (mB 133) 43 = .ok (.if_icmp .ge 37, 3) := by decide +kernel
theorem d_133_46 : decode (mB 133) 46 = .ok (.aload_n 0, 1) := by decide +kernel
theorem d_133_47 : decode (mB 133) 47 = .ok (.getfield 74, 3) := by decide +kernel
theorem d_133_50 : decode (mB 133) 50 = .ok (.iload 4, 2) := by decide +kernel
theorem d_133_52 : decode (mB 133) 52 = .ok (.bipush 16, 2) := by decide +kernel
theorem d_133_54 : decode (mB 133) 54 = .ok (.imul, 1) := by decide +kernel
theorem d_133_55 : decode (mB 133) 55 = .ok (.iload 5, 2) := by decide +kernel
theorem d_133_57 : decode (mB 133) 57 = .ok (.iadd, 1) := by decide +kernel
theorem d_133_58 : decode (mB 133) 58 = .ok (.iconst 2, 1) := by decide +kernel
theorem d_133_59 : decode (mB 133) 59 = .ok (.imul, 1) := by decide +kernel
theorem d_133_60 : decode (mB 133) 60 = .ok (.iload 6, 2) := by decide +kernel
theorem d_133_62 : decode (mB 133) 62 = .ok (.iadd, 1) := by decide +kernel
theorem d_133_63 : decode (mB 133) 63 = .ok (.aload_n 0, 1) := by decide +kernel
theorem d_133_64 : decode (mB 133) 64 = .ok (.iload 4, 2) := by decide +kernel
theorem d_133_66 : decode (mB 133) 66 = .ok (.iload 5, 2) := by decide +kernel
theorem d_133_68 : decode (mB 133) 68 = .ok (.iload 6, 2) := by decide +kernel
theorem d_133_70 : decode (mB 133) 70 = .ok (.invokevirtual 216, 3) := by decide +kernel
theorem d_133_73 : decode (mB 133) 73 = .ok (.bastore, 1) := by decide +kernel
theorem d_133_74 : decode (mB 133) 74 = .ok (.iinc 6 1, 3) := by decide +kernel
theorem d_133_77 : decode (mB 133) 77 = .ok (.goto (-37), 3) := by decide +kernel
theorem d_133_80 : decode (mB 133) 80 = .ok (.iinc 5 1, 3) := by decide +kernel
theorem d_133_83 : decode (mB 133) 83 = .ok (.goto (-58), 3) := by decide +kernel
theorem d_133_86 : decode (mB 133) 86 = .ok (.iload 4, 2) := by decide +kernel
theorem d_133_88 : decode (mB 133) 88 = .ok (.iload_n 2, 1) := by decide +kernel
theorem d_133_89 : decode (mB 133) 89 = .ok (.if_icmp .ne 6, 3) := by decide +kernel
theorem d_133_92 : decode (mB 133) 92 = .ok (.goto 92, 3) := by decide +kernel
theorem d_133_95 : decode (mB 133) 95 = .ok (.aload_n 0, 1) := by decide +kernel
theorem d_133_96 : decode (mB 133) 96 = .ok (.iload 4, 2) := by decide +kernel
theorem d_133_98 : decode (mB 133) 98 = .ok (.invokevirtual 225, 3) := by decide +kernel
theorem d_133_101 : decode (mB 133) 101 = .ok (.istore 5, 2) := by decide +kernel
theorem d_133_103 : decode (mB 133) 103 = .ok (.iload_n 3, 1) := by decide +kernel
theorem d_133_104 : decode (mB 133) 104 = .ok (.istore 6, 2) := by decide +kernel
theorem d_133_106 : decode (mB 133) 106 = .ok (.iload 6, 2) := by decide +kernel
theorem d_133_108 : decode (mB 133) 108 = .ok (.ifCond .le 55, 3) := by decide +kernel
theorem d_133_111 : decode (mB 133) 111 = .ok (.aload_n 0, 1) := by decide +kernel
theorem d_133_112 : decode (mB 133) 112 = .ok (.getfield 70, 3) := by decide +kernel
theorem d_133_115 : decode (mB 133) 115 = .ok (.iload 6, 2) := by decide +kernel
theorem d_133_117 : decode (mB 133) 117 = .ok (.iconst 1, 1) := by decide +kernel
theorem d_133_118 : decode (mB 133) 118 = .ok (.isub, 1) := by decide +kernel
theorem d_133_119 : decode (mB 133) 119 = .ok (.iaload, 1) := by decide +kernel
theorem d_133_120 : decode (mB 133) 120 = .ok (.iload 5, 2) := by decide +kernel
theorem d_133_122 : decode (mB 133) 122 = .ok (.if_icmp .le 41, 3) := by decide +kernel
theorem d_133_125 : decode (mB 133) 125 = .ok (.aload_n 0, 1) := by decide +kernel
theorem d_133_126 : decode (mB 133) 126 = .ok (.getfield 67, 3) := by decide +kernel
theorem d_133_129 : decode (mB 133) 129 = .ok (.iload 6, 2) := by decide +kernel
theorem d_133_131 : decode (mB 133) 131 = .ok (.aload_n 0, 1) := by decide +kernel
theorem d_133_132 : decode (mB 133) 132 = .ok (.getfield 67, 3) := by decide +kernel
theorem d_133_135 : decode (mB 133) 135 = .ok (.iload 6, 2) := by decide +kernel
theorem d_133_137 : decode (mB 133) 137 = .ok (.iconst 1, 1) := by decide +kernel
theorem d_133_138 : decode (mB 133) 138 = .ok (.isub, 1) := by decide +kernel
theorem d_133_139 : decode (mB 133) 139 = .ok (.iaload, 1) := by decide +kernel
theorem d_133_140 : decode (mB 133) 140 = .ok (.iastore, 1) := by decide +kernel
theorem d_133_141 : decode (mB 133) 141 = .ok (.aload_n 0, 1) := by decide +kernel
theorem d_133_142 : decode (mB 133) 142 = .ok (.getfield 70, 3) := by decide +kernel
theorem d_133_145 : decode (mB 133) 145 = .ok (.iload 6, 2) := by decide +kernel
theorem d_133_147 : decode (mB 133) 147 = .ok (.aload_n 0, 1) := by decide +kernel
theorem d_133_148 : decode (mB 133) 148 = .ok (.getfield 70, 3) := by decide +kernel
theorem d_133_151 : decode (mB 133) 151 = .ok (.iload 6, 2) := by decide +kernel
theorem d_133_153 : decode (mB 133) 153 = .ok (.iconst 1, 1) := by decide +kernel
theorem d_133_154 : decode (mB 133) 154 = .ok (.isub, 1) := by decide +kernel
theorem d_133_155 : decode (mB 133) 155 = .ok (.iaload, 1) := by decide +kernel
theorem d_133_156 : decode (mB 133) 156 = .ok (.iastore, 1) := by decide +kernel
theorem d_133_157 : decode (mB 133) 157 = .ok (.iinc 6 (-1), 3) := by decide +kernel
theorem d_133_160 : decode (mB 133) 160 = .ok (.goto (-54), 3) := by decide +kernel
theorem d_133_163 : decode (mB 133) 163 = .ok (.aload_n 0, 1) := by decide +kernel
theorem d_133_164 : decode (mB 133) 164 = .ok (.getfield 67, 3) := by decide +kernel
theorem d_133_167 : decode (mB 133) 167 = .ok (.iload 6, 2) := by decide +kernel
theorem d_133_169 : decode (mB 133) 169 = .ok (.iload 4, 2) := by decide +kernel
theorem d_133_171 : decode (mB 133) 171 = .ok (.iastore, 1) := by decide +kernel
theorem d_133_172 : decode (mB 133) 172 = .ok (.aload_n 0, 1) := by decide +kernel
theorem d_133_173 : decode (mB 133) 173 = .ok (.getfield 70, 3) := by decide +kernel
theorem d_133_176 : decode (mB 133) 176 = .ok (.iload 6, 2) := by decide +kernel
theorem d_133_178 : decode (mB 133) 178 = .ok (.iload 5, 2) := by decide +kernel
theorem d_133_180 : decode (mB 133) 180 = .ok (.iastore, 1) := by decide +kernel
theorem d_133_181 : decode (mB 133) 181 = .ok (.iinc 3 1, 3) := by decide +kernel
theorem d_133_184 : decode (mB 133) 184 = .ok (.aload_n 0, 1) := by decide +kernel
theorem d_133_185 : decode (mB 133) 185 = .ok (.iload_n 1, 1) := by decide +kernel
theorem d_133_186 : decode (mB 133) 186 = .ok (.aload_n 0, 1) := by decide +kernel
theorem d_133_187 : decode (mB 133) 187 = .ok (.getfield 41, 3) := by decide +kernel
theorem d_133_190 : decode (mB 133) 190 = .ok (.iload 4, 2) := by decide +kernel
theorem d_133_192 : decode (mB 133) 192 = .ok (.iaload, 1) := by decide +kernel
theorem d_133_193 : decode (mB 133) 193 = .ok (.invokevirtual 222, 3) := by decide +kernel
theorem d_133_196 : decode (mB 133) 196 = .ok (.istore 4, 2) := by decide +kernel
theorem d_133_198 : decode (mB 133) 198 = .ok (.goto (-182), 3) := by decide +kernel
theorem d_133_201 : decode (mB 133) 201 = .ok (.iconst 0, 1) := by decide +kernel
theorem d_133_202 : decode (mB 133) 202 = .ok (.istore 4, 2) := by decide +kernel
theorem d_133_204 : decode (mB 133) 204 = .ok (.iload 4, 2) := by decide +kernel
theorem d_133_206 : decode (mB 133) 206 = .ok (.iload_n 3, 1) := by decide +kernel
theorem d_133_207 : decode (mB 133) 207 = .ok (.if_icmp .ge 33, 3) := by decide +kernel
theorem d_133_210 : decode (mB 133) 210 = .ok (.aload_n 0, 1) := by decide +kernel
theorem d_133_211 : decode (mB 133) 211 = .ok (.getfield 70, 3) := by decide +kernel
theorem d_133_214 : decode (mB 133) 214 = .ok (.iload 4, 2) := by decide +kernel
theorem d_133_216 : decode (mB 133) 216 = .ok (.iaload, 1) := by decide +kernel
theorem d_133_217 : decode (mB 133) 217 = .ok (.ifCond .ne 23, 3) := by decide +kernel
theorem d_133_220 : decode (mB 133) 220 = .ok (.aload_n 0, 1) := by decide +kernel
theorem d_133_221 : decode (mB 133) 221 = .ok (.getfield 38, 3) := by decide +kernel
theorem d_133_224 : decode (mB 133) 224 = .ok (.aload_n 0, 1) := by decide +kernel
theorem d_133_225 : decode (mB 133) 225 = .ok (.getfield 67, 3) := by decide +kernel
theorem d_133_228 : decode (mB 133) 228 = .ok (.iload 4, 2) := by decide +kernel
theorem d_133_230 : decode (mB 133) 230 = .ok (.iaload, 1) := by decide +kernel
theorem d_133_231 : decode (mB 133) 231 = .ok (.bipush 99, 2) := by decide +kernel
theorem d_133_233 : decode (mB 133) 233 = .ok (.iastore, 1) := by decide +kernel
theorem d_133_234 : decode (mB 133) 234 = .ok (.iinc 4 1, 3) := by decide +kernel
theorem d_133_237 : decode (mB 133) 237 = .ok (.goto (-33), 3) := by decide +kernel
theorem d_133_240 : decode (mB 133) 240 = .ok (.iload 4, 2) := by decide +kernel
theorem d_133_242 : decode (mB 133) 242 = .ok (.istore 5, 2) := by decide +kernel
theorem d_133_244 : decode (mB 133) 244 = .ok (.iconst 0, 1) := by decide +kernel
theorem d_133_245 : decode (mB 133) 245 = .ok (.istore 6, 2) := by decide +kernel
theorem d_133_247 : decode (mB 133) 247 = .ok (.iload 5, 2) := by decide +kernel
theorem d_133_249 : decode (mB 133) 249 = .ok (.iload_n 3, 1) := by decide +kernel
theorem d_133_250 : decode (mB 133) 250 = .ok (.if_icmp .ge 38, 3) := by decide +kernel
theorem d_133_253 : decode (mB 133) 253 = .ok (.iload 6, 2) := by decide +kernel
theorem d_133_255 : decode (mB 133) 255 = .ok (.aload_n 0, 1) := by decide +kernel
theorem d_133_256 : decode (mB 133) 256 = .ok (.getfield 70, 3) := by decide +kernel
theorem d_133_259 : decode (mB 133) 259 = .ok (.iload 5, 2) := by decide +kernel
theorem d_133_261 : decode (mB 133) 261 = .ok (.iaload, 1) := by decide +kernel
theorem d_133_262 : decode (mB 133) 262 = .ok (.iadd, 1) := by decide +kernel
theorem d_133_263 : decode (mB 133) 263 = .ok (.aload_n 0, 1) := by decide +kernel
theorem d_133_264 : decode (mB 133) 264 = .ok (.getfield 151, 3) := by decide +kernel
theorem d_133_267 : decode (mB 133) 267 = .ok (.if_icmp .gt 21, 3) := by decide +kernel
theorem d_133_270 : decode (mB 133) 270 = .ok (.iload 6, 2) := by decide +kernel
theorem d_133_272 : decode (mB 133) 272 = .ok (.aload_n 0, 1) := by decide +kernel
theorem d_133_273 : decode (mB 133) 273 = .ok (.getfield 70, 3) := by decide +kernel
theorem d_133_276 : decode (mB 133) 276 = .ok (.iload 5, 2) := by decide +kernel
theorem d_133_278 : decode (mB 133) 278 = .ok (.iaload, 1) := by decide +kernel
theorem d_133_279 : decode (mB 133) 279 = .ok (.iadd, 1) := by decide +kernel
theorem d_133_280 : decode (mB 133) 280 = .ok (.istore 6, 2) := by decide +kernel
theorem d_133_282 : decode (mB 133) 282 = .ok (.iinc 5 1, 3) := by decide +kernel
theorem d_133_285 : decode (mB 133) 285 = .ok (.goto (-38), 3) := by decide +kernel
theorem d_133_288 : decode (mB 133) 288 = .ok (.iload 5, 2) := by decide +kernel
theorem d_133_290 : decode (mB 133) 290 = .ok (.iload 4, 2) := by decide +kernel
theorem d_133_292 : decode (mB 133) 292 = .ok (.isub, 1) := by decide +kernel
theorem d_133_293 : decode (mB 133) 293 = .ok (.iconst 1, 1) := by decide +kernel
theorem d_133_294 : decode (mB 133) 294 = .ok (.if_icmp .le 150, 3) := by decide +kernel
theorem d_133_297 : decode (mB 133) 297 = .ok (.aload_n 0, 1) := by decide +kernel
theorem d_133_298 : decode (mB 133) 298 = .ok (.iload_n 1, 1) := by decide +kernel
theorem d_133_299 : decode (mB 133) 299 = .ok (.iconst 0, 1) := by decide +kernel
theorem d_133_300 : decode (mB 133) 300 = .ok (.invokevirtual 228, 3) := by decide +kernel
theorem d_133_303 : decode (mB 133) 303 = .ok (.istore 7, 2) := by decide +kernel
theorem d_133_305 : decode (mB 133) 305 = .ok (.iload 4, 2) := by decide +kernel
theorem d_133_307 : decode (mB 133) 307 = .ok (.istore 8, 2) := by decide +kernel
theorem d_133_309 : decode (mB 133) 309 = .ok (.iload 8, 2) := by decide +kernel
theorem d_133_311 : decode (mB 133) 311 = .ok (.iload 5, 2) := by decide +kernel
theorem d_133_313 : decode (mB 133) 313 = .ok (.if_icmp .ge 100, 3) := by decide +kernel
theorem d_133_316 : decode (mB 133) 316 = .ok (.aload_n 0, 1) := by decide +kernel
theorem d_133_317 : decode (mB 133) 317 = .ok (.getfield 67, 3) := by decide +kernel
theorem d_133_320 : decode (mB 133) 320 = .ok (.iload 8, 2) := by decide +kernel
theorem d_133_322 : decode (mB 133) 322 = .ok (.iaload, 1) := by decide +kernel
theorem d_133_323 : decode (mB 133) 323 = .ok (.istore 9, 2) := by decide +kernel
theorem d_133_325 : decode (mB 133) 325 = .ok (.iconst 0, 1) := by decide +kernel
theorem d_133_326 : decode (mB 133) 326 = .ok (.istore 10, 2) := by decide +kernel
theorem d_133_328 : decode (mB 133) 328 = .ok (.iload 10, 2) := by decide +kernel
theorem d_133_330 : decode (mB 133) 330 = .ok (.aload_n 0, 1) := by decide +kernel
theorem d_133_331 : decode (mB 133) 331 = .ok (.getfield 47, 3) := by decide +kernel
theorem d_133_334 : decode (mB 133) 334 = .ok (.iload 9, 2) := by decide +kernel
theorem d_133_336 : decode (mB 133) 336 = .ok (.iaload, 1) := by decide +kernel
theorem d_133_337 : decode (mB 133) 337 = .ok (.if_icmp .ge 70, 3) := by decide +kernel
theorem d_133_340 : decode (mB 133) 340 = .ok (.iconst 0, 1) := by decide +kernel
theorem d_133_341 : decode (mB 133) 341 = .ok (.istore 11, 2) := by decide +kernel
theorem d_133_343 : decode (mB 133) 343 = .ok (.iload 11, 2) := by decide +kernel
theorem d_133_345 : decode (mB 133) 345 = .ok (.iconst 2, 1) := by decide +kernel
theorem d_133_346 : decode (mB 133) 346 = .ok (.if_icmp .ge 55, 3) := by decide +kernel
theorem d_133_349 : decode (mB 133) 349 = .ok (.aload_n 0, 1) := by decide +kernel
theorem d_133_350 : decode (mB 133) 350 = .ok (.getfield 74, 3) := by decide +kernel
theorem d_133_353 : decode (mB 133) 353 = .ok (.iload 9, 2) := by decide +kernel
theorem d_133_355 : decode (mB 133) 355 = .ok (.bipush 16, 2) := by decide +kernel
theorem d_133_357 : decode (mB 133) 357 = .ok (.imul, 1) := by decide +kernel
theorem d_133_358 : decode (mB 133) 358 = .ok (.iload 10, 2) := by decide +kernel
theorem d_133_360 : decode (mB 133) 360 = .ok (.iadd, 1) := by decide +kernel
theorem d_133_361 : decode (mB 133) 361 = .ok (.iconst 2, 1) := by decide +kernel
theorem d_133_362 : decode (mB 133) 362 = .ok (.imul, 1) := by decide +kernel
theorem d_133_363 : decode (mB 133) 363 = .ok (.iload 11, 2) := by decide +kernel
theorem d_133_365 : decode (mB 133) 365 = .ok (.iadd, 1) := by decide +kernel
theorem d_133_366 : decode (mB 133) 366 = .ok (.baload, 1) := by decide +kernel
theorem d_133_367 : decode (mB 133) 367 = .ok (.ifCond .ne 6, 3) := by decide +kernel
theorem d_133_370 : decode (mB 133) 370 = .ok (.goto 25, 3) := by decide +kernel
theorem d_133_373 : decode (mB 133) 373 = .ok (.aload_n 0, 1) := by decide +kernel
theorem d_133_374 : decode (mB 133) 374 = .ok (.iload 9, 2) := by decide +kernel
theorem d_133_376 : decode (mB 133) 376 = .ok (.iload 10, 2) := by decide +kernel
theorem d_133_378 : decode (mB 133) 378 = .ok (.iload 11, 2) := by decide +kernel
theorem d_133_380 : decode (mB 133) 380 = .ok (.iconst 0, 1) := by decide +kernel
theorem d_133_381 : decode (mB 133) 381 = .ok (.invokestatic 168, 3) := by decide +kernel
theorem d_133_384 : decode (mB 133) 384 = .ok (.invokevirtual 232, 3) := by decide +kernel
theorem d_133_387 : decode (mB 133) 387 = .ok (.aload_n 0, 1) := by decide +kernel
theorem d_133_388 : decode (mB 133) 388 = .ok (.iload 7, 2) := by decide +kernel
theorem d_133_390 : decode (mB 133) 390 = .ok (.bipush 8, 2) := by decide +kernel
theorem d_133_392 : decode (mB 133) 392 = .ok (.invokevirtual 236, 3) := by decide +kernel
theorem d_133_395 : decode (mB 133) 395 = .ok (.iinc 11 1, 3) := by decide +kernel
theorem d_133_398 : decode (mB 133) 398 = .ok (.goto (-55), 3) := by decide +kernel
theorem d_133_401 : decode (mB 133) 401 = .ok (.iinc 10 1, 3) := by decide +kernel
theorem d_133_404 : decode (mB 133) 404 = .ok (.goto (-76), 3) := by decide +kernel
theorem d_133_407 : decode (mB 133) 407 = .ok (.iinc 8 1, 3) := by decide +kernel
theorem d_133_410 : decode (mB 133) 410 = .ok (.goto (-101), 3) := by decide +kernel
theorem d_133_413 : decode (mB 133) 413 = .ok (.iload 4, 2) := by decide +kernel
theorem d_133_415 : decode (mB 133) 415 = .ok (.istore 8, 2) := by decide +kernel
theorem d_133_417 : decode (mB 133) 417 = .ok (.iload 8, 2) := by decide +kernel
theorem d_133_419 : decode (mB 133) 419 = .ok (.iload 5, 2) := by decide +kernel
theorem d_133_421 : decode (mB 133) 421 = .ok (.if_icmp .ge 23, 3) := by decide +kernel
theorem d_133_424 : decode (mB 133) 424 = .ok (.aload_n 0, 1) := by decide +kernel
theorem d_133_425 : decode (mB 133) 425 = .ok (.getfield 38, 3) := by decide +kernel
theorem d_133_428 : decode (mB 133) 428 = .ok (.aload_n 0, 1) := by decide +kernel
theorem d_133_429 : decode (mB 133) 429 = .ok (.getfield 67, 3) := by decide +kernel
theorem d_133_432 : decode (mB 133) 432 = .ok (.iload 8, 2) := by decide +kernel
theorem d_133_434 : decode (mB 133) 434 = .ok (.iaload, 1) := by decide +kernel
theorem d_133_435 : decode (mB 133) 435 = .ok (.bipush 99, 2) := by decide +kernel
theorem d_133_437 : decode (mB 133) 437 = .ok (.iastore, 1) := by decide +kernel
theorem d_133_438 : decode (mB 133) 438 = .ok (.iinc 8 1, 3) := by decide +kernel
theorem d_133_441 : decode (mB 133) 441 = .ok (.goto (-24), 3) := by decide +kernel
theorem d_133_444 : decode (mB 133) 444 = .ok (.iload 4, 2) := by decide +kernel
theorem d_133_446 : decode (mB 133) 446 = .ok (.ifCond .gt 12, 3) := by decide +kernel
theorem d_133_449 : decode (mB 133) 449 = .ok (.iload 5, 2) := by decide +kernel
theorem d_133_451 : decode (mB 133) 451 = .ok (.iload 4, 2) := by decide +kernel
theorem d_133_453 : decode (mB 133) 453 = .ok (.isub, 1) := by decide +kernel
theorem d_133_454 : decode (mB 133) 454 = .ok (.iconst 1, 1) := by decide +kernel
theorem d_133_455 : decode (mB 133) 455 = .ok (.if_icmp .le 13, 3) := by decide +kernel
theorem d_133_458 : decode (mB 133) 458 = .ok (.aload_n 0, 1) := by decide +kernel
theorem d_133_459 : decode (mB 133) 459 = .ok (.dup, 1) := by decide +kernel
theorem d_133_460 : decode (mB 133) 460 = .ok (.getfield 239, 3) := by decide +kernel
theorem d_133_463 : decode (mB 133) 463 = .ok (.iconst 1, 1) := by decide +kernel
theorem d_133_464 : decode (mB 133) 464 = .ok (.iadd, 1) := by decide +kernel
theorem d_133_465 : decode (mB 133) 465 = .ok (.putfield 239, 3) := by decide +kernel
theorem d_133_468 : decode (mB 133) 468 = .ok (.return_, 1) := by decide +kernel
theorem d_134_0 : decode (mB 134) 0 = .ok (.aload_n 0, 1) := by decide +kernel
theorem d_134_1 : decode (mB 134) 1 = .ok (.getfield 242, 3) := by decide +kernel
theorem d_134_4 : decode (mB 134) 4 = .ok (.ifCond .ne 15, 3) := by decide +kernel
theorem d_134_7 : decode (mB 134) 7 = .ok (.aload_n 0, 1) := by decide +kernel
theorem d_134_8 : decode (mB 134) 8 = .ok (.iload_n 1, 1) := by decide +kernel
theorem d_134_9 : decode (mB 134) 9 = .ok (.invokevirtual 246, 3) := by decide +kernel
theorem d_134_12 : decode (mB 134) 12 = .ok (.aload_n 0, 1) := by decide +kernel
theorem d_134_13 : decode (mB 134) 13 = .ok (.getfield 148, 3) := by decide +kernel
theorem d_134_16 : decode (mB 134) 16 = .ok (.if_icmp .ge 5, 3) := by decide +kernel
theorem d_134_19 : decode (mB 134) 19 = .ok (.iconst 0, 1) := by decide +kernel
theorem d_134_20 : decode (mB 134) 20 = .ok (.ireturn, 1) := by decide +kernel
theorem d_134_21 : decode (mB 134) 21 = .ok (.aload_n 0, 1) := by decide +kernel
theorem d_134_22 : decode (mB 134) 22 = .ok (.getfield 26, 3) := by decide +kernel
theorem d_134_25 : decode (mB 134) 25 = .ok (.iload_n 1, 1) := by decide +kernel
theorem d_134_26 : decode (mB 134) 26 = .ok (.iconst (-1), 1) := by decide +kernel
theorem d_134_27 : decode (mB 134) 27 = .ok (.iastore, 1) := by decide +kernel
theorem d_134_28 : decode (mB 134) 28 = .ok (.aload_n 0, 1) := by decide +kernel
theorem d_134_29 : decode (mB 134) 29 = .ok (.iload_n 1, 1) := by decide +kernel
theorem d_134_30 : decode (mB 134) 30 = .ok (.invokevirtual 249, 3) := by decide +kernel
theorem d_134_33 : decode (mB 134) 33 = .ok (.aload_n 0, 1) := by decide +kernel
theorem d_134_34 : decode (mB 134) 34 = .ok (.getfield 154, 3) := by decide +kernel
theorem d_134_37 : decode (mB 134) 37 = .ok (.iconst 1, 1) := by decide +kernel
theorem d_134_38 : decode (mB 134) 38 = .ok (.isub, 1) := by decide +kernel
theorem d_134_39 : decode (mB 134) 39 = .ok (.if_icmp .lt 8, 3) := by decide +kernel
theorem d_134_42 : decode (mB 134) 42 = .ok (.aload_n 0, 1) := by decide +kernel
theorem d_134_43 : decode (mB 134) 43 = .ok (.iload_n 1, 1) := by decide +kernel
theorem d_134_44 : decode (mB 134) 44 = .ok (.invokevirtual 252, 3) := by decide +kernel
theorem d_134_47 : decode (mB 134) 47 = .ok (.iload_n 2, 1) := by decide +kernel
theorem d_134_48 : decode (mB 134) 48 = .ok (.ifCond .ne 17, 3) := by decide +kernel
theorem d_134_51 : decode (mB 134) 51 = .ok (.aload_n 0, 1) := by decide +kernel
theorem d_134_52 : decode (mB 134) 52 = .ok (.iload_n 1, 1) := by decide +kernel
theorem d_134_53 : decode (mB 134) 53 = .ok (.invokevirtual 249, 3) := by decide +kernel
theorem d_134_56 : decode (mB 134) 56 = .ok (.aload_n 0, 1) := by decide +kernel
theorem d_134_57 : decode (mB 134) 57 = .ok (.getfield 154, 3) := by decide +kernel
theorem d_134_60 : decode (mB 134) 60 = .ok (.if_icmp .lt 5, 3) := by decide +kernel
theorem d_134_63 : decode (mB 134) 63 = .ok (.iconst 0, 1) := by decide +kernel
theorem d_134_64 : decode (mB 134) 64 = .ok (.ireturn, 1) := by decide +kernel
theorem d_134_65 : decode (mB 134) 65 = .ok (.aload_n 0, 1) := by decide +kernel
theorem d_134_66 : decode (mB 134) 66 = .ok (.getfield 26, 3) := by decide +kernel
theorem d_134_69 : decode (mB 134) 69 = .ok (.iload_n 1, 1) := by decide +kernel
theorem d_134_70 : decode (mB 134) 70 = .ok (.aload_n 0, 1) := by decide +kernel
theorem d_134_71 : decode (mB 134) 71 = .ok (.iload_n 1, 1) := by decide +kernel
theorem d_134_72 : decode (mB 134) 72 = .ok (.iconst 1, 1) := by decide +kernel
theorem d_134_73 : decode (mB 134) 73 = .ok (.invokevirtual 228, 3) := by decide +kernel
theorem d_134_76 : decode (mB 134) 76 = .ok (.iastore, 1) := by decide +kernel
theorem d_134_77 : decode (mB 134) 77 = .ok (.iconst 0, 1) := by decide +kernel
theorem d_134_78 : decode (mB 134) 78 = .ok (.istore_n 3, 1) := by decide +kernel
theorem d_134_79 : decode (mB 134) 79 = .ok (.iload_n 3, 1) := by decide +kernel
theorem d_134_80 : decode (mB 134) 80 = .ok (.bipush 18, 2) := by decide +kernel
theorem d_134_82 : decode (mB 134) 82 = .ok (.if_icmp .ge 21, 3) := by decide +kernel
theorem d_134_85 : decode (mB 134) 85 = .ok (.aload_n 0, 1) := by decide +kernel
theorem d_134_86 : decode (mB 134) 86 = .ok (.getfield 77, 3) := by decide +kernel
theorem d_134_89 : decode (mB 134) 89 = .ok (.iload_n 3, 1) := by decide +kernel
theorem d_134_90 : decode (mB 134) 90 = .ok (.aload_n 0, 1) := by decide +kernel
theorem d_134_91 : decode (mB 134) 91 = .ok (.getfield 64, 3) := by decide +kernel
theorem d_134_94 : decode (mB 134) 94 = .ok (.iload_n 3, 1) := by decide +kernel
theorem d_134_95 : decode (mB 134) 95 = .ok (.iaload, 1) := by decide +kernel
theorem d_134_96 : decode (mB 134) 96 = .ok (.iastore, 1) := by decide +kernel
theorem d_134_97 : decode (mB 134) 97 = .ok (.iinc 3 1, 3) := by decide +kernel
theorem d_134_100 : decode (mB 134) 100 = .ok (.goto (-21), 3) := by decide +kernel
theorem d_134_103 : decode (mB 134) 103 = .ok (.aload_n 0, 1) := by decide +kernel
theorem d_134_104 : decode (mB 134) 104 = .ok (.invokevirtual 219, 3) := by decide +kernel
theorem d_134_107 : decode (mB 134) 107 = .ok (.aload_n 0, 1) := by decide +kernel
theorem d_134_108 : decode (mB 134) 108 = .ok (.getfield 64, 3) := by decide +kernel
theorem d_134_111 : decode (mB 134) 111 = .ok (.iconst 0, 1) := by decide +kernel
theorem d_134_112 : decode (mB 134) 112 = .ok (.iconst 1, 1) := by decide +kernel
theorem d_134_113 : decode (mB 134) 113 = .ok (.iastore, 1) := by decide +kernel
theorem d_134_114 : decode (mB 134) 114 = .ok (.aload_n 0, 1) := by decide +kernel
theorem d_134_115 : decode (mB 134) 115 = .ok (.getfield 64, 3) := by decide +kernel
theorem d_134_118 : decode (mB 134) 118 = .ok (.bipush 6, 2) := by decide +kernel
theorem d_134_120 : decode (mB 134) 120 = .ok (.aload_n 0, 1) := by decide +kernel
theorem d_134_121 : decode (mB 134) 121 = .ok (.getfield 23, 3) := by decide +kernel
theorem d_134_124 : decode (mB 134) 124 = .ok (.iload_n 1, 1) := by decide +kernel
theorem d_134_125 : decode (mB 134) 125 = .ok (.iaload, 1) := by decide +kernel
theorem d_134_126 : decode (mB 134) 126 = .ok (.iastore, 1) := by decide +kernel
theorem d_134_127 : decode (mB 134) 127 = .ok (.aload_n 0, 1) := by decide +kernel
theorem d_134_128 : decode (mB 134) 128 = .ok (.aload_n 0, 1) := by decide +kernel
theorem d_134_129 : decode (mB 134) 129 = .ok (.getfield 26, 3) := by decide +kernel
theorem d_134_132 : decode (mB 134) 132 = .ok (.iload_n 1, 1) := by decide +kernel
theorem d_134_133 : decode (mB 134) 133 = .ok (.iaload, 1) := by decide +kernel
theorem d_134_134 : decode (mB 134) 134 = .ok (.bipush 8, 2) := by decide +kernel
theorem d_134_136 : decode (mB 134) 136 = .ok (.invokevirtual 236, 3) := by decide +kernel
theorem d_134_139 : decode (mB 134) 139 = .ok (.iconst 0, 1) := by decide +kernel
theorem d_134_140 : decode (mB 134) 140 = .ok (.istore_n 3, 1) := by decide +kernel
theorem d_134_141 : decode (mB 134) 141 = .ok (.iload_n 3, 1) := by decide +kernel
theorem d_134_142 : decode (mB 134) 142 = .ok (.bipush 18, 2) := by decide +kernel
theorem d_134_144 : decode (mB 134) 144 = .ok (.if_icmp .ge 21, 3) := by decide +kernel
theorem d_134_147 : decode (mB 134) 147 = .ok (.aload_n 0, 1) := by decide +kernel
theorem d_134_148 : decode (mB 134) 148 = .ok (.getfield 64, 3) := by decide +kernel
theorem d_134_151 : decode (mB 134) 151 = .ok (.iload_n 3, 1) := by decide +kernel
theorem d_134_152 : decode (mB 134) 152 = .ok (.aload_n 0, 1) := by decide +kernel
theorem d_134_153 : decode (mB 134) 153 = .ok (.getfield 77, 3) := by decide +kernel
theorem d_134_156 : decode (mB 134) 156 = .ok (.iload_n 3, 1) := by decide +kernel
theorem d_134_157 : decode (mB 134) 157 = .ok (.iaload, 1) := by decide +kernel
theorem d_134_158 : decode (mB 134) 158 = .ok (.iastore, 1) := by decide +kernel
theorem d_134_159 : decode (mB 134) 159 = .ok (.iinc 3 1, 3) := by decide +kernel
theorem d_134_162 : decode (mB 134) 162 = .ok (.goto (-21), 3) := by decide +kernel
theorem d_134_165 : decode (mB 134) 165 = .ok (.iconst 1, 1) := by decide +kernel
theorem d_134_166 : decode (mB 134) 166 = .ok (.ireturn, 1) := by decide +kernel
theorem d_135_0 : decode (mB 135) 0 = .ok (.aload_n 0, 1) := by decide +kernel
theorem d_135_1 : decode (mB 135) 1 = .ok (.getfield 26, 3) := by decide +kernel
theorem d_135_4 : decode (mB 135) 4 = .ok (.iload_n 1, 1) := by decide +kernel
theorem d_135_5 : decode (mB 135) 5 = .ok (.iaload, 1) := by decide +kernel
theorem d_135_6 : decode (mB 135) 6 = .ok (.iconst (-1), 1) := by decide +kernel
theorem d_135_7 : decode (mB 135) 7 = .ok (.if_icmp .eq 31, 3) := by decide +kernel
theorem d_135_10 : decode (mB 135) 10 = .ok (.aload_n 0, 1) := by decide +kernel
theorem d_135_11 : decode (mB 135) 11 = .ok (.aload_n 0, 1) := by decide +kernel
theorem d_135_12 : decode (mB 135) 12 = .ok (.getfield 26, 3) := by decide +kernel
theorem d_135_15 : decode (mB 135) 15 = .ok (.iload_n 1, 1) := by decide +kernel
theorem d_135_16 : decode (mB 135) 16 = .ok (.iaload, 1) := by decide +kernel
theorem d_135_17 : decode (mB 135) 17 = .ok (.invokevirtual 255, 3) := by decide +kernel
theorem d_135_20 : decode (mB 135) 20 = .ok (.aload_n 0, 1) := by decide +kernel
theorem d_135_21 : decode (mB 135) 21 = .ok (.getfield 54, 3) := by decide +kernel
theorem d_135_24 : decode (mB 135) 24 = .ok (.aload_n 0, 1) := by decide +kernel
theorem d_135_25 : decode (mB 135) 25 = .ok (.getfield 26, 3) := by decide +kernel
theorem d_135_28 : decode (mB 135) 28 = .ok (.iload_n 1, 1) := by decide +kernel
theorem d_135_29 : decode (mB 135) 29 = .ok (.iaload, 1) := by decide +kernel
theorem d_135_30 : decode (mB 135) 30 = .ok (.iaload, 1) := by decide +kernel
theorem d_135_31 : decode (mB 135) 31 = .ok (.if_icmp .ne 7, 3) := by decide +kernel
theorem d_135_34 : decode (mB 135) 34 = .ok (.iconst 1, 1) := by decide +kernel
theorem d_135_35 : decode (mB 135) 35 = .ok (.goto 4, 3) := by decide +kernel
theorem d_135_38 : decode (mB 135) 38 = .ok (.iconst 0, 1) := by decide +kernel
theorem d_135_39 : decode (mB 135) 39 = .ok (.ireturn, 1) := by decide +kernel
theorem d_136_0 : decode (mB 136) 0 = .ok (.aload_n 0, 1) := by decide +kernel
theorem d_136_1 : decode (mB 136) 1 = .ok (.iload_n 1, 1) := by decide +kernel
theorem d_136_2 : decode (mB 136) 2 = .ok (.invokevirtual 258, 3) := by decide +kernel
theorem d_136_5 : decode (mB 136) 5 = .ok (.ifCond .eq 25, 3) := by decide +kernel
theorem d_136_8 : decode (mB 136) 8 = .ok (.aload_n 0, 1) := by decide +kernel
theorem d_136_9 : decode (mB 136) 9 = .ok (.getfield 151, 3) := by decide +kernel
theorem d_136_12 : decode (mB 136) 12 = .ok (.aload_n 0, 1) := by decide +kernel
theorem d_136_13 : decode (mB 136) 13 = .ok (.aload_n 0, 1) := by decide +kernel
theorem d_136_14 : decode (mB 136) 14 = .ok (.getfield 26, 3) := by decide +kernel
theorem d_136_17 : decode (mB 136) 17 = .ok (.iload_n 1, 1) := by decide +kernel
theorem d_136_18 : decode (mB 136) 18 = .ok (.iaload, 1) := by decide +kernel
theorem d_136_19 : decode (mB 136) 19 = .ok (.invokevirtual 261, 3) := by decide +kernel
theorem d_136_22 : decode (mB 136) 22 = .ok (.isub, 1) := by decide +kernel
theorem d_136_23 : decode (mB 136) 23 = .ok (.aload_n 0, 1) := by decide +kernel
theorem d_136_24 : decode (mB 136) 24 = .ok (.invokevirtual 264, 3) := by decide +kernel
theorem d_136_27 : decode (mB 136) 27 = .ok (.if_icmp .ge 78, 3) := by decide +kernel
theorem d_136_30 : decode (mB 136) 30 = .ok (.iconst 0, 1) := by decide +kernel
theorem d_136_31 : decode (mB 136) 31 = .ok (.istore 4, 2) := by decide +kernel
theorem d_136_33 : decode (mB 136) 33 = .ok (.iload 4, 2) := by decide +kernel
theorem d_136_35 : decode (mB 136) 35 = .ok (.bipush 18, 2) := by decide +kernel
theorem d_136_37 : decode (mB 136) 37 = .ok (.if_icmp .ge 23, 3) := by decide +kernel
theorem d_136_40 : decode (mB 136) 40 = .ok (.aload_n 0, 1) := by decide +kernel
theorem d_136_41 : decode (mB 136) 41 = .ok (.getfield 80, 3) := by decide +kernel
theorem d_136_44 : decode (mB 136) 44 = .ok (.iload 4, 2) := by decide +kernel
theorem d_136_46 : decode (mB 136) 46 = .ok (.aload_n 0, 1) := by decide +kernel
theorem d_136_47 : decode (mB 136) 47 = .ok (.getfield 64, 3) := by decide +kernel
theorem d_136_50 : decode (mB 136) 50 = .ok (.iload 4, 2) := by decide +kernel
theorem d_136_52 : decode (mB 136) 52 = .ok (.iaload, 1) := by decide +kernel
theorem d_136_53 : decode (mB 136) 53 = .ok (.iastore, 1) := by decide +kernel
theorem d_136_54 : decode (mB 136) 54 = .ok (.iinc 4 1, 3) := by decide +kernel
theorem d_136_57 : decode (mB 136) 57 = .ok (.goto (-24), 3) := by decide +kernel
theorem d_136_60 : decode (mB 136) 60 = .ok (.aload_n 0, 1) := by decide +kernel
theorem d_136_61 : decode (mB 136) 61 = .ok (.iload_n 1, 1) := by decide +kernel
theorem d_136_62 : decode (mB 136) 62 = .ok (.iload_n 2, 1) := by decide +kernel
theorem d_136_63 : decode (mB 136) 63 = .ok (.invokevirtual 268, 3) := by decide +kernel
theorem d_136_66 : decode (mB 136) 66 = .ok (.istore 4, 2) := by decide +kernel
theorem d_136_68 : decode (mB 136) 68 = .ok (.iconst 0, 1) := by decide +kernel
theorem d_136_69 : decode (mB 136) 69 = .ok (.istore 5, 2) := by decide +kernel
theorem d_136_71 : decode (mB 136) 71 = .ok (.iload 5, 2) := by decide +kernel
theorem d_136_73 : decode (mB 136) 73 = .ok (.bipush 18, 2) := by decide +kernel
theorem d_136_75 : decode (mB 136) 75 = .ok (.if_icmp .ge 23, 3) := by decide +kernel
theorem d_136_78 : decode (mB 136) 78 = .ok (.aload_n 0, 1) := by decide +kernel
theorem d_136_79 : decode (mB 136) 79 = .ok (.getfield 64, 3) := by decide +kernel
theorem d_136_82 : decode (mB 136) 82 = .ok (.iload 5, 2) := by decide +kernel
theorem d_136_84 : decode (mB 136) 84 = .ok (.aload_n 0, 1) := by decide +kernel
theorem d_136_85 : decode (mB 136) 85 = .ok (.getfield 80, 3) := by decide +kernel
theorem d_136_88 : decode (mB 136) 88 = .ok (.iload 5, 2) := by decide +kernel
theorem d_136_90 : decode (mB 136) 90 = .ok (.iaload, 1) := by decide +kernel
theorem d_136_91 : decode (mB 136) 91 = .ok (.iastore, 1) := by decide +kernel
theorem d_136_92 : decode (mB 136) 92 = .ok (.iinc 5 1, 3) := by decide +kernel
theorem d_136_95 : decode (mB 136) 95 = .ok (.goto (-24), 3) := by decide +kernel
theorem d_136_98 : decode (mB 136) 98 = .ok (.iload 4, 2) := by decide +kernel
theorem d_136_100 : decode (mB 136) 100 = .ok (.ifCond .ne 5, 3) := by decide +kernel
theorem d_136_103 : decode (mB 136) 103 = .ok (.iconst 0, 1) := by decide +kernel
theorem d_136_104 : decode (mB 136) 104 = .ok (.ireturn, 1) := by decide +kernel
theorem d_136_105 : decode (mB 136) 105 = .ok (.aload_n 0, 1) := by decide +kernel
theorem d_136_106 : decode (mB 136) 106 = .ok (.getfield 64, 3) := by decide +kernel
theorem d_136_109 : decode (mB 136) 109 = .ok (.iconst 0, 1) := by decide +kernel
theorem d_136_110 : decode (mB 136) 110 = .ok (.iaload, 1) := by decide +kernel
theorem d_136_111 : decode (mB 136) 111 = .ok (.iconst 4, 1) := by decide +kernel
theorem d_136_112 : decode (mB 136) 112 = .ok (.if_icmp .ne 34, 3) := by decide +kernel
theorem d_136_115 : decode (mB 136) 115 = .ok (.aload_n 0, 1) := by decide +kernel
theorem d_136_116 : decode (mB 136) 116 = .ok (.iload_n 1, 1) := by decide +kernel
theorem d_136_117 : decode (mB 136) 117 = .ok (.aload_n 0, 1) := by decide +kernel
theorem d_136_118 : decode (mB 136) 118 = .ok (.getfield 64, 3) := by decide +kernel
theorem d_136_121 : decode (mB 136) 121 = .ok (.iconst 3, 1) := by decide +kernel
theorem d_136_122 : decode (mB 136) 122 = .ok (.iaload, 1) := by decide +kernel
theorem d_136_123 : decode (mB 136) 123 = .ok (.invokevirtual 272, 3) := by decide +kernel
theorem d_136_126 : decode (mB 136) 126 = .ok (.iconst (-1), 1) := by decide +kernel
theorem d_136_127 : decode (mB 136) 127 = .ok (.if_icmp .eq 19, 3) := by decide +kernel
theorem d_136_130 : decode (mB 136) 130 = .ok (.aload_n 0, 1) := by decide +kernel
theorem d_136_131 : decode (mB 136) 131 = .ok (.getfield 64, 3) := by decide +kernel
theorem d_136_134 : decode (mB 136) 134 = .ok (.bipush 8, 2) := by decide +kernel
theorem d_136_136 : decode (mB 136) 136 = .ok (.aload_n 0, 1) := by decide +kernel
theorem d_136_137 : decode (mB 136) 137 = .ok (.getfield 41, 3) := by decide +kernel
theorem d_136_140 : decode (mB 136) 140 = .ok (.aload_n 0, 1) := by decide +kernel
theorem d_136_141 : decode (mB 136) 141 = .ok (.getfield 202, 3) := by decide +kernel
theorem d_136_144 : decode (mB 136) 144 = .ok (.iaload, 1) := by decide +kernel
theorem d_136_145 : decode (mB 136) 145 = .ok (.iastore, 1) := by decide +kernel
theorem d_136_146 : decode (mB 136) 146 = .ok (.aload_n 0, 1) := by decide +kernel
theorem d_136_147 : decode (mB 136) 147 = .ok (.aload_n 0, 1) := by decide +kernel
theorem d_136_148 : decode (mB 136) 148 = .ok (.getfield 26, 3) := by decide +kernel
theorem d_136_151 : decode (mB 136) 151 = .ok (.iload_n 1, 1) := by decide +kernel
theorem d_136_152 : decode (mB 136) 152 = .ok (.iaload, 1) := by decide +kernel
theorem d_136_153 : decode (mB 136) 153 = .ok (.iload_n 3, 1) := by decide +kernel
theorem d_136_154 : decode (mB 136) 154 = .ok (.invokevirtual 236, 3) := by decide +kernel
theorem d_136_157 : decode (mB 136) 157 = .ok (.aload_n 0, 1) := by decide +kernel
theorem d_136_158 : decode (mB 136) 158 = .ok (.dup, 1) := by decide +kernel
theorem d_136_159 : decode (mB 136) 159 = .ok (.getfield 275, 3) := by decide +kernel
theorem d_136_162 : decode (mB 136) 162 = .ok (.iconst 1, 1) := by decide +kernel
theorem d_136_163 : decode (mB 136) 163 = .ok (.iadd, 1) := by decide +kernel
theorem d_136_164 : decode (mB 136) 164 = .ok (.putfield 275, 3) := by decide +kernel
theorem d_136_167 : decode (mB 136) 167 = .ok (.iconst 1, 1) := by decide +kernel
theorem d_136_168 : decode (mB 136) 168 = .ok (.ireturn, 1) := by decide +kernel
theorem d_137_0 : decode (mB 137) 0 = .ok (.iconst 0, 1) := by decide +kernel
theorem d_137_1 : decode (mB 137) 1 = .ok (.istore_n 2, 1) := by decide +kernel
theorem d_137_2 : decode (mB 137) 2 = .ok (.iload_n 2, 1) := by decide +kernel
theorem d_137_3 : decode (mB 137) 3 = .ok (.bipush 8, 2) := by decide +kernel
theorem d_137_5 : decode (mB 137) 5 = .ok (.if_icmp .ge 21, 3) := by decide +kernel
theorem d_137_8 : decode (mB 137) 8 = .ok (.aload_n 0, 1) := by decide +kernel
theorem d_137_9 : decode (mB 137) 9 = .ok (.getfield 17, 3) := by decide +kernel
theorem d_137_12 : decode (mB 137) 12 = .ok (.bipush 8, 2) := by decide +kernel
theorem d_137_14 : decode (mB 137) 14 = .ok (.iload_n 1, 1) := by decide +kernel
theorem d_137_15 : decode (mB 137) 15 = .ok (.imul, 1) := by decide +kernel
theorem d_137_16 : decode (mB 137) 16 = .ok (.iload_n 2, 1) := by decide +kernel
theorem d_137_17 : decode (mB 137) 17 = .ok (.iadd, 1) := by decide +kernel
theorem d_137_18 : decode (mB 137) 18 = .ok (.iconst 0, 1) := by decide +kernel
theorem d_137_19 : decode (mB 137) 19 = .ok (.bastore, 1) := by decide +kernel
theorem d_137_20 : decode (mB 137) 20 = .ok (.iinc 2 1, 3) := by decide +kernel
theorem d_137_23 : decode (mB 137) 23 = .ok (.goto (-21), 3) := by decide +kernel
theorem d_137_26 : decode (mB 137) 26 = .ok (.aload_n 0, 1) := by decide +kernel
theorem d_137_27 : decode (mB 137) 27 = .ok (.getfield 23, 3) := by decide +kernel
theorem d_137_30 : decode (mB 137) 30 = .ok (.iload_n 1, 1) := by decide +kernel
theorem d_137_31 : decode (mB 137) 31 = .ok (.iconst 0, 1) := by decide +kernel
theorem d_137_32 : decode (mB 137) 32 = .ok (.iastore, 1) := by decide +kernel
theorem d_137_33 : decode (mB 137) 33 = .ok (.aload_n 0, 1) := by decide +kernel
theorem d_137_34 : decode (mB 137) 34 = .ok (.getfield 26, 3) := by decide +kernel
theorem d_137_37 : decode (mB 137) 37 = .ok (.iload_n 1, 1) := by decide +kernel
theorem d_137_38 : decode (mB 137) 38 = .ok (.iconst (-1), 1) := by decide +kernel
theorem d_137_39 : decode (mB 137) 39 = .ok (.iastore, 1) := by decide +kernel
theorem d_137_40 : decode (mB 137) 40 = .ok (.aload_n 0, 1) := by decide +kernel
theorem d_137_41 : decode (mB 137) 41 = .ok (.getfield 13, 3) := by decide +kernel
theorem d_137_44 : decode (mB 137) 44 = .ok (.iload_n 1, 1) := by decide +kernel
theorem d_137_45 : decode (mB 137) 45 = .ok (.iconst 0, 1) := by decide +kernel
theorem d_137_46 : decode (mB 137) 46 = .ok (.bastore, 1) := by decide +kernel
theorem d_137_47 : decode (mB 137) 47 = .ok (.aload_n 0, 1) := by decide +kernel
theorem d_137_48 : decode (mB 137) 48 = .ok (.getfield 32, 3) := by decide +kernel
theorem d_137_51 : decode (mB 137) 51 = .ok (.iload_n 1, 1) := by decide +kernel
theorem d_137_52 : decode (mB 137) 52 = .ok (.iconst (-1), 1) := by decide +kernel
theorem d_137_53 : decode (mB 137) 53 = .ok (.iastore, 1) := by decide +kernel
theorem d_137_54 : decode (mB 137) 54 = .ok (.return_, 1) := by decide +kernel
theorem d_138_0 : decode (mB 138) 0 = .ok (.aload_n 0, 1) := by decide +kernel
theorem d_138_1 : decode (mB 138) 1 = .ok (.iload_n 1, 1) := by decide +kernel
theorem d_138_2 : decode (mB 138) 2 = .ok (.invokevirtual 278, 3) := by decide +kernel
theorem d_138_5 : decode (mB 138) 5 = .ok (.ifCond .le 7, 3) := by decide +kernel
theorem d_138_8 : decode (mB 138) 8 = .ok (.iconst 1, 1) := by decide +kernel
theorem d_138_9 : decode (mB 138) 9 = .ok (.goto 4, 3) := by decide +kernel
theorem d_138_12 : decode (mB 138) 12 = .ok (.iconst 0, 1) := by decide +kernel
theorem d_138_13 : decode (mB 138) 13 = .ok (.istore_n 2, 1) := by decide +kernel
theorem d_138_14 : decode (mB 138) 14 = .ok (.iconst 0, 1) := by decide +kernel
theorem d_138_15 : decode (mB 138) 15 = .ok (.istore_n 3, 1) := by decide +kernel
theorem d_138_16 : decode (mB 138) 16 = .ok (.iload_n 3, 1) := by decide +kernel
theorem d_138_17 : decode (mB 138) 17 = .ok (.aload_n 0, 1) := by decide +kernel
theorem d_138_18 : decode (mB 138) 18 = .ok (.getfield 180, 3) := by decide +kernel
theorem d_138_21 : decode (mB 138) 21 = .ok (.if_icmp .ge 47, 3) := by decide +kernel
theorem d_138_24 : decode (mB 138) 24 = .ok (.aload_n 0, 1) := by decide +kernel
theorem d_138_25 : decode (mB 138) 25 = .ok (.getfield 38, 3) := by decide +kernel
theorem d_138_28 : decode (mB 138) 28 = .ok (.iload_n 3, 1) := by decide +kernel
theorem d_138_29 : decode (mB 138) 29 = .ok (.iaload, 1) := by decide +kernel
theorem d_138_30 : decode (mB 138) 30 = .ok (.iload_n 1, 1) := by decide +kernel
theorem d_138_31 : decode (mB 138) 31 = .ok (.if_icmp .ne 31, 3) := by decide +kernel
theorem d_138_34 : decode (mB 138) 34 = .ok (.aload_n 0, 1) := by decide +kernel
theorem d_138_35 : decode (mB 138) 35 = .ok (.getfield 38, 3) := by decide +kernel
theorem d_138_38 : decode (mB 138) 38 = .ok (.iload_n 3, 1) := by decide +kernel
theorem d_138_39 : decode (mB 138) 39 = .ok (.iload_n 2, 1) := by decide +kernel
theorem d_138_40 : decode (mB 138) 40 = .ok (.ifCond .eq 19, 3) := by decide +kernel
theorem d_138_43 : decode (mB 138) 43 = .ok (.aload_n 0, 1) := by decide +kernel
theorem d_138_44 : decode (mB 138) 44 = .ok (.getfield 20, 3) := by decide +kernel
theorem d_138_47 : decode (mB 138) 47 = .ok (.iload_n 1, 1) := by decide +kernel
theorem d_138_48 : decode (mB 138) 48 = .ok (.baload, 1) := by decide +kernel
theorem d_138_49 : decode (mB 138) 49 = .ok (.ifCond .ne 10, 3) := by decide +kernel
theorem d_138_52 : decode (mB 138) 52 = .ok (.bipush 8, 2) := by decide +kernel
theorem d_138_54 : decode (mB 138) 54 = .ok (.iload_n 1, 1) := by decide +kernel
theorem d_138_55 : decode (mB 138) 55 = .ok (.iadd, 1) := by decide +kernel
theorem d_138_56 : decode (mB 138) 56 = .ok (.goto 5, 3) := by decide +kernel
theorem d_138_59 : decode (mB 138) 59 = .ok (.bipush 99, 2) := by decide +kernel
theorem d_138_61 : decode (mB 138) 61 = .ok (.iastore, 1) := by decide +kernel
theorem d_138_62 : decode (mB 138) 62 = .ok (.iinc 3 1, 3) := by decide +kernel
theorem d_138_65 : decode (mB 138) 65 = .ok (.goto (-49), 3) := by decide +kernel
theorem d_138_68 : decode (mB 138) 68 = .ok (.aload_n 0, 1) := by decide +kernel
theorem d_138_69 : decode (mB 138) 69 = .ok (.getfield 20, 3) := by decide +kernel
theorem d_138_72 : decode (mB 138) 72 = .ok (.iload_n 1, 1) := by decide +kernel
theorem d_138_73 : decode (mB 138) 73 = .ok (.aload_n 0, 1) := by decide +kernel
theorem d_138_74 : decode (mB 138) 74 = .ok (.getfield 20, 3) := by decide +kernel
theorem d_138_77 : decode (mB 138) 77 = .ok (.iload_n 1, 1) := by decide +kernel
theorem d_138_78 : decode (mB 138) 78 = .ok (.baload, 1) := by decide +kernel
theorem d_138_79 : decode (mB 138) 79 = .ok (.ifCond .ne 7, 3) := by decide +kernel
theorem d_138_82 : decode (mB 138) 82 = .ok (.iload_n 2, 1) := by decide +kernel
theorem d_138_83 : decode (mB 138) 83 = .ok (.ifCond .eq 7, 3) := by decide +kernel
theorem d_138_86 : decode (mB 138) 86 = .ok (.iconst 1, 1) := by decide +kernel
theorem d_138_87 : decode (mB 138) 87 = .ok (.goto 4, 3) := by decide +kernel
theorem d_138_90 : decode (mB 138) 90 = .ok (.iconst 0, 1) := by decide +kernel
theorem d_138_91 : decode (mB 138) 91 = .ok (.bastore, 1) := by decide +kernel
theorem d_138_92 : decode (mB 138) 92 = .ok (.aload_n 0, 1) := by decide +kernel
theorem d_138_93 : decode (mB 138) 93 = .ok (.iload_n 1, 1) := by decide +kernel
theorem d_138_94 : decode (mB 138) 94 = .ok (.invokevirtual 281, 3) := by decide +kernel
theorem d_138_97 : decode (mB 138) 97 = .ok (.aload_n 0, 1) := by decide +kernel
theorem d_138_98 : decode (mB 138) 98 = .ok (.getfield 9, 3) := by decide +kernel
theorem d_138_101 : decode (mB 138) 101 = .ok (.iload_n 1, 1) := by decide +kernel
theorem d_138_102 : decode (mB 138) 102 = .ok (.iconst 2, 1) := by decide +kernel
theorem d_138_103 : decode (mB 138) 103 = .ok (.iastore, 1) := by decide +kernel
theorem d_138_104 : decode (mB 138) 104 = .ok (.return_, 1) := by decide +kernel
theorem d_139_0 : decode (mB 139) 0 = .ok (.iconst 0, 1) := by decide +kernel
theorem d_139_1 : decode (mB 139) 1 = .ok (.istore_n 2, 1) := by decide +kernel
theorem d_139_2 : decode (mB 139) 2 = .ok (.iload_n 2, 1) := by decide +kernel
theorem d_139_3 : decode (mB 139) 3 = .ok (.aload_n 0, 1) := by decide +kernel
theorem d_139_4 : decode (mB 139) 4 = .ok (.getfield 180, 3) := by decide +kernel
theorem d_139_7 : decode (mB 139) 7 = .ok (.if_icmp .ge 27, 3) := by decide +kernel
theorem d_139_10 : decode (mB 139) 10 = .ok (.aload_n 0, 1) := by decide +kernel
theorem d_139_11 : decode (mB 139) 11 = .ok (.getfield 38, 3) := by decide +kernel
theorem d_139_14 : decode (mB 139) 14 = .ok (.iload_n 2, 1) := by decide +kernel
theorem d_139_15 : decode (mB 139) 15 = .ok (.iaload, 1) := by decide +kernel
theorem d_139_16 : decode (mB 139) 16 = .ok (.iload_n 1, 1) := by decide +kernel
theorem d_139_17 : decode (mB 139) 17 = .ok (.if_icmp .ne 11, 3) := by decide +kernel
theorem d_139_20 : decode (mB 139) 20 = .ok (.aload_n 0, 1) := by decide +kernel
theorem d_139_21 : decode (mB 139) 21 = .ok (.getfield 38, 3) := by decide +kernel
theorem d_139_24 : decode (mB 139) 24 = .ok (.iload_n 2, 1) := by decide +kernel
theorem d_139_25 : decode (mB 139) 25 = .ok (.bipush 99, 2) := by decide +kernel
theorem d_139_27 : decode (mB 139) 27 = .ok (.iastore, 1) := by decide +kernel
theorem d_139_28 : decode (mB 139) 28 = .ok (.iinc 2 1, 3) := by decide +kernel
theorem d_139_31 : decode (mB 139) 31 = .ok (.goto (-29), 3) := by decide +kernel
theorem d_139_34 : decode (mB 139) 34 = .ok (.aload_n 0, 1) := by decide +kernel
theorem d_139_35 : decode (mB 139) 35 = .ok (.iload_n 1, 1) := by decide +kernel
theorem d_139_36 : decode (mB 139) 36 = .ok (.invokevirtual 281, 3) := by decide +kernel
theorem d_139_39 : decode (mB 139) 39 = .ok (.aload_n 0, 1) := by decide +kernel
theorem d_139_40 : decode (mB 139) 40 = .ok (.dup, 1) := by decide +kernel
theorem d_139_41 : decode (mB 139) 41 = .ok (.getfield 284, 3) := by decide +kernel
theorem d_139_44 : decode (mB 139) 44 = .ok (.iconst 1, 1) := by decide +kernel
theorem d_139_45 : decode (mB 139) 45 = .ok (.iadd, 1) := by decide +kernel
theorem d_139_46 : decode (mB 139) 46 = .ok (.putfield 284, 3) := by decide +kernel
theorem d_139_49 : decode (mB 139) 49 = .ok (.return_, 1) := by decide +kernel
theorem d_140_0 : decode (mB 140) 0 = .ok (.iconst 0, 1) := by decide +kernel
theorem d_140_1 : decode (mB 140) 1 = .ok (.istore_n 2, 1) := by decide +kernel
theorem d_140_2 : decode (mB 140) 2 = .ok (.iload_n 2, 1) := by decide +kernel
theorem d_140_3 : decode (mB 140) 3 = .ok (.aload_n 0, 1) := by decide +kernel
theorem d_140_4 : decode (mB 140) 4 = .ok (.getfield 83, 3) := by decide +kernel
theorem d_140_7 : decode (mB 140) 7 = .ok (.iload_n 1, 1) := by decide +kernel
theorem d_140_8 : decode (mB 140) 8 = .ok (.iaload, 1) := by decide +kernel
theorem d_140_9 : decode (mB 140) 9 = .ok (.if_icmp .ge 23, 3) := by decide +kernel
theorem d_140_12 : decode (mB 140) 12 = .ok (.aload_n 0, 1) := by decide +kernel
theorem d_140_13 : decode (mB 140) 13 = .ok (.getfield 98, 3) := by decide +kernel
theorem d_140_16 : decode (mB 140) 16 = .ok (.bipush 40, 2) := by decide +kernel
theorem d_140_18 : decode (mB 140) 18 = .ok (.iload_n 1, 1) := by decide +kernel
theorem d_140_19 : decode (mB 140) 19 = .ok (.imul, 1) := by decide +kernel
theorem d_140_20 : decode (mB 140) 20 = .ok (.iload_n 2, 1) := by decide +kernel
theorem d_140_21 : decode (mB 140) 21 = .ok (.iadd, 1) := by decide +kernel
theorem d_140_22 : decode (mB 140) 22 = .ok (.baload, 1) := by decide +kernel
theorem d_140_23 : decode (mB 140) 23 = .ok (.ifCond .eq 9, 3) := by decide +kernel
theorem d_140_26 : decode (mB 140) 26 = .ok (.iinc 2 1, 3) := by decide +kernel
theorem d_140_29 : decode (mB 140) 29 = .ok (.goto (-27), 3) := by decide +kernel
theorem d_140_32 : decode (mB 140) 32 = .ok (.iload_n 2, 1) := by decide +kernel
theorem d_140_33 : decode (mB 140) 33 = .ok (.iconst 1, 1) := by decide +kernel
theorem d_140_34 : decode (mB 140) 34 = .ok (.iadd, 1) := by decide +kernel
theorem d_140_35 : decode (mB 140) 35 = .ok (.ireturn, 1) := by decide +kernel
theorem d_141_0 : decode (mB 141) 0 = .ok (.iconst 0, 1) := by decide +kernel
theorem d_141_1 : decode (mB 141) 1 = .ok (.istore_n 1, 1) := by decide +kernel
theorem d_141_2 : decode (mB 141) 2 = .ok (.iload_n 1, 1) := by decide +kernel
theorem d_141_3 : decode (mB 141) 3 = .ok (.bipush 40, 2) := by decide +kernel
theorem d_141_5 : decode (mB 141) 5 = .ok (.if_icmp .ge 19, 3) := by decide +kernel
theorem d_141_8 : decode (mB 141) 8 = .ok (.aload_n 0, 1) := by decide +kernel
theorem d_141_9 : decode (mB 141) 9 = .ok (.getfield 110, 3) := by decide +kernel
theorem d_141_12 : decode (mB 141) 12 = .ok (.iload_n 1, 1) := by decide +kernel
theorem d_141_13 : decode (mB 141) 13 = .ok (.iaload, 1) := by decide +kernel
theorem d_141_14 : decode (mB 141) 14 = .ok (.iconst (-1), 1) := by decide +kernel
theorem d_141_15 : decode (mB 141) 15 = .ok (.if_icmp .eq 9, 3) := by decide +kernel
theorem d_141_18 : decode (mB 141) 18 = .ok (.iinc 1 1, 3) := by decide +kernel
theorem d_141_21 : decode (mB 141) 21 = .ok (.goto (-19), 3) := by decide +kernel
theorem d_141_24 : decode (mB 141) 24 = .ok (.iload_n 1, 1) := by decide +kernel
theorem d_141_25 : decode (mB 141) 25 = .ok (.bipush 40, 2) := by decide +kernel
theorem d_141_27 : decode (mB 141) 27 = .ok (.if_icmp .ge 7, 3) := by decide +kernel
theorem d_141_30 : decode (mB 141) 30 = .ok (.iload_n 1, 1) := by decide +kernel
theorem d_141_31 : decode (mB 141) 31 = .ok (.goto 4, 3) := by decide +kernel
theorem d_141_34 : decode (mB 141) 34 = .ok (.iconst (-1), 1) := by decide +kernel
theorem d_141_35 : decode (mB 141) 35 = .ok (.ireturn, 1) := by decide +kernel
theorem d_142_0 : decode (mB 142) 0 = .ok (.aload_n 0, 1) := by decide +kernel
theorem d_142_1 : decode (mB 142) 1 = .ok (.getfield 110, 3) := by decide +kernel
theorem d_142_4 : decode (mB 142) 4 = .ok (.iload_n 1, 1) := by decide +kernel
theorem d_142_5 : decode (mB 142) 5 = .ok (.iconst 0, 1) := by decide +kernel
theorem d_142_6 : decode (mB 142) 6 = .ok (.iastore, 1) := by decide +kernel
theorem d_142_7 : decode (mB 142) 7 = .ok (.aload_n 0, 1) := by decide +kernel
theorem d_142_8 : decode (mB 142) 8 = .ok (.getfield 113, 3) := by decide +kernel
theorem d_142_11 : decode (mB 142) 11 = .ok (.iload_n 1, 1) := by decide +kernel
theorem d_142_12 : decode (mB 142) 12 = .ok (.iload_n 2, 1) := by decide +kernel
theorem d_142_13 : decode (mB 142) 13 = .ok (.iastore, 1) := by decide +kernel
theorem d_142_14 : decode (mB 142) 14 = .ok (.aload_n 0, 1) := by decide +kernel
theorem d_142_15 : decode (mB 142) 15 = .ok (.getfield 116, 3) := by decide +kernel
theorem d_142_18 : decode (mB 142) 18 = .ok (.iload_n 1, 1) := by decide +kernel
theorem d_142_19 : decode (mB 142) 19 = .ok (.iload_n 3, 1) := by decide +kernel
theorem d_142_20 : decode (mB 142) 20 = .ok (.iastore, 1) := by decide +kernel
theorem d_142_21 : decode (mB 142) 21 = .ok (.aload_n 0, 1) := by decide +kernel
theorem d_142_22 : decode (mB 142) 22 = .ok (.getfield 119, 3) := by decide +kernel
theorem d_142_25 : decode (mB 142) 25 = .ok (.iload_n 1, 1) := by decide +kernel
theorem d_142_26 : decode (mB 142) 26 = .ok (.aload_n 0, 1) := by decide +kernel
theorem d_142_27 : decode (mB 142) 27 = .ok (.getfield 35, 3) := by decide +kernel
theorem d_142_30 : decode (mB 142) 30 = .ok (.aload_n 0, 1) := by decide +kernel
theorem d_142_31 : decode (mB 142) 31 = .ok (.getfield 89, 3) := by decide +kernel
theorem d_142_34 : decode (mB 142) 34 = .ok (.bipush 40, 2) := by decide +kernel
theorem d_142_36 : decode (mB 142) 36 = .ok (.iload_n 2, 1) := by decide +kernel
theorem d_142_37 : decode (mB 142) 37 = .ok (.imul, 1) := by decide +kernel
theorem d_142_38 : decode (mB 142) 38 = .ok (.iload_n 3, 1) := by decide +kernel
theorem d_142_39 : decode (mB 142) 39 = .ok (.iadd, 1) := by decide +kernel
theorem d_142_40 : decode (mB 142) 40 = .ok (.iconst 1, 1) := by decide +kernel
theorem d_142_41 : decode (mB 142) 41 = .ok (.isub, 1) := by decide +kernel
theorem d_142_42 : decode (mB 142) 42 = .ok (.iaload, 1) := by decide +kernel
theorem d_142_43 : decode (mB 142) 43 = .ok (.bipush 8, 2) := by decide +kernel
theorem d_142_45 : decode (mB 142) 45 = .ok (.idiv, 1) := by decide +kernel
theorem d_142_46 : decode (mB 142) 46 = .ok (.iaload, 1) := by decide +kernel
theorem d_142_47 : decode (mB 142) 47 = .ok (.iastore, 1) := by decide +kernel
theorem d_142_48 : decode (mB 142) 48 = .ok (.aload_n 0, 1) := by decide +kernel
theorem d_142_49 : decode (mB 142) 49 = .ok (.getfield 122, 3) := by decide +kernel
theorem d_142_52 : decode (mB 142) 52 = .ok (.iload_n 1, 1) := by decide +kernel
theorem d_142_53 : decode (mB 142) 53 = .ok (.aload_n 0, 1) := by decide +kernel
theorem d_142_54 : decode (mB 142) 54 = .ok (.iload_n 2, 1) := by decide +kernel
theorem d_142_55 : decode (mB 142) 55 = .ok (.invokevirtual 287, 3) := by decide +kernel
theorem d_142_58 : decode (mB 142) 58 = .ok (.iastore, 1) := by decide +kernel
theorem d_142_59 : decode (mB 142) 59 = .ok (.return_, 1) := by decide +kernel
theorem d_143_0 : decode (mB 143) 0 = .ok (.aload_n 0, 1) := by decide +kernel
theorem d_143_1 : decode (mB 143) 1 = .ok (.iconst 0, 1) := by decide +kernel
theorem d_143_2 : decode (mB 143) 2 = .ok (.putfield 157, 3) := by decide +kernel
theorem d_143_5 : decode (mB 143) 5 = .ok (.iload_n 1, 1) := by decide +kernel
theorem d_143_6 : decode (mB 143) 6 = .ok (.iconst 0, 1) := by decide +kernel
theorem d_143_7 : decode (mB 143) 7 = .ok (.iconst 5, 1) := by decide +kernel
theorem d_143_8 : decode (mB 143) 8 = .ok (.invokestatic 160, 3) := by decide +kernel
theorem d_143_11 : decode (mB 143) 11 = .ok (.ifCond .eq 33, 3) := by decide +kernel
theorem d_143_14 : decode (mB 143) 14 = .ok (.iload_n 2, 1) := by decide +kernel
theorem d_143_15 : decode (mB 143) 15 = .ok (.iconst 0, 1) := by decide +kernel
theorem d_143_16 : decode (mB 143) 16 = .ok (.iconst 3, 1) := by decide +kernel
theorem d_143_17 : decode (mB 143) 17 = .ok (.invokestatic 160, 3) := by decide +kernel
theorem d_143_20 : decode (mB 143) 20 = .ok (.ifCond .eq 24, 3) := by decide +kernel
theorem d_143_23 : decode (mB 143) 23 = .ok (.iload_n 3, 1) := by decide +kernel
theorem d_143_24 : decode (mB 143) 24 = .ok (.iconst 0, 1) := by decide +kernel
theorem d_143_25 : decode (mB 143) 25 = .ok (.bipush 63, 2) := by decide +kernel
theorem d_143_27 : decode (mB 143) 27 = .ok (.invokestatic 160, 3) := by decide +kernel
theorem d_143_30 : decode (mB 143) 30 = .ok (.ifCond .eq 14, 3) := by decide +kernel
theorem d_143_33 : decode (mB 143) 33 = .ok (.aload_n 0, 1) := by decide +kernel
theorem d_143_34 : decode (mB 143) 34 = .ok (.getfield 83, 3) := by decide +kernel
theorem d_143_37 : decode (mB 143) 37 = .ok (.iload_n 1, 1) := by decide +kernel
theorem d_143_38 : decode (mB 143) 38 = .ok (.iaload, 1) := by decide +kernel
theorem d_143_39 : decode (mB 143) 39 = .ok (.bipush 40, 2) := by decide +kernel
theorem d_143_41 : decode (mB 143) 41 = .ok (.if_icmp .ne 5, 3) := by decide +kernel
theorem d_143_44 : decode (mB 143) 44 = .ok (.iconst (-1), 1) := by decide +kernel
theorem d_143_45 : decode (mB 143) 45 = .ok (.ireturn, 1) := by decide +kernel
theorem d_143_46 : decode (mB 143) 46 = .ok (.aload_n 0, 1) := by decide +kernel
theorem d_143_47 : decode (mB 143) 47 = .ok (.getfield 35, 3) := by decide +kernel
theorem d_143_50 : decode (mB 143) 50 = .ok (.iload_n 3, 1) := by decide +kernel
theorem d_143_51 : decode (mB 143) 51 = .ok (.bipush 8, 2) := by decide +kernel
theorem d_143_53 : decode (mB 143) 53 = .ok (.idiv, 1) := by decide +kernel
theorem d_143_54 : decode (mB 143) 54 = .ok (.iaload, 1) := by decide +kernel
theorem d_143_55 : decode (mB 143) 55 = .ok (.iconst (-1), 1) := by decide +kernel
theorem d_143_56 : decode (mB 143) 56 = .ok (.if_icmp .ne 6, 3) := by decide +kernel
theorem d_143_59 : decode (mB 143) 59 = .ok (.bipush (-2), 2) := by decide +kernel
theorem d_143_61 : decode (mB 143) 61 = .ok (.ireturn, 1) := by decide +kernel
theorem d_143_62 : decode (mB 143) 62 = .ok (.aload_n 0, 1) := by decide +kernel
theorem d_143_63 : decode (mB 143) 63 = .ok (.invokevirtual 290, 3) := by decide +kernel
theorem d_143_66 : decode (mB 143) 66 = .ok (.istore 6, 2) := by decide +kernel
theorem d_143_68 : decode (mB 143) 68 = .ok (.iload 6, 2) := by decide +kernel
theorem d_143_70 : decode (mB 143) 70 = .ok (.iconst (-1), 1) := by decide +kernel
theorem d_143_71 : decode (mB 143) 71 = .ok (.if_icmp .ne 6, 3) := by decide +kernel
theorem d_143_74 : decode (mB 143) 74 = .ok (.bipush (-3), 2) := by decide +kernel
theorem d_143_76 : decode (mB 143) 76 = .ok (.ireturn, 1) := by decide +kernel
theorem d_143_77 : decode (mB 143) 77 = .ok (.bipush 40, 2) := by decide +kernel
theorem d_143_79 : decode (mB 143) 79 = .ok (.iload_n 1, 1) := by decide +kernel
theorem d_143_80 : decode (mB 143) 80 = .ok (.imul, 1) := by decide +kernel
theorem d_143_81 : decode (mB 143) 81 = .ok (.aload_n 0, 1) := by decide +kernel
theorem d_143_82 : decode (mB 143) 82 = .ok (.getfield 83, 3) := by decide +kernel
theorem d_143_85 : decode (mB 143) 85 = .ok (.iload_n 1, 1) := by decide +kernel
theorem d_143_86 : decode (mB 143) 86 = .ok (.iaload, 1) := by decide +kernel
theorem d_143_87 : decode (mB 143) 87 = .ok (.iadd, 1) := by decide +kernel
theorem d_143_88 : decode (mB 143) 88 = .ok (.istore 7, 2) := by decide +kernel
theorem d_143_90 : decode (mB 143) 90 = .ok (.aload_n 0, 1) := by decide +kernel
theorem d_143_91 : decode (mB 143) 91 = .ok (.getfield 86, 3) := by decide +kernel
theorem d_143_94 : decode (mB 143) 94 = .ok (.iload 7, 2) := by decide +kernel
theorem d_143_96 : decode (mB 143) 96 = .ok (.iload_n 2, 1) := by decide +kernel
theorem d_143_97 : decode (mB 143) 97 = .ok (.iastore, 1) := by decide +kernel
theorem d_143_98 : decode (mB 143) 98 = .ok (.aload_n 0, 1) := by decide +kernel
theorem d_143_99 : decode (mB 143) 99 = .ok (.getfield 89, 3) := by decide +kernel
theorem d_143_102 : decode (mB 143) 102 = .ok (.iload 7, 2) := by decide +kernel
theorem d_143_104 : decode (mB 143) 104 = .ok (.iload_n 3, 1) := by decide +kernel
theorem d_143_105 : decode (mB 143) 105 = .ok (.iastore, 1) := by decide +kernel
theorem d_143_106 : decode (mB 143) 106 = .ok (.aload_n 0, 1) := by decide +kernel
theorem d_143_107 : decode (mB 143) 107 = .ok (.getfield 92, 3) := by decide +kernel
theorem d_143_110 : decode (mB 143) 110 = .ok (.iload 7, 2) := by decide +kernel
theorem d_143_112 : decode (mB 143) 112 = .ok (.iload 4, 2) := by decide +kernel
theorem d_143_114 : decode (mB 143) 114 = .ok (.iastore, 1) := by decide +kernel
theorem d_143_115 : decode (mB 143) 115 = .ok (.aload_n 0, 1) := by decide +kernel
theorem d_143_116 : decode (mB 143) 116 = .ok (.getfield 95, 3) := by decide +kernel
theorem d_143_119 : decode (mB 143) 119 = .ok (.iload 7, 2) := by decide +kernel
theorem d_143_121 : decode (mB 143) 121 = .ok (.iload 5, 2) := by decide +kernel
theorem d_143_123 : decode (mB 143) 123 = .ok (.iastore, 1) := by decide +kernel
theorem d_143_124 : decode (mB 143) 124 = .ok (.aload_n 0, 1) := by decide +kernel
theorem d_143_125 : decode (mB 143) 125 = .ok (.getfield 83, 3) := by decide +kernel
theorem d_143_128 : decode (mB 143) 128 = .ok (.iload_n 1, 1) := by decide +kernel
theorem d_143_129 : decode (mB 143) 129 = .ok (.dup2, 1) := by decide +kernel
theorem d_143_130 : decode (mB 143) 130 = .ok (.iaload, 1) := by decide +kernel
theorem d_143_131 : decode (mB 143) 131 = .ok (.iconst 1, 1) := by decide +kernel
theorem d_143_132 : decode (mB 143) 132 = .ok (.iadd, 1) := by decide +kernel
theorem d_143_133 : decode (mB 143) 133 = .ok (.iastore, 1) := by decide +kernel
theorem d_143_134 : decode (mB 143) 134 = .ok (.aload_n 0, 1) := by decide +kernel
theorem d_143_135 : decode (mB 143) 135 = .ok (.iload 6, 2) := by decide +kernel
theorem d_143_137 : decode (mB 143) 137 = .ok (.iload_n 1, 1) := by decide +kernel
theorem d_143_138 : decode (mB 143) 138 = .ok (.aload_n 0, 1) := by decide +kernel
theorem d_143_139 : decode (mB 143) 139 = .ok (.getfield 83, 3) := by decide +kernel
theorem d_143_142 : decode (mB 143) 142 = .ok (.iload_n 1, 1) := by decide +kernel
theorem d_143_143 : decode (mB 143) 143 = .ok (.iaload, 1) := by decide +kernel
theorem d_143_144 : decode (mB 143) 144 = .ok (.invokevirtual 293, 3) := by decide +kernel
theorem d_143_147 : decode (mB 143) 147 = .ok (.aload_n 0, 1) := by decide +kernel
theorem d_143_148 : decode (mB 143) 148 = .ok (.getfield 83, 3) := by decide +kernel
theorem d_143_151 : decode (mB 143) 151 = .ok (.iload_n 1, 1) := by decide +kernel
theorem d_143_152 : decode (mB 143) 152 = .ok (.iaload, 1) := by decide +kernel
theorem d_143_153 : decode (mB 143) 153 = .ok (.ireturn, 1) := by decide +kernel
theorem d_144_0 : decode (mB 144) 0 = .ok (.aload_n 0, 1) := by decide +kernel
theorem d_144_1 : decode (mB 144) 1 = .ok (.iconst 0, 1) := by decide +kernel
theorem d_144_2 : decode (mB 144) 2 = .ok (.putfield 157, 3) := by decide +kernel
theorem d_144_5 : decode (mB 144) 5 = .ok (.iload_n 1, 1) := by decide +kernel
theorem d_144_6 : decode (mB 144) 6 = .ok (.iconst 0, 1) := by decide +kernel
theorem d_144_7 : decode (mB 144) 7 = .ok (.iconst 5, 1) := by decide +kernel
theorem d_144_8 : decode (mB 144) 8 = .ok (.invokestatic 160, 3) := by decide +kernel
theorem d_144_11 : decode (mB 144) 11 = .ok (.ifCond .eq 17, 3) := by decide +kernel
theorem d_144_14 : decode (mB 144) 14 = .ok (.iload_n 2, 1) := by decide +kernel
theorem d_144_15 : decode (mB 144) 15 = .ok (.iconst 1, 1) := by decide +kernel
theorem d_144_16 : decode (mB 144) 16 = .ok (.aload_n 0, 1) := by decide +kernel
theorem d_144_17 : decode (mB 144) 17 = .ok (.getfield 83, 3) := by decide +kernel
theorem d_144_20 : decode (mB 144) 20 = .ok (.iload_n 1, 1) := by decide +kernel
theorem d_144_21 : decode (mB 144) 21 = .ok (.iaload, 1) := by decide +kernel
theorem d_144_22 : decode (mB 144) 22 = .ok (.invokestatic 160, 3) := by decide +kernel
theorem d_144_25 : decode (mB 144) 25 = .ok (.ifCond .ne 5, 3) := by decide +kernel
theorem d_144_28 : decode (mB 144) 28 = .ok (.iconst (-1), 1) := by decide +kernel
theorem d_144_29 : decode (mB 144) 29 = .ok (.ireturn, 1) := by decide +kernel
theorem d_144_30 : decode (mB 144) 30 = .ok (.aload_n 0, 1) := by decide +kernel
theorem d_144_31 : decode (mB 144) 31 = .ok (.getfield 35, 3) := by decide +kernel
theorem d_144_34 : decode (mB 144) 34 = .ok (.aload_n 0, 1) := by decide +kernel
theorem d_144_35 : decode (mB 144) 35 = .ok (.getfield 89, 3) := by decide +kernel
theorem d_144_38 : decode (mB 144) 38 = .ok (.bipush 40, 2) := by decide +kernel
theorem d_144_40 : decode (mB 144) 40 = .ok (.iload_n 1, 1) := by decide +kernel
theorem d_144_41 : decode (mB 144) 41 = .ok (.imul, 1) := by decide +kernel
theorem d_144_42 : decode (mB 144) 42 = .ok (.iload_n 2, 1) := by decide +kernel
theorem d_144_43 : decode (mB 144) 43 = .ok (.iadd, 1) := by decide +kernel
theorem d_144_44 : decode (mB 144) 44 = .ok (.iconst 1, 1) := by decide +kernel
theorem d_144_45 : decode (mB 144) 45 = .ok (.isub, 1) := by decide +kernel
theorem d_144_46 : decode (mB 144) 46 = .ok (.iaload, 1) := by decide +kernel
theorem d_144_47 : decode (mB 144) 47 = .ok (.bipush 8, 2) := by decide +kernel
theorem d_144_49 : decode (mB 144) 49 = .ok (.idiv, 1) := by decide +kernel
theorem d_144_50 : decode (mB 144) 50 = .ok (.iaload, 1) := by decide +kernel
theorem d_144_51 : decode (mB 144) 51 = .ok (.iconst (-1), 1) := by decide +kernel
theorem d_144_52 : decode (mB 144) 52 = .ok (.if_icmp .ne 6, 3) := by decide +kernel
theorem d_144_55 : decode (mB 144) 55 = .ok (.bipush (-2), 2) := by decide +kernel
theorem d_144_57 : decode (mB 144) 57 = .ok (.ireturn, 1) := by decide +kernel
theorem d_144_58 : decode (mB 144) 58 = .ok (.aload_n 0, 1) := by decide +kernel
theorem d_144_59 : decode (mB 144) 59 = .ok (.invokevirtual 290, 3) := by decide +kernel
theorem d_144_62 : decode (mB 144) 62 = .ok (.istore_n 3, 1) := by decide +kernel
theorem d_144_63 : decode (mB 144) 63 = .ok (.iload_n 3, 1) := by decide +kernel
theorem d_144_64 : decode (mB 144) 64 = .ok (.iconst (-1), 1) := by decide +kernel
theorem d_144_65 : decode (mB 144) 65 = .ok (.if_icmp .ne 6, 3) := by decide +kernel
theorem d_144_68 : decode (mB 144) 68 = .ok (.bipush (-3), 2) := by decide +kernel
theorem d_144_70 : decode (mB 144) 70 = .ok (.ireturn, 1) := by decide +kernel
theorem d_144_71 : decode (mB 144) 71 = .ok (.aload_n 0, 1) := by decide +kernel
theorem d_144_72 : decode (mB 144) 72 = .ok (.iload_n 3, 1) := by decide +kernel
theorem d_144_73 : decode (mB 144) 73 = .ok (.iload_n 1, 1) := by decide +kernel
theorem d_144_74 : decode (mB 144) 74 = .ok (.iload_n 2, 1) := by decide +kernel
theorem d_144_75 : decode (mB 144) 75 = .ok (.invokevirtual 293, 3) := by decide +kernel
theorem d_144_78 : decode (mB 144) 78 = .ok (.iload_n 3, 1) := by decide +kernel
theorem d_144_79 : decode (mB 144) 79 = .ok (.ireturn, 1) := by decide +kernel
theorem d_145_0 : decode (mB 145) 0 = .ok (.aload_n 0, 1) := by decide +kernel
theorem d_145_1 : decode (mB 145) 1 = .ok (.getfield 110, 3) := by decide +kernel
theorem d_145_4 : decode (mB 145) 4 = .ok (.iload_n 1, 1) := by decide +kernel
theorem d_145_5 : decode (mB 145) 5 = .ok (.iconst 1, 1) := by decide +kernel
theorem d_145_6 : decode (mB 145) 6 = .ok (.iastore, 1) := by decide +kernel
theorem d_145_7 : decode (mB 145) 7 = .ok (.aload_n 0, 1) := by decide +kernel
theorem d_145_8 : decode (mB 145) 8 = .ok (.getfield 125, 3) := by decide +kernel
theorem d_145_11 : decode (mB 145) 11 = .ok (.iload_n 1, 1) := by decide +kernel
theorem d_145_12 : decode (mB 145) 12 = .ok (.iload_n 2, 1) := by decide +kernel
theorem d_145_13 : decode (mB 145) 13 = .ok (.iastore, 1) := by decide +kernel
theorem d_145_14 : decode (mB 145) 14 = .ok (.aload_n 0, 1) := by decide +kernel
theorem d_145_15 : decode (mB 145) 15 = .ok (.getfield 128, 3) := by decide +kernel
theorem d_145_18 : decode (mB 145) 18 = .ok (.iload_n 1, 1) := by decide +kernel
theorem d_145_19 : decode (mB 145) 19 = .ok (.iload_n 3, 1) := by decide +kernel
theorem d_145_20 : decode (mB 145) 20 = .ok (.iastore, 1) := by decide +kernel
theorem d_145_21 : decode (mB 145) 21 = .ok (.aload_n 0, 1) := by decide +kernel
theorem d_145_22 : decode (mB 145) 22 = .ok (.getfield 131, 3) := by decide +kernel
theorem d_145_25 : decode (mB 145) 25 = .ok (.iload_n 1, 1) := by decide +kernel
theorem d_145_26 : decode (mB 145) 26 = .ok (.iload 4, 2) := by decide +kernel
theorem d_145_28 : decode (mB 145) 28 = .ok (.iastore, 1) := by decide +kernel
theorem d_145_29 : decode (mB 145) 29 = .ok (.iconst 0, 1) := by decide +kernel
theorem d_145_30 : decode (mB 145) 30 = .ok (.ireturn, 1) := by decide +kernel
theorem d_146_0 : decode (mB 146) 0 = .ok (.aload_n 0, 1) := by decide +kernel
theorem d_146_1 : decode (mB 146) 1 = .ok (.iload_n 2, 1) := by decide +kernel
theorem d_146_2 : decode (mB 146) 2 = .ok (.invokevirtual 258, 3) := by decide +kernel
theorem d_146_5 : decode (mB 146) 5 = .ok (.ifCond .ne 21, 3) := by decide +kernel
theorem d_146_8 : decode (mB 146) 8 = .ok (.aload_n 0, 1) := by decide +kernel
theorem d_146_9 : decode (mB 146) 9 = .ok (.iload_n 2, 1) := by decide +kernel
theorem d_146_10 : decode (mB 146) 10 = .ok (.iconst 0, 1) := by decide +kernel
theorem d_146_11 : decode (mB 146) 11 = .ok (.invokevirtual 268, 3) := by decide +kernel
theorem d_146_14 : decode (mB 146) 14 = .ok (.ifCond .ne 12, 3) := by decide +kernel
theorem d_146_17 : decode (mB 146) 17 = .ok (.aload_n 0, 1) := by decide +kernel
theorem d_146_18 : decode (mB 146) 18 = .ok (.iload_n 1, 1) := by decide +kernel
theorem d_146_19 : decode (mB 146) 19 = .ok (.iconst 4, 1) := by decide +kernel
theorem d_146_20 : decode (mB 146) 20 = .ok (.iconst 0, 1) := by decide +kernel
theorem d_146_21 : decode (mB 146) 21 = .ok (.iconst 0, 1) := by decide +kernel
theorem d_146_22 : decode (mB 146) 22 = .ok (.invokevirtual 297, 3) := by decide +kernel
theorem d_146_25 : decode (mB 146) 25 = .ok (.ireturn, 1) := by decide +kernel
theorem d_146_26 : decode (mB 146) 26 = .ok (.aload_n 0, 1) := by decide +kernel
theorem d_146_27 : decode (mB 146) 27 = .ok (.iload_n 2, 1) := by decide +kernel
theorem d_146_28 : decode (mB 146) 28 = .ok (.iload_n 3, 1) := by decide +kernel
theorem d_146_29 : decode (mB 146) 29 = .ok (.invokevirtual 272, 3) := by decide +kernel
theorem d_146_32 : decode (mB 146) 32 = .ok (.istore 4, 2) := by decide +kernel
theorem d_146_34 : decode (mB 146) 34 = .ok (.iload 4, 2) := by decide +kernel
theorem d_146_36 : decode (mB 146) 36 = .ok (.iconst (-1), 1) := by decide +kernel
theorem d_146_37 : decode (mB 146) 37 = .ok (.if_icmp .ne 14, 3) := by decide +kernel
theorem d_146_40 : decode (mB 146) 40 = .ok (.aload_n 0, 1) := by decide +kernel
theorem d_146_41 : decode (mB 146) 41 = .ok (.iload_n 1, 1) := by decide +kernel
theorem d_146_42 : decode (mB 146) 42 = .ok (.iconst 1, 1) := by decide +kernel
theorem d_146_43 : decode (mB 146) 43 = .ok (.iconst 0, 1) := by decide +kernel
theorem d_146_44 : decode (mB 146) 44 = .ok (.iconst 0, 1) := by decide +kernel
theorem d_146_45 : decode (mB 146) 45 = .ok (.invokevirtual 297, 3) := by decide +kernel
theorem d_146_48 : decode (mB 146) 48 = .ok (.goto 28, 3) := by decide +kernel
theorem d_146_51 : decode (mB 146) 51 = .ok (.aload_n 0, 1) := by decide +kernel
theorem d_146_52 : decode (mB 146) 52 = .ok (.iload_n 1, 1) := by decide +kernel
theorem d_146_53 : decode (mB 146) 53 = .ok (.iconst 0, 1) := by decide +kernel
theorem d_146_54 : decode (mB 146) 54 = .ok (.aload_n 0, 1) := by decide +kernel
theorem d_146_55 : decode (mB 146) 55 = .ok (.getfield 51, 3) := by decide +kernel
theorem d_146_58 : decode (mB 146) 58 = .ok (.iload 4, 2) := by decide +kernel
theorem d_146_60 : decode (mB 146) 60 = .ok (.iconst 5, 1) := by decide +kernel
theorem d_146_61 : decode (mB 146) 61 = .ok (.iadd, 1) := by decide +kernel
theorem d_146_62 : decode (mB 146) 62 = .ok (.iaload, 1) := by decide +kernel
theorem d_146_63 : decode (mB 146) 63 = .ok (.aload_n 0, 1) := by decide +kernel
theorem d_146_64 : decode (mB 146) 64 = .ok (.getfield 51, 3) := by decide +kernel
theorem d_146_67 : decode (mB 146) 67 = .ok (.iload 4, 2) := by decide +kernel
theorem d_146_69 : decode (mB 146) 69 = .ok (.bipush 6, 2) := by decide +kernel
theorem d_146_71 : decode (mB 146) 71 = .ok (.iadd, 1) := by decide +kernel
theorem d_146_72 : decode (mB 146) 72 = .ok (.iaload, 1) := by decide +kernel
theorem d_146_73 : decode (mB 146) 73 = .ok (.invokevirtual 297, 3) := by decide +kernel
theorem d_146_76 : decode (mB 146) 76 = .ok (.ireturn, 1) := by decide +kernel
theorem d_147_0 : decode (mB 147) 0 = .ok (.bipush 9, 2) := by decide +kernel
theorem d_147_2 : decode (mB 147) 2 = .ok (.iload_n 1, 1) := by decide +kernel
theorem d_147_3 : decode (mB 147) 3 = .ok (.imul, 1) := by decide +kernel
theorem d_147_4 : decode (mB 147) 4 = .ok (.istore 9, 2) := by decide +kernel
theorem d_147_6 : decode (mB 147) 6 = .ok (.aload_n 0, 1) := by decide +kernel
theorem d_147_7 : decode (mB 147) 7 = .ok (.getfield 64, 3) := by decide +kernel
theorem d_147_10 : decode (mB 147) 10 = .ok (.iload 9, 2) := by decide +kernel
theorem d_147_12 : decode (mB 147) 12 = .ok (.iconst 0, 1) := by decide +kernel
theorem d_147_13 : decode (mB 147) 13 = .ok (.iadd, 1) := by decide +kernel
theorem d_147_14 : decode (mB 147) 14 = .ok (.iconst 5, 1) := by decide +kernel
theorem d_147_15 : decode (mB 147) 15 = .ok (.iastore, 1) := by decide +kernel
theorem d_147_16 : decode (mB 147) 16 = .ok (.aload_n 0, 1) := by decide +kernel
theorem d_147_17 : decode (mB 147) 17 = .ok (.getfield 64, 3) := by decide +kernel
theorem d_147_20 : decode (mB 147) 20 = .ok (.iload 9, 2) := by decide +kernel
theorem d_147_22 : decode (mB 147) 22 = .ok (.iconst 1, 1) := by decide +kernel
theorem d_147_23 : decode (mB 147) 23 = .ok (.iadd, 1) := by decide +kernel
theorem d_147_24 : decode (mB 147) 24 = .ok (.iload_n 2, 1) := by decide +kernel
theorem d_147_25 : decode (mB 147) 25 = .ok (.iastore, 1) := by decide +kernel
theorem d_147_26 : decode (mB 147) 26 = .ok (.aload_n 0, 1) := by decide +kernel
theorem d_147_27 : decode (mB 147) 27 = .ok (.getfield 64, 3) := by decide +kernel
theorem d_147_30 : decode (mB 147) 30 = .ok (.iload 9, 2) := by decide +kernel
theorem d_147_32 : decode (mB 147) 32 = .ok (.iconst 2, 1) := by decide +kernel
theorem d_147_33 : decode (mB 147) 33 = .ok (.iadd, 1) := by decide +kernel
theorem d_147_34 : decode (mB 147) 34 = .ok (.iload_n 3, 1) := by decide +kernel
theorem d_147_35 : decode (mB 147) 35 = .ok (.iastore, 1) := by decide +kernel
theorem d_147_36 : decode (mB 147) 36 = .ok (.aload_n 0, 1) := by decide +kernel
theorem d_147_37 : decode (mB 147) 37 = .ok (.getfield 64, 3) := by decide +kernel
theorem d_147_40 : decode (mB 147) 40 = .ok (.iload 9, 2) := by decide +kernel
theorem d_147_42 : decode (mB 147) 42 = .ok (.iconst 3, 1) := by decide +kernel
theorem d_147_43 : decode (mB 147) 43 = .ok (.iadd, 1) := by decide +kernel
theorem d_147_44 : decode (mB 147) 44 = .ok (.iload 4, 2) := by decide +kernel
theorem d_147_46 : decode (mB 147) 46 = .ok (.iastore, 1) := by decide +kernel
theorem d_147_47 : decode (mB 147) 47 = .ok (.aload_n 0, 1) := by decide +kernel
theorem d_147_48 : decode (mB 147) 48 = .ok (.getfield 64, 3) := by decide +kernel
theorem d_147_51 : decode (mB 147) 51 = .ok (.iload 9, 2) := by decide +kernel
theorem d_147_53 : decode (mB 147) 53 = .ok (.iconst 4, 1) := by decide +kernel
theorem d_147_54 : decode (mB 147) 54 = .ok (.iadd, 1) := by decide +kernel
theorem d_147_55 : decode (mB 147) 55 = .ok (.iload 5, 2) := by decide +kernel
theorem d_147_57 : decode (mB 147) 57 = .ok (.iastore, 1) := by decide +kernel
theorem d_147_58 : decode (mB 147) 58 = .ok (.aload_n 0, 1) := by decide +kernel
theorem d_147_59 : decode (mB 147) 59 = .ok (.getfield 64, 3) := by decide +kernel
theorem d_147_62 : decode (mB 147) 62 = .ok (.iload 9, 2) := by decide +kernel
theorem d_147_64 : decode (mB 147) 64 = .ok (.iconst 5, 1) := by decide +kernel
theorem d_147_65 : decode (mB 147) 65 = .ok (.iadd, 1) := by decide +kernel
theorem d_147_66 : decode (mB 147) 66 = .ok (.iload 6, 2) := by decide +kernel
theorem d_147_68 : decode (mB 147) 68 = .ok (.iastore, 1) := by decide +kernel
theorem d_147_69 : decode (mB 147) 69 = .ok (.aload_n 0, 1) := by decide +kernel
theorem d_147_70 : decode (mB 147) 70 = .ok (.getfield 64, 3) := by decide +kernel
theorem d_147_73 : decode (mB 147) 73 = .ok (.iload 9, 2) := by decide +kernel
theorem d_147_75 : decode (mB 147) 75 = .ok (.bipush 6, 2) := by decide +kernel
theorem d_147_77 : decode (mB 147) 77 = .ok (.iadd, 1) := by decide +kernel
theorem d_147_78 : decode (mB 147) 78 = .ok (.iload 7, 2) := by decide +kernel
theorem d_147_80 : decode (mB 147) 80 = .ok (.iastore, 1) := by decide +kernel
theorem d_147_81 : decode (mB 147) 81 = .ok (.aload_n 0, 1) := by decide +kernel
theorem d_147_82 : decode (mB 147) 82 = .ok (.getfield 64, 3) := by decide +kernel
theorem d_147_85 : decode (mB 147) 85 = .ok (.iload 9, 2) := by decide +kernel
theorem d_147_87 : decode (mB 147) 87 = .ok (.bipush 7, 2) := by decide +kernel
theorem d_147_89 : decode (mB 147) 89 = .ok (.iadd, 1) := by decide +kernel
theorem d_147_90 : decode (mB 147) 90 = .ok (.iload 8, 2) := by decide +kernel
theorem d_147_92 : decode (mB 147) 92 = .ok (.iastore, 1) := by decide +kernel
theorem d_147_93 : decode (mB 147) 93 = .ok (.return_, 1) := by decide +kernel
theorem d_148_0 : decode (mB 148) 0 = .ok (.aload_n 0, 1) := by decide +kernel
theorem d_148_1 : decode (mB 148) 1 = .ok (.getfield 113, 3) := by decide +kernel
theorem d_148_4 : decode (mB 148) 4 = .ok (.iload_n 1, 1) := by decide +kernel
theorem d_148_5 : decode (mB 148) 5 = .ok (.iaload, 1) := by decide +kernel
theorem d_148_6 : decode (mB 148) 6 = .ok (.istore 5, 2) := by decide +kernel
theorem d_148_8 : decode (mB 148) 8 = .ok (.aload_n 0, 1) := by decide +kernel
theorem d_148_9 : decode (mB 148) 9 = .ok (.getfield 116, 3) := by decide +kernel
theorem d_148_12 : decode (mB 148) 12 = .ok (.iload_n 1, 1) := by decide +kernel
theorem d_148_13 : decode (mB 148) 13 = .ok (.iaload, 1) := by decide +kernel
theorem d_148_14 : decode (mB 148) 14 = .ok (.istore 6, 2) := by decide +kernel
theorem d_148_16 : decode (mB 148) 16 = .ok (.aload_n 0, 1) := by decide +kernel
theorem d_148_17 : decode (mB 148) 17 = .ok (.iload_n 2, 1) := by decide +kernel
theorem d_148_18 : decode (mB 148) 18 = .ok (.iload 5, 2) := by decide +kernel
theorem d_148_20 : decode (mB 148) 20 = .ok (.invokevirtual 205, 3) := by decide +kernel
theorem d_148_23 : decode (mB 148) 23 = .ok (.aload_n 0, 1) := by decide +kernel
theorem d_148_24 : decode (mB 148) 24 = .ok (.getfield 122, 3) := by decide +kernel
theorem d_148_27 : decode (mB 148) 27 = .ok (.iload_n 1, 1) := by decide +kernel
theorem d_148_28 : decode (mB 148) 28 = .ok (.iaload, 1) := by decide +kernel
theorem d_148_29 : decode (mB 148) 29 = .ok (.invokestatic 300, 3) := by decide +kernel
theorem d_148_32 : decode (mB 148) 32 = .ok (.istore 7, 2) := by decide +kernel
theorem d_148_34 : decode (mB 148) 34 = .ok (.iload 6, 2) := by decide +kernel
theorem d_148_36 : decode (mB 148) 36 = .ok (.iload 7, 2) := by decide +kernel
theorem d_148_38 : decode (mB 148) 38 = .ok (.if_icmp .ge 12, 3) := by decide +kernel
theorem d_148_41 : decode (mB 148) 41 = .ok (.aload_n 0, 1) := by decide +kernel
theorem d_148_42 : decode (mB 148) 42 = .ok (.iload_n 1, 1) := by decide +kernel
theorem d_148_43 : decode (mB 148) 43 = .ok (.iconst 5, 1) := by decide +kernel
theorem d_148_44 : decode (mB 148) 44 = .ok (.iconst 0, 1) := by decide +kernel
theorem d_148_45 : decode (mB 148) 45 = .ok (.iconst 0, 1) := by decide +kernel
theorem d_148_46 : decode (mB 148) 46 = .ok (.invokevirtual 297, 3) := by decide +kernel
theorem d_148_49 : decode (mB 148) 49 = .ok (.ireturn, 1) := by decide +kernel
theorem d_148_50 : decode (mB 148) 50 = .ok (.aload_n 0, 1) := by decide +kernel
theorem d_148_51 : decode (mB 148) 51 = .ok (.iload_n 2, 1) := by decide +kernel
theorem d_148_52 : decode (mB 148) 52 = .ok (.iload 5, 2) := by decide +kernel
theorem d_148_54 : decode (mB 148) 54 = .ok (.iload 6, 2) := by decide +kernel
theorem d_148_56 : decode (mB 148) 56 = .ok (.invokevirtual 305, 3) := by decide +kernel
theorem d_148_59 : decode (mB 148) 59 = .ok (.istore 8, 2) := by decide +kernel
theorem d_148_61 : decode (mB 148) 61 = .ok (.iload 8, 2) := by decide +kernel
theorem d_148_63 : decode (mB 148) 63 = .ok (.iconst (-1), 1) := by decide +kernel
theorem d_148_64 : decode (mB 148) 64 = .ok (.if_icmp .eq 37, 3) := by decide +kernel
theorem d_148_67 : decode (mB 148) 67 = .ok (.aload_n 0, 1) := by decide +kernel
theorem d_148_68 : decode (mB 148) 68 = .ok (.iload_n 1, 1) := by decide +kernel
theorem d_148_69 : decode (mB 148) 69 = .ok (.aload_n 0, 1) := by decide +kernel
theorem d_148_70 : decode (mB 148) 70 = .ok (.getfield 51, 3) := by decide +kernel
theorem d_148_73 : decode (mB 148) 73 = .ok (.iload 8, 2) := by decide +kernel
theorem d_148_75 : decode (mB 148) 75 = .ok (.iconst 4, 1) := by decide +kernel
theorem d_148_76 : decode (mB 148) 76 = .ok (.iadd, 1) := by decide +kernel
theorem d_148_77 : decode (mB 148) 77 = .ok (.iaload, 1) := by decide +kernel
theorem d_148_78 : decode (mB 148) 78 = .ok (.aload_n 0, 1) := by decide +kernel
theorem d_148_79 : decode (mB 148) 79 = .ok (.getfield 51, 3) := by decide +kernel
theorem d_148_82 : decode (mB 148) 82 = .ok (.iload 8, 2) := by decide +kernel
theorem d_148_84 : decode (mB 148) 84 = .ok (.iconst 5, 1) := by decide +kernel
theorem d_148_85 : decode (mB 148) 85 = .ok (.iadd, 1) := by decide +kernel
theorem d_148_86 : decode (mB 148) 86 = .ok (.iaload, 1) := by decide +kernel
theorem d_148_87 : decode (mB 148) 87 = .ok (.aload_n 0, 1) := by decide +kernel
theorem d_148_88 : decode (mB 148) 88 = .ok (.getfield 51, 3) := by decide +kernel
theorem d_148_91 : decode (mB 148) 91 = .ok (.iload 8, 2) := by decide +kernel
theorem d_148_93 : decode (mB 148) 93 = .ok (.bipush 6, 2) := by decide +kernel
theorem d_148_95 : decode (mB 148) 95 = .ok (.iadd, 1) := by decide +kernel
theorem d_148_96 : decode (mB 148) 96 = .ok (.iaload, 1) := by decide +kernel
theorem d_148_97 : decode (mB 148) 97 = .ok (.invokevirtual 297, 3) := by decide +kernel
theorem d_148_100 : decode (mB 148) 100 = .ok (.ireturn, 1) := by decide +kernel
theorem d_148_101 : decode (mB 148) 101 = .ok (.aload_n 0, 1) := by decide +kernel
theorem d_148_102 : decode (mB 148) 102 = .ok (.iload_n 2, 1) := by decide +kernel
theorem d_148_103 : decode (mB 148) 103 = .ok (.iload 4, 2) := by decide +kernel
theorem d_148_105 : decode (mB 148) 105 = .ok (.invokevirtual 272, 3) := by decide +kernel
theorem d_148_108 : decode (mB 148) 108 = .ok (.istore 9, 2) := by decide +kernel
theorem d_148_110 : decode (mB 148) 110 = .ok (.iload 9, 2) := by decide +kernel
theorem d_148_112 : decode (mB 148) 112 = .ok (.iconst (-1), 1) := by decide +kernel
theorem d_148_113 : decode (mB 148) 113 = .ok (.if_icmp .ne 7, 3) := by decide +kernel
theorem d_148_116 : decode (mB 148) 116 = .ok (.iconst 0, 1) := by decide +kernel
theorem d_148_117 : decode (mB 148) 117 = .ok (.goto 13, 3) := by decide +kernel
theorem d_148_120 : decode (mB 148) 120 = .ok (.aload_n 0, 1) := by decide +kernel
theorem d_148_121 : decode (mB 148) 121 = .ok (.getfield 51, 3) := by decide +kernel
theorem d_148_124 : decode (mB 148) 124 = .ok (.iload 9, 2) := by decide +kernel
theorem d_148_126 : decode (mB 148) 126 = .ok (.bipush 6, 2) := by decide +kernel
theorem d_148_128 : decode (mB 148) 128 = .ok (.iadd, 1) := by decide +kernel
theorem d_148_129 : decode (mB 148) 129 = .ok (.iaload, 1) := by decide +kernel
theorem d_148_130 : decode (mB 148) 130 = .ok (.istore 10, 2) := by decide +kernel
theorem d_148_132 : decode (mB 148) 132 = .ok (.iload 9, 2) := by decide +kernel
theorem d_148_134 : decode (mB 148) 134 = .ok (.iconst (-1), 1) := by decide +kernel
theorem d_148_135 : decode (mB 148) 135 = .ok (.if_icmp .ne 7, 3) := by decide +kernel
theorem d_148_138 : decode (mB 148) 138 = .ok (.iconst 0, 1) := by decide +kernel
theorem d_148_139 : decode (mB 148) 139 = .ok (.goto 12, 3) := by decide +kernel
theorem d_148_142 : decode (mB 148) 142 = .ok (.aload_n 0, 1) := by decide +kernel
theorem d_148_143 : decode (mB 148) 143 = .ok (.getfield 51, 3) := by decide +kernel
theorem d_148_146 : decode (mB 148) 146 = .ok (.iload 9, 2) := by decide +kernel
theorem d_148_148 : decode (mB 148) 148 = .ok (.iconst 5, 1) := by decide +kernel
theorem d_148_149 : decode (mB 148) 149 = .ok (.iadd, 1) := by decide +kernel
theorem d_148_150 : decode (mB 148) 150 = .ok (.iaload, 1) := by decide +kernel
theorem d_148_151 : decode (mB 148) 151 = .ok (.istore 11, 2) := by decide +kernel
theorem d_148_153 : decode (mB 148) 153 = .ok (.aload_n 0, 1) := by decide +kernel
theorem d_148_154 : decode (mB 148) 154 = .ok (.getfield 86, 3) := by decide +kernel
theorem d_148_157 : decode (mB 148) 157 = .ok (.iload_n 3, 1) := by decide +kernel
theorem d_148_158 : decode (mB 148) 158 = .ok (.iaload, 1) := by decide +kernel
theorem d_148_159 : decode (mB 148) 159 = .ok (.iconst 2, 1) := by decide +kernel
theorem d_148_160 : decode (mB 148) 160 = .ok (.if_icmp .ne 18, 3) := by decide +kernel
theorem d_148_163 : decode (mB 148) 163 = .ok (.iload 10, 2) := by decide +kernel
theorem d_148_165 : decode (mB 148) 165 = .ok (.aload_n 0, 1) := by decide +kernel
theorem d_148_166 : decode (mB 148) 166 = .ok (.getfield 95, 3) := by decide +kernel
theorem d_148_169 : decode (mB 148) 169 = .ok (.iload_n 3, 1) := by decide +kernel
theorem d_148_170 : decode (mB 148) 170 = .ok (.iaload, 1) := by decide +kernel
theorem d_148_171 : decode (mB 148) 171 = .ok (.if_icmp .eq 7, 3) := by decide +kernel
theorem d_148_174 : decode (mB 148) 174 = .ok (.iconst 2, 1) := by decide +kernel
theorem d_148_175 : decode (mB 148) 175 = .ok (.goto 24, 3) := by decide +kernel
theorem d_148_178 : decode (mB 148) 178 = .ok (.aload_n 0, 1) := by decide +kernel
theorem d_148_179 : decode (mB 148) 179 = .ok (.getfield 86, 3) := by decide +kernel
theorem d_148_182 : decode (mB 148) 182 = .ok (.iload_n 3, 1) := by decide +kernel
theorem d_148_183 : decode (mB 148) 183 = .ok (.iaload, 1) := by decide +kernel
theorem d_148_184 : decode (mB 148) 184 = .ok (.iconst 3, 1) := by decide +kernel
theorem d_148_185 : decode (mB 148) 185 = .ok (.if_icmp .ne 13, 3) := by decide +kernel
theorem d_148_188 : decode (mB 148) 188 = .ok (.iload 9, 2) := by decide +kernel
theorem d_148_190 : decode (mB 148) 190 = .ok (.iconst (-1), 1) := by decide +kernel
theorem d_148_191 : decode (mB 148) 191 = .ok (.if_icmp .ne 7, 3) := by decide +kernel
theorem d_148_194 : decode (mB 148) 194 = .ok (.iconst 1, 1) := by decide +kernel
theorem d_148_195 : decode (mB 148) 195 = .ok (.goto 4, 3) := by decide +kernel
theorem d_148_198 : decode (mB 148) 198 = .ok (.iconst 0, 1) := by decide +kernel
theorem d_148_199 : decode (mB 148) 199 = .ok (.istore 12, 2) := by decide +kernel
theorem d_148_201 : decode (mB 148) 201 = .ok (.aload_n 0, 1) := by decide +kernel
theorem d_148_202 : decode (mB 148) 202 = .ok (.invokevirtual 219, 3) := by decide +kernel
theorem d_148_205 : decode (mB 148) 205 = .ok (.iload 12, 2) := by decide +kernel
theorem d_148_207 : decode (mB 148) 207 = .ok (.ifCond .eq 25, 3) := by decide +kernel
theorem d_148_210 : decode (mB 148) 210 = .ok (.aload_n 0, 1) := by decide +kernel
theorem d_148_211 : decode (mB 148) 211 = .ok (.iconst 0, 1) := by decide +kernel
theorem d_148_212 : decode (mB 148) 212 = .ok (.iload 5, 2) := by decide +kernel
theorem d_148_214 : decode (mB 148) 214 = .ok (.iload 6, 2) := by decide +kernel
theorem d_148_216 : decode (mB 148) 216 = .ok (.iload 4, 2) := by decide +kernel
theorem d_148_218 : decode (mB 148) 218 = .ok (.iload 12, 2) := by decide +kernel
theorem d_148_220 : decode (mB 148) 220 = .ok (.iload 11, 2) := by decide +kernel
theorem d_148_222 : decode (mB 148) 222 = .ok (.iload 10, 2) := by decide +kernel
theorem d_148_224 : decode (mB 148) 224 = .ok (.iload 7, 2) := by decide +kernel
theorem d_148_226 : decode (mB 148) 226 = .ok (.invokevirtual 308, 3) := by decide +kernel
theorem d_148_229 : decode (mB 148) 229 = .ok (.goto 99, 3) := by decide +kernel
theorem d_148_232 : decode (mB 148) 232 = .ok (.aload_n 0, 1) := by decide +kernel
theorem d_148_233 : decode (mB 148) 233 = .ok (.getfield 23, 3) := by decide +kernel
theorem d_148_236 : decode (mB 148) 236 = .ok (.iload_n 2, 1) := by decide +kernel
theorem d_148_237 : decode (mB 148) 237 = .ok (.iaload, 1) := by decide +kernel
theorem d_148_238 : decode (mB 148) 238 = .ok (.iconst 1, 1) := by decide +kernel
theorem d_148_239 : decode (mB 148) 239 = .ok (.iadd, 1) := by decide +kernel
theorem d_148_240 : decode (mB 148) 240 = .ok (.istore 10, 2) := by decide +kernel
theorem d_148_242 : decode (mB 148) 242 = .ok (.aload_n 0, 1) := by decide +kernel
theorem d_148_243 : decode (mB 148) 243 = .ok (.getfield 86, 3) := by decide +kernel
theorem d_148_246 : decode (mB 148) 246 = .ok (.iload_n 3, 1) := by decide +kernel
theorem d_148_247 : decode (mB 148) 247 = .ok (.iaload, 1) := by decide +kernel
theorem d_148_248 : decode (mB 148) 248 = .ok (.iconst 3, 1) := by decide +kernel
theorem d_148_249 : decode (mB 148) 249 = .ok (.if_icmp .ne 7, 3) := by decide +kernel
theorem d_148_252 : decode (mB 148) 252 = .ok (.iconst 0, 1) := by decide +kernel
theorem d_148_253 : decode (mB 148) 253 = .ok (.goto 9, 3) := by decide +kernel
theorem d_148_256 : decode (mB 148) 256 = .ok (.aload_n 0, 1) := by decide +kernel
theorem d_148_257 : decode (mB 148) 257 = .ok (.getfield 92, 3) := by decide +kernel
theorem d_148_260 : decode (mB 148) 260 = .ok (.iload_n 3, 1) := by decide +kernel
theorem d_148_261 : decode (mB 148) 261 = .ok (.iaload, 1) := by decide +kernel
theorem d_148_262 : decode (mB 148) 262 = .ok (.istore 11, 2) := by decide +kernel
theorem d_148_264 : decode (mB 148) 264 = .ok (.aload_n 0, 1) := by decide +kernel
theorem d_148_265 : decode (mB 148) 265 = .ok (.getfield 64, 3) := by decide +kernel
theorem d_148_268 : decode (mB 148) 268 = .ok (.iconst 0, 1) := by decide +kernel
theorem d_148_269 : decode (mB 148) 269 = .ok (.aload_n 0, 1) := by decide +kernel
theorem d_148_270 : decode (mB 148) 270 = .ok (.getfield 86, 3) := by decide +kernel
theorem d_148_273 : decode (mB 148) 273 = .ok (.iload_n 3, 1) := by decide +kernel
theorem d_148_274 : decode (mB 148) 274 = .ok (.iaload, 1) := by decide +kernel
theorem d_148_275 : decode (mB 148) 275 = .ok (.iconst 3, 1) := by decide +kernel
theorem d_148_276 : decode (mB 148) 276 = .ok (.if_icmp .ne 7, 3) := by decide +kernel
theorem d_148_279 : decode (mB 148) 279 = .ok (.iconst 4, 1) := by decide +kernel
theorem d_148_280 : decode (mB 148) 280 = .ok (.goto 4, 3) := by decide +kernel
theorem d_148_283 : decode (mB 148) 283 = .ok (.iconst 3, 1) := by decide +kernel
theorem d_148_284 : decode (mB 148) 284 = .ok (.iastore, 1) := by decide +kernel
theorem d_148_285 : decode (mB 148) 285 = .ok (.aload_n 0, 1) := by decide +kernel
theorem d_148_286 : decode (mB 148) 286 = .ok (.getfield 64, 3) := by decide +kernel
theorem d_148_289 : decode (mB 148) 289 = .ok (.iconst 3, 1) := by decide +kernel
theorem d_148_290 : decode (mB 148) 290 = .ok (.iload 4, 2) := by decide +kernel
theorem d_148_292 : decode (mB 148) 292 = .ok (.iastore, 1) := by decide +kernel
theorem d_148_293 : decode (mB 148) 293 = .ok (.aload_n 0, 1) := by decide +kernel
theorem d_148_294 : decode (mB 148) 294 = .ok (.getfield 64, 3) := by decide +kernel
theorem d_148_297 : decode (mB 148) 297 = .ok (.iconst 5, 1) := by decide +kernel
theorem d_148_298 : decode (mB 148) 298 = .ok (.iload 11, 2) := by decide +kernel
theorem d_148_300 : decode (mB 148) 300 = .ok (.iastore, 1) := by decide +kernel
theorem d_148_301 : decode (mB 148) 301 = .ok (.aload_n 0, 1) := by decide +kernel
theorem d_148_302 : decode (mB 148) 302 = .ok (.getfield 64, 3) := by decide +kernel
theorem d_148_305 : decode (mB 148) 305 = .ok (.bipush 6, 2) := by decide +kernel
theorem d_148_307 : decode (mB 148) 307 = .ok (.iload 10, 2) := by decide +kernel
theorem d_148_309 : decode (mB 148) 309 = .ok (.iastore, 1) := by decide +kernel
theorem d_148_310 : decode (mB 148) 310 = .ok (.aload_n 0, 1) := by decide +kernel
theorem d_148_311 : decode (mB 148) 311 = .ok (.iconst 1, 1) := by decide +kernel
theorem d_148_312 : decode (mB 148) 312 = .ok (.iload 5, 2) := by decide +kernel
theorem d_148_314 : decode (mB 148) 314 = .ok (.iload 6, 2) := by decide +kernel
theorem d_148_316 : decode (mB 148) 316 = .ok (.iload 4, 2) := by decide +kernel
theorem d_148_318 : decode (mB 148) 318 = .ok (.iconst 0, 1) := by decide +kernel
theorem d_148_319 : decode (mB 148) 319 = .ok (.iload 11, 2) := by decide +kernel
theorem d_148_321 : decode (mB 148) 321 = .ok (.iload 10, 2) := by decide +kernel
theorem d_148_323 : decode (mB 148) 323 = .ok (.iload 7, 2) := by decide +kernel
theorem d_148_325 : decode (mB 148) 325 = .ok (.invokevirtual 308, 3) := by decide +kernel
theorem d_148_328 : decode (mB 148) 328 = .ok (.aload_n 0, 1) := by decide +kernel
theorem d_148_329 : decode (mB 148) 329 = .ok (.getfield 32, 3) := by decide +kernel
theorem d_148_332 : decode (mB 148) 332 = .ok (.iload_n 2, 1) := by decide +kernel
theorem d_148_333 : decode (mB 148) 333 = .ok (.iaload, 1) := by decide +kernel
theorem d_148_334 : decode (mB 148) 334 = .ok (.iconst (-1), 1) := by decide +kernel
theorem d_148_335 : decode (mB 148) 335 = .ok (.if_icmp .ne 8, 3) := by decide +kernel
theorem d_148_338 : decode (mB 148) 338 = .ok (.bipush 8, 2) := by decide +kernel
theorem d_148_340 : decode (mB 148) 340 = .ok (.goto 9, 3) := by decide +kernel
theorem d_148_343 : decode (mB 148) 343 = .ok (.aload_n 0, 1) := by decide +kernel
theorem d_148_344 : decode (mB 148) 344 = .ok (.getfield 32, 3) := by decide +kernel
theorem d_148_347 : decode (mB 148) 347 = .ok (.iload_n 2, 1) := by decide +kernel
theorem d_148_348 : decode (mB 148) 348 = .ok (.iaload, 1) := by decide +kernel
theorem d_148_349 : decode (mB 148) 349 = .ok (.istore 13, 2) := by decide +kernel
theorem d_148_351 : decode (mB 148) 351 = .ok (.aload_n 0, 1) := by decide +kernel
theorem d_148_352 : decode (mB 148) 352 = .ok (.iload_n 2, 1) := by decide +kernel
theorem d_148_353 : decode (mB 148) 353 = .ok (.iconst 0, 1) := by decide +kernel
theorem d_148_354 : decode (mB 148) 354 = .ok (.iload 13, 2) := by decide +kernel
theorem d_148_356 : decode (mB 148) 356 = .ok (.invokevirtual 312, 3) := by decide +kernel
theorem d_148_359 : decode (mB 148) 359 = .ok (.ifCond .ne 12, 3) := by decide +kernel
theorem d_148_362 : decode (mB 148) 362 = .ok (.aload_n 0, 1) := by decide +kernel
theorem d_148_363 : decode (mB 148) 363 = .ok (.iload_n 1, 1) := by decide +kernel
theorem d_148_364 : decode (mB 148) 364 = .ok (.iconst 4, 1) := by decide +kernel
theorem d_148_365 : decode (mB 148) 365 = .ok (.iconst 0, 1) := by decide +kernel
theorem d_148_366 : decode (mB 148) 366 = .ok (.iconst 0, 1) := by decide +kernel
theorem d_148_367 : decode (mB 148) 367 = .ok (.invokevirtual 297, 3) := by decide +kernel
theorem d_148_370 : decode (mB 148) 370 = .ok (.ireturn, 1) := by decide +kernel
theorem d_148_371 : decode (mB 148) 371 = .ok (.iload 12, 2) := by decide +kernel
theorem d_148_373 : decode (mB 148) 373 = .ok (.ifCond .ne 18, 3) := by decide +kernel
theorem d_148_376 : decode (mB 148) 376 = .ok (.iload 13, 2) := by decide +kernel
theorem d_148_378 : decode (mB 148) 378 = .ok (.ifCond .le 13, 3) := by decide +kernel
theorem d_148_381 : decode (mB 148) 381 = .ok (.aload_n 0, 1) := by decide +kernel
theorem d_148_382 : decode (mB 148) 382 = .ok (.dup, 1) := by decide +kernel
theorem d_148_383 : decode (mB 148) 383 = .ok (.getfield 316, 3) := by decide +kernel
theorem d_148_386 : decode (mB 148) 386 = .ok (.iconst 1, 1) := by decide +kernel
theorem d_148_387 : decode (mB 148) 387 = .ok (.iadd, 1) := by decide +kernel
theorem d_148_388 : decode (mB 148) 388 = .ok (.putfield 316, 3) := by decide +kernel
theorem d_148_391 : decode (mB 148) 391 = .ok (.aload_n 0, 1) := by decide +kernel
theorem d_148_392 : decode (mB 148) 392 = .ok (.getfield 32, 3) := by decide +kernel
theorem d_148_395 : decode (mB 148) 395 = .ok (.iload_n 2, 1) := by decide +kernel
theorem d_148_396 : decode (mB 148) 396 = .ok (.iaload, 1) := by decide +kernel
theorem d_148_397 : decode (mB 148) 397 = .ok (.iconst (-1), 1) := by decide +kernel
theorem d_148_398 : decode (mB 148) 398 = .ok (.if_icmp .eq 17, 3) := by decide +kernel
theorem d_148_401 : decode (mB 148) 401 = .ok (.aload_n 0, 1) := by decide +kernel
theorem d_148_402 : decode (mB 148) 402 = .ok (.getfield 110, 3) := by decide +kernel
theorem d_148_405 : decode (mB 148) 405 = .ok (.iload_n 1, 1) := by decide +kernel
theorem d_148_406 : decode (mB 148) 406 = .ok (.iconst (-1), 1) := by decide +kernel
theorem d_148_407 : decode (mB 148) 407 = .ok (.iastore, 1) := by decide +kernel
theorem d_148_408 : decode (mB 148) 408 = .ok (.aload_n 0, 1) := by decide +kernel
theorem d_148_409 : decode (mB 148) 409 = .ok (.iload_n 2, 1) := by decide +kernel
theorem d_148_410 : decode (mB 148) 410 = .ok (.invokevirtual 319, 3) := by decide +kernel
theorem d_148_413 : decode (mB 148) 413 = .ok (.iconst 3, 1) := by decide +kernel
theorem d_148_414 : decode (mB 148) 414 = .ok (.ireturn, 1) := by decide +kernel
theorem d_148_415 : decode (mB 148) 415 = .ok (.iload 12, 2) := by decide +kernel
theorem d_148_417 : decode (mB 148) 417 = .ok (.ifCond .ne 13, 3) := by decide +kernel
theorem d_148_420 : decode (mB 148) 420 = .ok (.aload_n 0, 1) := by decide +kernel
theorem d_148_421 : decode (mB 148) 421 = .ok (.getfield 23, 3) := by decide +kernel
theorem d_148_424 : decode (mB 148) 424 = .ok (.iload_n 2, 1) := by decide +kernel
theorem d_148_425 : decode (mB 148) 425 = .ok (.dup2, 1) := by decide +kernel
theorem d_148_426 : decode (mB 148) 426 = .ok (.iaload, 1) := by decide +kernel
theorem d_148_427 : decode (mB 148) 427 = .ok (.iconst 1, 1) := by decide +kernel
theorem d_148_428 : decode (mB 148) 428 = .ok (.iadd, 1) := by decide +kernel
theorem d_148_429 : decode (mB 148) 429 = .ok (.iastore, 1) := by decide +kernel
theorem d_148_430 : decode (mB 148) 430 = .ok (.aload_n 0, 1) := by decide +kernel
theorem d_148_431 : decode (mB 148) 431 = .ok (.iload_n 1, 1) := by decide +kernel
theorem d_148_432 : decode (mB 148) 432 = .ok (.iload 12, 2) := by decide +kernel
theorem d_148_434 : decode (mB 148) 434 = .ok (.iload 11, 2) := by decide +kernel
theorem d_148_436 : decode (mB 148) 436 = .ok (.iload 10, 2) := by decide +kernel
theorem d_148_438 : decode (mB 148) 438 = .ok (.invokevirtual 297, 3) := by decide +kernel
theorem d_148_441 : decode (mB 148) 441 = .ok (.ireturn, 1) := by decide +kernel
theorem d_149_0 : decode (mB 149) 0 = .ok (.aload_n 0, 1) := by decide +kernel
theorem d_149_1 : decode (mB 149) 1 = .ok (.getfield 119, 3) := by decide +kernel
theorem d_149_4 : decode (mB 149) 4 = .ok (.iload_n 1, 1) := by decide +kernel
theorem d_149_5 : decode (mB 149) 5 = .ok (.iaload, 1) := by decide +kernel
theorem d_149_6 : decode (mB 149) 6 = .ok (.istore_n 2, 1) := by decide +kernel
theorem d_149_7 : decode (mB 149) 7 = .ok (.bipush 40, 2) := by decide +kernel
theorem d_149_9 : decode (mB 149) 9 = .ok (.aload_n 0, 1) := by decide +kernel
theorem d_149_10 : decode (mB 149) 10 = .ok (.getfield 113, 3) := by decide +kernel
theorem d_149_13 : decode (mB 149) 13 = .ok (.iload_n 1, 1) := by decide +kernel
theorem d_149_14 : decode (mB 149) 14 = .ok (.iaload, 1) := by decide +kernel
theorem d_149_15 : decode (mB 149) 15 = .ok (.imul, 1) := by decide +kernel
theorem d_149_16 : decode (mB 149) 16 = .ok (.aload_n 0, 1) := by decide +kernel
theorem d_149_17 : decode (mB 149) 17 = .ok (.getfield 116, 3) := by decide +kernel
theorem d_149_20 : decode (mB 149) 20 = .ok (.iload_n 1, 1) := by decide +kernel
theorem d_149_21 : decode (mB 149) 21 = .ok (.iaload, 1) := by decide +kernel
theorem d_149_22 : decode (mB 149) 22 = .ok (.iadd, 1) := by decide +kernel
theorem d_149_23 : decode (mB 149) 23 = .ok (.iconst 1, 1) := by decide +kernel
theorem d_149_24 : decode (mB 149) 24 = .ok (.isub, 1) := by decide +kernel
theorem d_149_25 : decode (mB 149) 25 = .ok (.istore_n 3, 1) := by decide +kernel
theorem d_149_26 : decode (mB 149) 26 = .ok (.aload_n 0, 1) := by decide +kernel
theorem d_149_27 : decode (mB 149) 27 = .ok (.getfield 89, 3) := by decide +kernel
theorem d_149_30 : decode (mB 149) 30 = .ok (.iload_n 3, 1) := by decide +kernel
theorem d_149_31 : decode (mB 149) 31 = .ok (.iaload, 1) := by decide +kernel
theorem d_149_32 : decode (mB 149) 32 = .ok (.istore 4, 2) := by decide +kernel
theorem d_149_34 : decode (mB 149) 34 = .ok (.aload_n 0, 1) := by decide +kernel
theorem d_149_35 : decode (mB 149) 35 = .ok (.getfield 9, 3) := by decide +kernel
theorem d_149_38 : decode (mB 149) 38 = .ok (.iload_n 2, 1) := by decide +kernel
theorem d_149_39 : decode (mB 149) 39 = .ok (.iaload, 1) := by decide +kernel
theorem d_149_40 : decode (mB 149) 40 = .ok (.iconst 2, 1) := by decide +kernel
theorem d_149_41 : decode (mB 149) 41 = .ok (.if_icmp .ne 12, 3) := by decide +kernel
theorem d_149_44 : decode (mB 149) 44 = .ok (.aload_n 0, 1) := by decide +kernel
theorem d_149_45 : decode (mB 149) 45 = .ok (.getfield 110, 3) := by decide +kernel
theorem d_149_48 : decode (mB 149) 48 = .ok (.iload_n 1, 1) := by decide +kernel
theorem d_149_49 : decode (mB 149) 49 = .ok (.iconst (-1), 1) := by decide +kernel
theorem d_149_50 : decode (mB 149) 50 = .ok (.iastore, 1) := by decide +kernel
theorem d_149_51 : decode (mB 149) 51 = .ok (.iconst 1, 1) := by decide +kernel
theorem d_149_52 : decode (mB 149) 52 = .ok (.ireturn, 1) := by decide +kernel
theorem d_149_53 : decode (mB 149) 53 = .ok (.aload_n 0, 1) := by decide +kernel
theorem d_149_54 : decode (mB 149) 54 = .ok (.getfield 9, 3) := by decide +kernel
theorem d_149_57 : decode (mB 149) 57 = .ok (.iload_n 2, 1) := by decide +kernel
theorem d_149_58 : decode (mB 149) 58 = .ok (.iaload, 1) := by decide +kernel
theorem d_149_59 : decode (mB 149) 59 = .ok (.iconst 1, 1) := by decide +kernel
theorem d_149_60 : decode (mB 149) 60 = .ok (.if_icmp .ne 5, 3) := by decide +kernel
theorem d_149_63 : decode (mB 149) 63 = .ok (.iconst 2, 1) := by decide +kernel
theorem d_149_64 : decode (mB 149) 64 = .ok (.ireturn, 1) := by decide +kernel
theorem d_149_65 : decode (mB 149) 65 = .ok (.aload_n 0, 1) := by decide +kernel
theorem d_149_66 : decode (mB 149) 66 = .ok (.getfield 13, 3) := by decide +kernel
theorem d_149_69 : decode (mB 149) 69 = .ok (.iload_n 2, 1) := by decide +kernel
theorem d_149_70 : decode (mB 149) 70 = .ok (.baload, 1) := by decide +kernel
theorem d_149_71 : decode (mB 149) 71 = .ok (.ifCond .eq 17, 3) := by decide +kernel
theorem d_149_74 : decode (mB 149) 74 = .ok (.aload_n 0, 1) := by decide +kernel
theorem d_149_75 : decode (mB 149) 75 = .ok (.iload_n 2, 1) := by decide +kernel
theorem d_149_76 : decode (mB 149) 76 = .ok (.invokevirtual 322, 3) := by decide +kernel
theorem d_149_79 : decode (mB 149) 79 = .ok (.aload_n 0, 1) := by decide +kernel
theorem d_149_80 : decode (mB 149) 80 = .ok (.iload_n 1, 1) := by decide +kernel
theorem d_149_81 : decode (mB 149) 81 = .ok (.iconst 3, 1) := by decide +kernel
theorem d_149_82 : decode (mB 149) 82 = .ok (.iconst 0, 1) := by decide +kernel
theorem d_149_83 : decode (mB 149) 83 = .ok (.iconst 0, 1) := by decide +kernel
theorem d_149_84 : decode (mB 149) 84 = .ok (.invokevirtual 297, 3) := by decide +kernel
theorem d_149_87 : decode (mB 149) 87 = .ok (.ireturn, 1) := by decide +kernel
theorem d_149_88 : decode (mB 149) 88 = .ok (.aload_n 0, 1) := by decide +kernel
theorem d_149_89 : decode (mB 149) 89 = .ok (.getfield 17, 3) := by decide +kernel
theorem d_149_92 : decode (mB 149) 92 = .ok (.bipush 8, 2) := by decide +kernel
theorem d_149_94 : decode (mB 149) 94 = .ok (.iload_n 2, 1) := by decide +kernel
theorem d_149_95 : decode (mB 149) 95 = .ok (.imul, 1) := by decide +kernel
theorem d_149_96 : decode (mB 149) 96 = .ok (.iload 4, 2) := by decide +kernel
theorem d_149_98 : decode (mB 149) 98 = .ok (.bipush 8, 2) := by decide +kernel
theorem d_149_100 : decode (mB 149) 100 = .ok (.idiv, 1) := by decide +kernel
theorem d_149_101 : decode (mB 149) 101 = .ok (.iadd, 1) := by decide +kernel
theorem d_149_102 : decode (mB 149) 102 = .ok (.baload, 1) := by decide +kernel
theorem d_149_103 : decode (mB 149) 103 = .ok (.ifCond .ne 12, 3) := by decide +kernel
theorem d_149_106 : decode (mB 149) 106 = .ok (.aload_n 0, 1) := by decide +kernel
theorem d_149_107 : decode (mB 149) 107 = .ok (.iload_n 1, 1) := by decide +kernel
theorem d_149_108 : decode (mB 149) 108 = .ok (.iconst 3, 1) := by decide +kernel
theorem d_149_109 : decode (mB 149) 109 = .ok (.iconst 0, 1) := by decide +kernel
theorem d_149_110 : decode (mB 149) 110 = .ok (.iconst 0, 1) := by decide +kernel
theorem d_149_111 : decode (mB 149) 111 = .ok (.invokevirtual 297, 3) := by decide +kernel
theorem d_149_114 : decode (mB 149) 114 = .ok (.ireturn, 1) := by decide +kernel
theorem d_149_115 : decode (mB 149) 115 = .ok (.aload_n 0, 1) := by decide +kernel
theorem d_149_116 : decode (mB 149) 116 = .ok (.getfield 86, 3) := by decide +kernel
theorem d_149_119 : decode (mB 149) 119 = .ok (.iload_n 3, 1) := by decide +kernel
theorem d_149_120 : decode (mB 149) 120 = .ok (.iaload, 1) := by decide +kernel
theorem d_149_121 : decode (mB 149) 121 = .ok (.ifCond .ne 14, 3) := by decide +kernel
theorem d_149_124 : decode (mB 149) 124 = .ok (.aload_n 0, 1) := by decide +kernel
theorem d_149_125 : decode (mB 149) 125 = .ok (.iload_n 1, 1) := by decide +kernel
theorem d_149_126 : decode (mB 149) 126 = .ok (.iload_n 2, 1) := by decide +kernel
theorem d_149_127 : decode (mB 149) 127 = .ok (.iload 4, 2) := by decide +kernel
theorem d_149_129 : decode (mB 149) 129 = .ok (.invokevirtual 325, 3) := by decide +kernel
theorem d_149_132 : decode (mB 149) 132 = .ok (.goto 12, 3) := by decide +kernel
theorem d_149_135 : decode (mB 149) 135 = .ok (.aload_n 0, 1) := by decide +kernel
theorem d_149_136 : decode (mB 149) 136 = .ok (.iload_n 1, 1) := by decide +kernel
theorem d_149_137 : decode (mB 149) 137 = .ok (.iload_n 2, 1) := by decide +kernel
theorem d_149_138 : decode (mB 149) 138 = .ok (.iload_n 3, 1) := by decide +kernel
theorem d_149_139 : decode (mB 149) 139 = .ok (.iload 4, 2) := by decide +kernel
theorem d_149_141 : decode (mB 149) 141 = .ok (.invokevirtual 328, 3) := by decide +kernel
theorem d_149_144 : decode (mB 149) 144 = .ok (.ireturn, 1) := by decide +kernel
theorem d_150_0 : decode (mB 150) 0 = .ok (.iload_n 1, 1) := by decide +kernel
theorem d_150_1 : decode (mB 150) 1 = .ok (.iconst 0, 1) := by decide +kernel
theorem d_150_2 : decode (mB 150) 2 = .ok (.bipush 39, 2) := by decide +kernel
theorem d_150_4 : decode (mB 150) 4 = .ok (.invokestatic 160, 3) := by decide +kernel
theorem d_150_7 : decode (mB 150) 7 = .ok (.ifCond .eq 17, 3) := by decide +kernel
theorem d_150_10 : decode (mB 150) 10 = .ok (.aload_n 0, 1) := by decide +kernel
theorem d_150_11 : decode (mB 150) 11 = .ok (.getfield 110, 3) := by decide +kernel
theorem d_150_14 : decode (mB 150) 14 = .ok (.iload_n 1, 1) := by decide +kernel
theorem d_150_15 : decode (mB 150) 15 = .ok (.iaload, 1) := by decide +kernel
theorem d_150_16 : decode (mB 150) 16 = .ok (.iconst (-1), 1) := by decide +kernel
theorem d_150_17 : decode (mB 150) 17 = .ok (.if_icmp .eq 7, 3) := by decide +kernel
theorem d_150_20 : decode (mB 150) 20 = .ok (.iconst 1, 1) := by decide +kernel
theorem d_150_21 : decode (mB 150) 21 = .ok (.goto 4, 3) := by decide +kernel
theorem d_150_24 : decode (mB 150) 24 = .ok (.iconst 0, 1) := by decide +kernel
theorem d_150_25 : decode (mB 150) 25 = .ok (.ireturn, 1) := by decide +kernel
theorem d_151_0 : decode (mB 151) 0 = .ok (.aload_n 0, 1) := by decide +kernel
theorem d_151_1 : decode (mB 151) 1 = .ok (.iconst 0, 1) := by decide +kernel
theorem d_151_2 : decode (mB 151) 2 = .ok (.putfield 157, 3) := by decide +kernel
theorem d_151_5 : decode (mB 151) 5 = .ok (.aload_n 0, 1) := by decide +kernel
theorem d_151_6 : decode (mB 151) 6 = .ok (.iload_n 1, 1) := by decide +kernel
theorem d_151_7 : decode (mB 151) 7 = .ok (.invokevirtual 331, 3) := by decide +kernel
theorem d_151_10 : decode (mB 151) 10 = .ok (.ifCond .ne 5, 3) := by decide +kernel
theorem d_151_13 : decode (mB 151) 13 = .ok (.iconst (-1), 1) := by decide +kernel
theorem d_151_14 : decode (mB 151) 14 = .ok (.ireturn, 1) := by decide +kernel
theorem d_151_15 : decode (mB 151) 15 = .ok (.aload_n 0, 1) := by decide +kernel
theorem d_151_16 : decode (mB 151) 16 = .ok (.getfield 110, 3) := by decide +kernel
theorem d_151_19 : decode (mB 151) 19 = .ok (.iload_n 1, 1) := by decide +kernel
theorem d_151_20 : decode (mB 151) 20 = .ok (.iaload, 1) := by decide +kernel
theorem d_151_21 : decode (mB 151) 21 = .ok (.ifCond .ne 9, 3) := by decide +kernel
theorem d_151_24 : decode (mB 151) 24 = .ok (.aload_n 0, 1) := by decide +kernel
theorem d_151_25 : decode (mB 151) 25 = .ok (.iload_n 1, 1) := by decide +kernel
theorem d_151_26 : decode (mB 151) 26 = .ok (.invokevirtual 334, 3) := by decide +kernel
theorem d_151_29 : decode (mB 151) 29 = .ok (.ireturn, 1) := by decide +kernel
theorem d_151_30 : decode (mB 151) 30 = .ok (.aload_n 0, 1) := by decide +kernel
theorem d_151_31 : decode (mB 151) 31 = .ok (.getfield 110, 3) := by decide +kernel
theorem d_151_34 : decode (mB 151) 34 = .ok (.iload_n 1, 1) := by decide +kernel
theorem d_151_35 : decode (mB 151) 35 = .ok (.iconst (-1), 1) := by decide +kernel
theorem d_151_36 : decode (mB 151) 36 = .ok (.iastore, 1) := by decide +kernel
theorem d_151_37 : decode (mB 151) 37 = .ok (.aload_n 0, 1) := by decide +kernel
theorem d_151_38 : decode (mB 151) 38 = .ok (.getfield 125, 3) := by decide +kernel
theorem d_151_41 : decode (mB 151) 41 = .ok (.iload_n 1, 1) := by decide +kernel
theorem d_151_42 : decode (mB 151) 42 = .ok (.iaload, 1) := by decide +kernel
theorem d_151_43 : decode (mB 151) 43 = .ok (.iconst 3, 1) := by decide +kernel
theorem d_151_44 : decode (mB 151) 44 = .ok (.if_icmp .eq 13, 3) := by decide +kernel
theorem d_151_47 : decode (mB 151) 47 = .ok (.aload_n 0, 1) := by decide +kernel
theorem d_151_48 : decode (mB 151) 48 = .ok (.getfield 125, 3) := by decide +kernel
theorem d_151_51 : decode (mB 151) 51 = .ok (.iload_n 1, 1) := by decide +kernel
theorem d_151_52 : decode (mB 151) 52 = .ok (.iaload, 1) := by decide +kernel
theorem d_151_53 : decode (mB 151) 53 = .ok (.iconst 4, 1) := by decide +kernel
theorem d_151_54 : decode (mB 151) 54 = .ok (.if_icmp .ne 6, 3) := by decide +kernel
theorem d_151_57 : decode (mB 151) 57 = .ok (.bipush 6, 2) := by decide +kernel
theorem d_151_59 : decode (mB 151) 59 = .ok (.ireturn, 1) := by decide +kernel
theorem d_151_60 : decode (mB 151) 60 = .ok (.bipush 40, 2) := by decide +kernel
theorem d_151_62 : decode (mB 151) 62 = .ok (.aload_n 0, 1) := by decide +kernel
theorem d_151_63 : decode (mB 151) 63 = .ok (.getfield 113, 3) := by decide +kernel
theorem d_151_66 : decode (mB 151) 66 = .ok (.iload_n 1, 1) := by decide +kernel
theorem d_151_67 : decode (mB 151) 67 = .ok (.iaload, 1) := by decide +kernel
theorem d_151_68 : decode (mB 151) 68 = .ok (.imul, 1) := by decide +kernel
theorem d_151_69 : decode (mB 151) 69 = .ok (.aload_n 0, 1) := by decide +kernel
theorem d_151_70 : decode (mB 151) 70 = .ok (.getfield 116, 3) := by decide +kernel
theorem d_151_73 : decode (mB 151) 73 = .ok (.iload_n 1, 1) := by decide +kernel
theorem d_151_74 : decode (mB 151) 74 = .ok (.iaload, 1) := by decide +kernel
theorem d_151_75 : decode (mB 151) 75 = .ok (.iadd, 1) := by decide +kernel
theorem d_151_76 : decode (mB 151) 76 = .ok (.iconst 1, 1) := by decide +kernel
theorem d_151_77 : decode (mB 151) 77 = .ok (.isub, 1) := by decide +kernel
theorem d_151_78 : decode (mB 151) 78 = .ok (.istore_n 2, 1) := by decide +kernel
theorem d_151_79 : decode (mB 151) 79 = .ok (.aload_n 0, 1) := by decide +kernel
theorem d_151_80 : decode (mB 151) 80 = .ok (.getfield 98, 3) := by decide +kernel
theorem d_151_83 : decode (mB 151) 83 = .ok (.iload_n 2, 1) := by decide +kernel
theorem d_151_84 : decode (mB 151) 84 = .ok (.baload, 1) := by decide +kernel
theorem d_151_85 : decode (mB 151) 85 = .ok (.ifCond .eq 5, 3) := by decide +kernel
theorem d_151_88 : decode (mB 151) 88 = .ok (.iconst 5, 1) := by decide +kernel
theorem d_151_89 : decode (mB 151) 89 = .ok (.ireturn, 1) := by decide +kernel
theorem d_151_90 : decode (mB 151) 90 = .ok (.aload_n 0, 1) := by decide +kernel
theorem d_151_91 : decode (mB 151) 91 = .ok (.getfield 98, 3) := by decide +kernel
theorem d_151_94 : decode (mB 151) 94 = .ok (.iload_n 2, 1) := by decide +kernel
theorem d_151_95 : decode (mB 151) 95 = .ok (.iconst 1, 1) := by decide +kernel
theorem d_151_96 : decode (mB 151) 96 = .ok (.bastore, 1) := by decide +kernel
theorem d_151_97 : decode (mB 151) 97 = .ok (.aload_n 0, 1) := by decide +kernel
theorem d_151_98 : decode (mB 151) 98 = .ok (.getfield 101, 3) := by decide +kernel
theorem d_151_101 : decode (mB 151) 101 = .ok (.iload_n 2, 1) := by decide +kernel
theorem d_151_102 : decode (mB 151) 102 = .ok (.aload_n 0, 1) := by decide +kernel
theorem d_151_103 : decode (mB 151) 103 = .ok (.getfield 125, 3) := by decide +kernel
theorem d_151_106 : decode (mB 151) 106 = .ok (.iload_n 1, 1) := by decide +kernel
theorem d_151_107 : decode (mB 151) 107 = .ok (.iaload, 1) := by decide +kernel
theorem d_151_108 : decode (mB 151) 108 = .ok (.iastore, 1) := by decide +kernel
theorem d_151_109 : decode (mB 151) 109 = .ok (.aload_n 0, 1) := by decide +kernel
theorem d_151_110 : decode (mB 151) 110 = .ok (.getfield 104, 3) := by decide +kernel
theorem d_151_113 : decode (mB 151) 113 = .ok (.iload_n 2, 1) := by decide +kernel
theorem d_151_114 : decode (mB 151) 114 = .ok (.aload_n 0, 1) := by decide +kernel
theorem d_151_115 : decode (mB 151) 115 = .ok (.getfield 128, 3) := by decide +kernel
theorem d_151_118 : decode (mB 151) 118 = .ok (.iload_n 1, 1) := by decide +kernel
theorem d_151_119 : decode (mB 151) 119 = .ok (.iaload, 1) := by decide +kernel
theorem d_151_120 : decode (mB 151) 120 = .ok (.iastore, 1) := by decide +kernel
theorem d_151_121 : decode (mB 151) 121 = .ok (.aload_n 0, 1) := by decide +kernel
theorem d_151_122 : decode (mB 151) 122 = .ok (.getfield 107, 3) := by decide +kernel
theorem d_151_125 : decode (mB 151) 125 = .ok (.iload_n 2, 1) := by decide +kernel
theorem d_151_126 : decode (mB 151) 126 = .ok (.aload_n 0, 1) := by decide +kernel
theorem d_151_127 : decode (mB 151) 127 = .ok (.getfield 131, 3) := by decide +kernel
theorem d_151_130 : decode (mB 151) 130 = .ok (.iload_n 1, 1) := by decide +kernel
theorem d_151_131 : decode (mB 151) 131 = .ok (.iaload, 1) := by decide +kernel
theorem d_151_132 : decode (mB 151) 132 = .ok (.iastore, 1) := by decide +kernel
theorem d_151_133 : decode (mB 151) 133 = .ok (.iconst 4, 1) := by decide +kernel
theorem d_151_134 : decode (mB 151) 134 = .ok (.ireturn, 1) := by decide +kernel
theorem d_152_0 : decode (mB 152) 0 = .ok (.aload_n 0, 1) := by decide +kernel
theorem d_152_1 : decode (mB 152) 1 = .ok (.iconst 0, 1) := by decide +kernel
theorem d_152_2 : decode (mB 152) 2 = .ok (.putfield 157, 3) := by decide +kernel
theorem d_152_5 : decode (mB 152) 5 = .ok (.aload_n 0, 1) := by decide +kernel
theorem d_152_6 : decode (mB 152) 6 = .ok (.iload_n 1, 1) := by decide +kernel
theorem d_152_7 : decode (mB 152) 7 = .ok (.invokevirtual 331, 3) := by decide +kernel
theorem d_152_10 : decode (mB 152) 10 = .ok (.ifCond .ne 5, 3) := by decide +kernel
theorem d_152_13 : decode (mB 152) 13 = .ok (.iconst 0, 1) := by decide +kernel
theorem d_152_14 : decode (mB 152) 14 = .ok (.ireturn, 1) := by decide +kernel
theorem d_152_15 : decode (mB 152) 15 = .ok (.aload_n 0, 1) := by decide +kernel
theorem d_152_16 : decode (mB 152) 16 = .ok (.getfield 110, 3) := by decide +kernel
theorem d_152_19 : decode (mB 152) 19 = .ok (.iload_n 1, 1) := by decide +kernel
theorem d_152_20 : decode (mB 152) 20 = .ok (.iconst (-1), 1) := by decide +kernel
theorem d_152_21 : decode (mB 152) 21 = .ok (.iastore, 1) := by decide +kernel
theorem d_152_22 : decode (mB 152) 22 = .ok (.iconst 1, 1) := by decide +kernel
theorem d_152_23 : decode (mB 152) 23 = .ok (.ireturn, 1) := by decide +kernel
theorem d_153_0 : decode (mB 153) 0 = .ok (.aload_n 0, 1) := by decide +kernel
theorem d_153_1 : decode (mB 153) 1 = .ok (.iconst 0, 1) := by decide +kernel
theorem d_153_2 : decode (mB 153) 2 = .ok (.putfield 157, 3) := by decide +kernel
theorem d_153_5 : decode (mB 153) 5 = .ok (.aload_n 0, 1) := by decide +kernel
theorem d_153_6 : decode (mB 153) 6 = .ok (.iload_n 1, 1) := by decide +kernel
theorem d_153_7 : decode (mB 153) 7 = .ok (.invokevirtual 331, 3) := by decide +kernel
theorem d_153_10 : decode (mB 153) 10 = .ok (.ifCond .ne 5, 3) := by decide +kernel
theorem d_153_13 : decode (mB 153) 13 = .ok (.iconst (-1), 1) := by decide +kernel
theorem d_153_14 : decode (mB 153) 14 = .ok (.ireturn, 1) := by decide +kernel
theorem d_153_15 : decode (mB 153) 15 = .ok (.aload_n 0, 1) := by decide +kernel
theorem d_153_16 : decode (mB 153) 16 = .ok (.invokevirtual 290, 3) := by decide +kernel
theorem d_153_19 : decode (mB 153) 19 = .ok (.istore_n 2, 1) := by decide +kernel
theorem d_153_20 : decode (mB 153) 20 = .ok (.iload_n 2, 1) := by decide +kernel
theorem d_153_21 : decode (mB 153) 21 = .ok (.iconst (-1), 1) := by decide +kernel
theorem d_153_22 : decode (mB 153) 22 = .ok (.if_icmp .ne 6, 3) := by decide +kernel
theorem d_153_25 : decode (mB 153) 25 = .ok (.bipush (-3), 2) := by decide +kernel
theorem d_153_27 : decode (mB 153) 27 = .ok (.ireturn, 1) := by decide +kernel
theorem d_153_28 : decode (mB 153) 28 = .ok (.aload_n 0, 1) := by decide +kernel
theorem d_153_29 : decode (mB 153) 29 = .ok (.getfield 110, 3) := by decide +kernel
theorem d_153_32 : decode (mB 153) 32 = .ok (.iload_n 2, 1) := by decide +kernel
theorem d_153_33 : decode (mB 153) 33 = .ok (.aload_n 0, 1) := by decide +kernel
theorem d_153_34 : decode (mB 153) 34 = .ok (.getfield 110, 3) := by decide +kernel
theorem d_153_37 : decode (mB 153) 37 = .ok (.iload_n 1, 1) := by decide +kernel
theorem d_153_38 : decode (mB 153) 38 = .ok (.iaload, 1) := by decide +kernel
theorem d_153_39 : decode (mB 153) 39 = .ok (.iastore, 1) := by decide +kernel
theorem d_153_40 : decode (mB 153) 40 = .ok (.aload_n 0, 1) := by decide +kernel
theorem d_153_41 : decode (mB 153) 41 = .ok (.getfield 113, 3) := by decide +kernel
theorem d_153_44 : decode (mB 153) 44 = .ok (.iload_n 2, 1) := by decide +kernel
theorem d_153_45 : decode (mB 153) 45 = .ok (.aload_n 0, 1) := by decide +kernel
theorem d_153_46 : decode (mB 153) 46 = .ok (.getfield 113, 3) := by decide +kernel
theorem d_153_49 : decode (mB 153) 49 = .ok (.iload_n 1, 1) := by decide +kernel
theorem d_153_50 : decode (mB 153) 50 = .ok (.iaload, 1) := by decide +kernel
theorem d_153_51 : decode (mB 153) 51 = .ok (.iastore, 1) := by decide +kernel
theorem d_153_52 : decode (mB 153) 52 = .ok (.aload_n 0, 1) := by decide +kernel
theorem d_153_53 : decode (mB 153) 53 = .ok (.getfield 116, 3) := by decide +kernel
theorem d_153_56 : decode (mB 153) 56 = .ok (.iload_n 2, 1) := by decide +kernel
theorem d_153_57 : decode (mB 153) 57 = .ok (.aload_n 0, 1) := by decide +kernel
theorem d_153_58 : decode (mB 153) 58 = .ok (.getfield 116, 3) := by decide +kernel
theorem d_153_61 : decode (mB 153) 61 = .ok (.iload_n 1, 1) := by decide +kernel
theorem d_153_62 : decode (mB 153) 62 = .ok (.iaload, 1) := by decide +kernel
theorem d_153_63 : decode (mB 153) 63 = .ok (.iastore, 1) := by decide +kernel
theorem d_153_64 : decode (mB 153) 64 = .ok (.aload_n 0, 1) := by decide +kernel
theorem d_153_65 : decode (mB 153) 65 = .ok (.getfield 119, 3) := by decide +kernel
theorem d_153_68 : decode (mB 153) 68 = .ok (.iload_n 2, 1) := by decide +kernel
theorem d_153_69 : decode (mB 153) 69 = .ok (.aload_n 0, 1) := by decide +kernel
theorem d_153_70 : decode (mB 153) 70 = .ok (.getfield 119, 3) := by decide +kernel
theorem d_153_73 : decode (mB 153) 73 = .ok (.iload_n 1, 1) := by decide +kernel
theorem d_153_74 : decode (mB 153) 74 = .ok (.iaload, 1) := by decide +kernel
theorem d_153_75 : decode (mB 153) 75 = .ok (.iastore, 1) := by decide +kernel
theorem d_153_76 : decode (mB 153) 76 = .ok (.aload_n 0, 1) := by decide +kernel
theorem d_153_77 : decode (mB 153) 77 = .ok (.getfield 122, 3) := by decide +kernel
theorem d_153_80 : decode (mB 153) 80 = .ok (.iload_n 2, 1) := by decide +kernel
theorem d_153_81 : decode (mB 153) 81 = .ok (.aload_n 0, 1) := by decide +kernel
theorem d_153_82 : decode (mB 153) 82 = .ok (.getfield 122, 3) := by decide +kernel
theorem d_153_85 : decode (mB 153) 85 = .ok (.iload_n 1, 1) := by decide +kernel
theorem d_153_86 : decode (mB 153) 86 = .ok (.iaload, 1) := by decide +kernel
theorem d_153_87 : decode (mB 153) 87 = .ok (.iastore, 1) := by decide +kernel
theorem d_153_88 : decode (mB 153) 88 = .ok (.aload_n 0, 1) := by decide +kernel
theorem d_153_89 : decode (mB 153) 89 = .ok (.getfield 125, 3) := by decide +kernel
theorem d_153_92 : decode (mB 153) 92 = .ok (.iload_n 2, 1) := by decide +kernel
theorem d_153_93 : decode (mB 153) 93 = .ok (.aload_n 0, 1) := by decide +kernel
theorem d_153_94 : decode (mB 153) 94 = .ok (.getfield 125, 3) := by decide +kernel
theorem d_153_97 : decode (mB 153) 97 = .ok (.iload_n 1, 1) := by decide +kernel
theorem d_153_98 : decode (mB 153) 98 = .ok (.iaload, 1) := by decide +kernel
theorem d_153_99 : decode (mB 153) 99 = .ok (.iastore, 1) := by decide +kernel
theorem d_153_100 : decode (mB 153) 100 = .ok (.aload_n 0, 1) := by decide +kernel
theorem d_153_101 : decode (mB 153) 101 = .ok (.getfield 128, 3) := by decide +kernel
theorem d_153_104 : decode (mB 153) 104 = .ok (.iload_n 2, 1) := by decide +kernel
theorem d_153_105 : decode (mB 153) 105 = .ok (.aload_n 0, 1) := by decide +kernel
theorem d_153_106 : decode (mB 153) 106 = .ok (.getfield 128, 3) := by decide +kernel
theorem d_153_109 : decode (mB 153) 109 = .ok (.iload_n 1, 1) := by decide +kernel
theorem d_153_110 : decode (mB 153) 110 = .ok (.iaload, 1) := by decide +kernel
theorem d_153_111 : decode (mB 153) 111 = .ok (.iastore, 1) := by decide +kernel
theorem d_153_112 : decode (mB 153) 112 = .ok (.aload_n 0, 1) := by decide +kernel
theorem d_153_113 : decode (mB 153) 113 = .ok (.getfield 131, 3) := by decide +kernel
theorem d_153_116 : decode (mB 153) 116 = .ok (.iload_n 2, 1) := by decide +kernel
theorem d_153_117 : decode (mB 153) 117 = .ok (.aload_n 0, 1) := by decide +kernel
theorem d_153_118 : decode (mB 153) 118 = .ok (.getfield 131, 3) := by decide +kernel
theorem d_153_121 : decode (mB 153) 121 = .ok (.iload_n 1, 1) := by decide +kernel
theorem d_153_122 : decode (mB 153) 122 = .ok (.iaload, 1) := by decide +kernel
theorem d_153_123 : decode (mB 153) 123 = .ok (.iastore, 1) := by decide +kernel
theorem d_153_124 : decode (mB 153) 124 = .ok (.iload_n 2, 1) := by decide +kernel
theorem d_153_125 : decode (mB 153) 125 = .ok (.ireturn, 1) := by decide +kernel
theorem d_154_0 : decode (mB 154) 0 = .ok (.aload_n 0, 1) := by decide +kernel
theorem d_154_1 : decode (mB 154) 1 = .ok (.aload_n 0, 1) := by decide +kernel
theorem d_154_2 : decode (mB 154) 2 = .ok (.iload_n 1, 1) := by decide +kernel
theorem d_154_3 : decode (mB 154) 3 = .ok (.invokevirtual 331, 3) := by decide +kernel
theorem d_154_6 : decode (mB 154) 6 = .ok (.ifCond .eq 16, 3) := by decide +kernel
theorem d_154_9 : decode (mB 154) 9 = .ok (.iload_n 2, 1) := by decide +kernel
theorem d_154_10 : decode (mB 154) 10 = .ok (.iconst 0, 1) := by decide +kernel
theorem d_154_11 : decode (mB 154) 11 = .ok (.iconst 5, 1) := by decide +kernel
theorem d_154_12 : decode (mB 154) 12 = .ok (.invokestatic 160, 3) := by decide +kernel
theorem d_154_15 : decode (mB 154) 15 = .ok (.ifCond .eq 7, 3) := by decide +kernel
theorem d_154_18 : decode (mB 154) 18 = .ok (.iconst 0, 1) := by decide +kernel
theorem d_154_19 : decode (mB 154) 19 = .ok (.goto 4, 3) := by decide +kernel
theorem d_154_22 : decode (mB 154) 22 = .ok (.iconst 1, 1) := by decide +kernel
theorem d_154_23 : decode (mB 154) 23 = .ok (.putfield 157, 3) := by decide +kernel
theorem d_154_26 : decode (mB 154) 26 = .ok (.aload_n 0, 1) := by decide +kernel
theorem d_154_27 : decode (mB 154) 27 = .ok (.getfield 157, 3) := by decide +kernel
theorem d_154_30 : decode (mB 154) 30 = .ok (.ifCond .le 5, 3) := by decide +kernel
theorem d_154_33 : decode (mB 154) 33 = .ok (.iconst 0, 1) := by decide +kernel
theorem d_154_34 : decode (mB 154) 34 = .ok (.ireturn, 1) := by decide +kernel
theorem d_154_35 : decode (mB 154) 35 = .ok (.iload_n 2, 1) := by decide +kernel
theorem d_154_36 : decode (mB 154) 36 = .ok (.tableswitch 98 0 4 #[36, 43, 50, 57, 77], 36) := by decide +kernel
theorem d_154_72 : decode (mB 154) 72 = .ok (.aload_n 0, 1) := by decide +kernel
theorem d_154_73 : decode (mB 154) 73 = .ok (.getfield 110, 3) := by decide +kernel
theorem d_154_76 : decode (mB 154) 76 = .ok (.iload_n 1, 1) := by decide +kernel
theorem d_154_77 : decode (mB 154) 77 = .ok (.iaload, 1) := by decide +kernel
theorem d_154_78 : decode (mB 154) 78 = .ok (.ireturn, 1) := by decide +kernel
theorem d_154_79 : decode (mB 154) 79 = .ok (.aload_n 0, 1) := by decide +kernel
theorem d_154_80 : decode (mB 154) 80 = .ok (.getfield 113, 3) := by decide +kernel
theorem d_154_83 : decode (mB 154) 83 = .ok (.iload_n 1, 1) := by decide +kernel
theorem d_154_84 : decode (mB 154) 84 = .ok (.iaload, 1) := by decide +kernel
theorem d_154_85 : decode (mB 154) 85 = .ok (.ireturn, 1) := by decide +kernel
theorem d_154_86 : decode (mB 154) 86 = .ok (.aload_n 0, 1) := by decide +kernel
theorem d_154_87 : decode (mB 154) 87 = .ok (.getfield 116, 3) := by decide +kernel
theorem d_154_90 : decode (mB 154) 90 = .ok (.iload_n 1, 1) := by decide +kernel
theorem d_154_91 : decode (mB 154) 91 = .ok (.iaload, 1) := by decide +kernel
theorem d_154_92 : decode (mB 154) 92 = .ok (.ireturn, 1) := by decide +kernel
theorem d_154_93 : decode (mB 154) 93 = .ok (.aload_n 0, 1) := by decide +kernel
theorem d_154_94 : decode (mB 154) 94 = .ok (.getfield 110, 3) := by decide +kernel
theorem d_154_97 : decode (mB 154) 97 = .ok (.iload_n 1, 1) := by decide +kernel
theorem d_154_98 : decode (mB 154) 98 = .ok (.iaload, 1) := by decide +kernel
theorem d_154_99 : decode (mB 154) 99 = .ok (.ifCond .ne 12, 3) := by decide +kernel
theorem d_154_102 : decode (mB 154) 102 = .ok (.aload_n 0, 1) := by decide +kernel
theorem d_154_103 : decode (mB 154) 103 = .ok (.getfield 119, 3) := by decide +kernel
theorem d_154_106 : decode (mB 154) 106 = .ok (.iload_n 1, 1) := by decide +kernel
theorem d_154_107 : decode (mB 154) 107 = .ok (.iaload, 1) := by decide +kernel
theorem d_154_108 : decode (mB 154) 108 = .ok (.goto 4, 3) := by decide +kernel
theorem d_154_111 : decode (mB 154) 111 = .ok (.iconst (-1), 1) := by decide +kernel
theorem d_154_112 : decode (mB 154) 112 = .ok (.ireturn, 1) := by decide +kernel
theorem d_154_113 : decode (mB 154) 113 = .ok (.aload_n 0, 1) := by decide +kernel
theorem d_154_114 : decode (mB 154) 114 = .ok (.getfield 110, 3) := by decide +kernel
theorem d_154_117 : decode (mB 154) 117 = .ok (.iload_n 1, 1) := by decide +kernel
theorem d_154_118 : decode (mB 154) 118 = .ok (.iaload, 1) := by decide +kernel
theorem d_154_119 : decode (mB 154) 119 = .ok (.iconst 1, 1) := by decide +kernel
theorem d_154_120 : decode (mB 154) 120 = .ok (.if_icmp .ne 12, 3) := by decide +kernel
theorem d_154_123 : decode (mB 154) 123 = .ok (.aload_n 0, 1) := by decide +kernel
theorem d_154_124 : decode (mB 154) 124 = .ok (.getfield 125, 3) := by decide +kernel
theorem d_154_127 : decode (mB 154) 127 = .ok (.iload_n 1, 1) := by decide +kernel
theorem d_154_128 : decode (mB 154) 128 = .ok (.iaload, 1) := by decide +kernel
theorem d_154_129 : decode (mB 154) 129 = .ok (.goto 4, 3) := by decide +kernel
theorem d_154_132 : decode (mB 154) 132 = .ok (.iconst (-1), 1) := by decide +kernel
theorem d_154_133 : decode (mB 154) 133 = .ok (.ireturn, 1) := by decide +kernel
theorem d_154_134 : decode (mB 154) 134 = .ok (.aload_n 0, 1) := by decide +kernel
theorem d_154_135 : decode (mB 154) 135 = .ok (.getfield 86, 3) := by decide +kernel
theorem d_154_138 : decode (mB 154) 138 = .ok (.bipush 40, 2) := by decide +kernel
theorem d_154_140 : decode (mB 154) 140 = .ok (.aload_n 0, 1) := by decide +kernel
theorem d_154_141 : decode (mB 154) 141 = .ok (.getfield 113, 3) := by decide +kernel
theorem d_154_144 : decode (mB 154) 144 = .ok (.iload_n 1, 1) := by decide +kernel
theorem d_154_145 : decode (mB 154) 145 = .ok (.iaload, 1) := by decide +kernel
theorem d_154_146 : decode (mB 154) 146 = .ok (.imul, 1) := by decide +kernel
theorem d_154_147 : decode (mB 154) 147 = .ok (.aload_n 0, 1) := by decide +kernel
theorem d_154_148 : decode (mB 154) 148 = .ok (.getfield 116, 3) := by decide +kernel
theorem d_154_151 : decode (mB 154) 151 = .ok (.iload_n 1, 1) := by decide +kernel
theorem d_154_152 : decode (mB 154) 152 = .ok (.iaload, 1) := by decide +kernel
theorem d_154_153 : decode (mB 154) 153 = .ok (.iadd, 1) := by decide +kernel
theorem d_154_154 : decode (mB 154) 154 = .ok (.iconst 1, 1) := by decide +kernel
theorem d_154_155 : decode (mB 154) 155 = .ok (.isub, 1) := by decide +kernel
theorem d_154_156 : decode (mB 154) 156 = .ok (.iaload, 1) := by decide +kernel
theorem d_154_157 : decode (mB 154) 157 = .ok (.ireturn, 1) := by decide +kernel
theorem d_155_0 : decode (mB 155) 0 = .ok (.aload_n 0, 1) := by decide +kernel
theorem d_155_1 : decode (mB 155) 1 = .ok (.iconst 0, 1) := by decide +kernel
theorem d_155_2 : decode (mB 155) 2 = .ok (.putfield 157, 3) := by decide +kernel
theorem d_155_5 : decode (mB 155) 5 = .ok (.iload_n 1, 1) := by decide +kernel
theorem d_155_6 : decode (mB 155) 6 = .ok (.iconst 0, 1) := by decide +kernel
theorem d_155_7 : decode (mB 155) 7 = .ok (.iconst 5, 1) := by decide +kernel
theorem d_155_8 : decode (mB 155) 8 = .ok (.invokestatic 160, 3) := by decide +kernel
theorem d_155_11 : decode (mB 155) 11 = .ok (.ifCond .eq 26, 3) := by decide +kernel
theorem d_155_14 : decode (mB 155) 14 = .ok (.iload_n 2, 1) := by decide +kernel
theorem d_155_15 : decode (mB 155) 15 = .ok (.iconst 1, 1) := by decide +kernel
theorem d_155_16 : decode (mB 155) 16 = .ok (.aload_n 0, 1) := by decide +kernel
theorem d_155_17 : decode (mB 155) 17 = .ok (.getfield 83, 3) := by decide +kernel
theorem d_155_20 : decode (mB 155) 20 = .ok (.iload_n 1, 1) := by decide +kernel
theorem d_155_21 : decode (mB 155) 21 = .ok (.iaload, 1) := by decide +kernel
theorem d_155_22 : decode (mB 155) 22 = .ok (.invokestatic 160, 3) := by decide +kernel
theorem d_155_25 : decode (mB 155) 25 = .ok (.ifCond .eq 12, 3) := by decide +kernel
theorem d_155_28 : decode (mB 155) 28 = .ok (.iload_n 3, 1) := by decide +kernel
theorem d_155_29 : decode (mB 155) 29 = .ok (.iconst 0, 1) := by decide +kernel
theorem d_155_30 : decode (mB 155) 30 = .ok (.iconst 2, 1) := by decide +kernel
theorem d_155_31 : decode (mB 155) 31 = .ok (.invokestatic 160, 3) := by decide +kernel
theorem d_155_34 : decode (mB 155) 34 = .ok (.ifCond .ne 7, 3) := by decide +kernel
theorem d_155_37 : decode (mB 155) 37 = .ok (.ldc_w 337, 3) := by decide +kernel
theorem d_155_40 : decode (mB 155) 40 = .ok (.ireturn, 1) := by decide +kernel
theorem d_155_41 : decode (mB 155) 41 = .ok (.bipush 40, 2) := by decide +kernel
theorem d_155_43 : decode (mB 155) 43 = .ok (.iload_n 1, 1) := by decide +kernel
theorem d_155_44 : decode (mB 155) 44 = .ok (.imul, 1) := by decide +kernel
theorem d_155_45 : decode (mB 155) 45 = .ok (.iload_n 2, 1) := by decide +kernel
theorem d_155_46 : decode (mB 155) 46 = .ok (.iadd, 1) := by decide +kernel
theorem d_155_47 : decode (mB 155) 47 = .ok (.iconst 1, 1) := by decide +kernel
theorem d_155_48 : decode (mB 155) 48 = .ok (.isub, 1) := by decide +kernel
theorem d_155_49 : decode (mB 155) 49 = .ok (.istore 4, 2) := by decide +kernel
theorem d_155_51 : decode (mB 155) 51 = .ok (.aload_n 0, 1) := by decide +kernel
theorem d_155_52 : decode (mB 155) 52 = .ok (.getfield 98, 3) := by decide +kernel
theorem d_155_55 : decode (mB 155) 55 = .ok (.iload 4, 2) := by decide +kernel
theorem d_155_57 : decode (mB 155) 57 = .ok (.baload, 1) := by decide +kernel
theorem d_155_58 : decode (mB 155) 58 = .ok (.ifCond .ne 7, 3) := by decide +kernel
theorem d_155_61 : decode (mB 155) 61 = .ok (.ldc_w 337, 3) := by decide +kernel
theorem d_155_64 : decode (mB 155) 64 = .ok (.ireturn, 1) := by decide +kernel
theorem d_155_65 : decode (mB 155) 65 = .ok (.iload_n 3, 1) := by decide +kernel
theorem d_155_66 : decode (mB 155) 66 = .ok (.ifCond .ne 13, 3) := by decide +kernel
theorem d_155_69 : decode (mB 155) 69 = .ok (.aload_n 0, 1) := by decide +kernel
theorem d_155_70 : decode (mB 155) 70 = .ok (.getfield 101, 3) := by decide +kernel
theorem d_155_73 : decode (mB 155) 73 = .ok (.iload 4, 2) := by decide +kernel
theorem d_155_75 : decode (mB 155) 75 = .ok (.iaload, 1) := by decide +kernel
theorem d_155_76 : decode (mB 155) 76 = .ok (.goto 25, 3) := by decide +kernel
theorem d_155_79 : decode (mB 155) 79 = .ok (.iload_n 3, 1) := by decide +kernel
theorem d_155_80 : decode (mB 155) 80 = .ok (.iconst 1, 1) := by decide +kernel
theorem d_155_81 : decode (mB 155) 81 = .ok (.if_icmp .ne 13, 3) := by decide +kernel
theorem d_155_84 : decode (mB 155) 84 = .ok (.aload_n 0, 1) := by decide +kernel
theorem d_155_85 : decode (mB 155) 85 = .ok (.getfield 104, 3) := by decide +kernel
theorem d_155_88 : decode (mB 155) 88 = .ok (.iload 4, 2) := by decide +kernel
theorem d_155_90 : decode (mB 155) 90 = .ok (.iaload, 1) := by decide +kernel
theorem d_155_91 : decode (mB 155) 91 = .ok (.goto 10, 3) := by decide +kernel
theorem d_155_94 : decode (mB 155) 94 = .ok (.aload_n 0, 1) := by decide +kernel
theorem d_155_95 : decode (mB 155) 95 = .ok (.getfield 107, 3) := by decide +kernel
theorem d_155_98 : decode (mB 155) 98 = .ok (.iload 4, 2) := by decide +kernel
theorem d_155_100 : decode (mB 155) 100 = .ok (.iaload, 1) := by decide +kernel
theorem d_155_101 : decode (mB 155) 101 = .ok (.ireturn, 1) := by decide +kernel
theorem d_156_0 : decode (mB 156) 0 = .ok (.aload_n 0, 1) := by decide +kernel
theorem d_156_1 : decode (mB 156) 1 = .ok (.iconst 0, 1) := by decide +kernel
theorem d_156_2 : decode (mB 156) 2 = .ok (.putfield 157, 3) := by decide +kernel
theorem d_156_5 : decode (mB 156) 5 = .ok (.iload_n 1, 1) := by decide +kernel
theorem d_156_6 : decode (mB 156) 6 = .ok (.iconst 0, 1) := by decide +kernel
theorem d_156_7 : decode (mB 156) 7 = .ok (.iconst 5, 1) := by decide +kernel
theorem d_156_8 : decode (mB 156) 8 = .ok (.invokestatic 160, 3) := by decide +kernel
theorem d_156_11 : decode (mB 156) 11 = .ok (.ifCond .eq 11, 3) := by decide +kernel
theorem d_156_14 : decode (mB 156) 14 = .ok (.aload_n 0, 1) := by decide +kernel
theorem d_156_15 : decode (mB 156) 15 = .ok (.iload_n 1, 1) := by decide +kernel
theorem d_156_16 : decode (mB 156) 16 = .ok (.invokevirtual 287, 3) := by decide +kernel
theorem d_156_19 : decode (mB 156) 19 = .ok (.goto 4, 3) := by decide +kernel
theorem d_156_22 : decode (mB 156) 22 = .ok (.iconst (-1), 1) := by decide +kernel
theorem d_156_23 : decode (mB 156) 23 = .ok (.ireturn, 1) := by decide +kernel
theorem d_157_0 : decode (mB 157) 0 = .ok (.aload_n 0, 1) := by decide +kernel
theorem d_157_1 : decode (mB 157) 1 = .ok (.iconst 0, 1) := by decide +kernel
theorem d_157_2 : decode (mB 157) 2 = .ok (.putfield 157, 3) := by decide +kernel
theorem d_157_5 : decode (mB 157) 5 = .ok (.aload_n 0, 1) := by decide +kernel
theorem d_157_6 : decode (mB 157) 6 = .ok (.iload_n 1, 1) := by decide +kernel
theorem d_157_7 : decode (mB 157) 7 = .ok (.invokevirtual 338, 3) := by decide +kernel
theorem d_157_10 : decode (mB 157) 10 = .ok (.ifCond .eq 13, 3) := by decide +kernel
theorem d_157_13 : decode (mB 157) 13 = .ok (.aload_n 0, 1) := by decide +kernel
theorem d_157_14 : decode (mB 157) 14 = .ok (.getfield 9, 3) := by decide +kernel
theorem d_157_17 : decode (mB 157) 17 = .ok (.iload_n 1, 1) := by decide +kernel
theorem d_157_18 : decode (mB 157) 18 = .ok (.iaload, 1) := by decide +kernel
theorem d_157_19 : decode (mB 157) 19 = .ok (.iconst 2, 1) := by decide +kernel
theorem d_157_20 : decode (mB 157) 20 = .ok (.if_icmp .ne 5, 3) := by decide +kernel
theorem d_157_23 : decode (mB 157) 23 = .ok (.iconst 0, 1) := by decide +kernel
theorem d_157_24 : decode (mB 157) 24 = .ok (.ireturn, 1) := by decide +kernel
theorem d_157_25 : decode (mB 157) 25 = .ok (.aload_n 0, 1) := by decide +kernel
theorem d_157_26 : decode (mB 157) 26 = .ok (.iload_n 1, 1) := by decide +kernel
theorem d_157_27 : decode (mB 157) 27 = .ok (.invokevirtual 319, 3) := by decide +kernel
theorem d_157_30 : decode (mB 157) 30 = .ok (.iconst 1, 1) := by decide +kernel
theorem d_157_31 : decode (mB 157) 31 = .ok (.ireturn, 1) := by decide +kernel
theorem d_158_0 : decode (mB 158) 0 = .ok (.aload_n 0, 1) := by decide +kernel
theorem d_158_1 : decode (mB 158) 1 = .ok (.iload_n 1, 1) := by decide +kernel
theorem d_158_2 : decode (mB 158) 2 = .ok (.invokevirtual 338, 3) := by decide +kernel
theorem d_158_5 : decode (mB 158) 5 = .ok (.ifCond .eq 13, 3) := by decide +kernel
theorem d_158_8 : decode (mB 158) 8 = .ok (.aload_n 0, 1) := by decide +kernel
theorem d_158_9 : decode (mB 158) 9 = .ok (.getfield 9, 3) := by decide +kernel
theorem d_158_12 : decode (mB 158) 12 = .ok (.iload_n 1, 1) := by decide +kernel
theorem d_158_13 : decode (mB 158) 13 = .ok (.iaload, 1) := by decide +kernel
theorem d_158_14 : decode (mB 158) 14 = .ok (.iload_n 2, 1) := by decide +kernel
theorem d_158_15 : decode (mB 158) 15 = .ok (.if_icmp .eq 5, 3) := by decide +kernel
theorem d_158_18 : decode (mB 158) 18 = .ok (.iconst 0, 1) := by decide +kernel
theorem d_158_19 : decode (mB 158) 19 = .ok (.ireturn, 1) := by decide +kernel
theorem d_158_20 : decode (mB 158) 20 = .ok (.aload_n 0, 1) := by decide +kernel
theorem d_158_21 : decode (mB 158) 21 = .ok (.getfield 9, 3) := by decide +kernel
theorem d_158_24 : decode (mB 158) 24 = .ok (.iload_n 1, 1) := by decide +kernel
theorem d_158_25 : decode (mB 158) 25 = .ok (.iload_n 3, 1) := by decide +kernel
theorem d_158_26 : decode (mB 158) 26 = .ok (.iastore, 1) := by decide +kernel
theorem d_158_27 : decode (mB 158) 27 = .ok (.iconst 1, 1) := by decide +kernel
theorem d_158_28 : decode (mB 158) 28 = .ok (.ireturn, 1) := by decide +kernel
theorem d_159_0 : decode (mB 159) 0 = .ok (.aload_n 0, 1) := by decide +kernel
theorem d_159_1 : decode (mB 159) 1 = .ok (.iconst 0, 1) := by decide +kernel
theorem d_159_2 : decode (mB 159) 2 = .ok (.putfield 157, 3) := by decide +kernel
theorem d_159_5 : decode (mB 159) 5 = .ok (.aload_n 0, 1) := by decide +kernel
theorem d_159_6 : decode (mB 159) 6 = .ok (.iload_n 1, 1) := by decide +kernel
theorem d_159_7 : decode (mB 159) 7 = .ok (.iconst 2, 1) := by decide +kernel
theorem d_159_8 : decode (mB 159) 8 = .ok (.iconst 0, 1) := by decide +kernel
theorem d_159_9 : decode (mB 159) 9 = .ok (.invokevirtual 341, 3) := by decide +kernel
theorem d_159_12 : decode (mB 159) 12 = .ok (.ireturn, 1) := by decide +kernel
theorem d_160_0 : decode (mB 160) 0 = .ok (.aload_n 0, 1) := by decide +kernel
theorem d_160_1 : decode (mB 160) 1 = .ok (.iconst 0, 1) := by decide +kernel
theorem d_160_2 : decode (mB 160) 2 = .ok (.putfield 157, 3) := by decide +kernel
theorem d_160_5 : decode (mB 160) 5 = .ok (.aload_n 0, 1) := by decide +kernel
theorem d_160_6 : decode (mB 160) 6 = .ok (.iload_n 1, 1) := by decide +kernel
theorem d_160_7 : decode (mB 160) 7 = .ok (.iconst 0, 1) := by decide +kernel
theorem d_160_8 : decode (mB 160) 8 = .ok (.iconst 1, 1) := by decide +kernel
theorem d_160_9 : decode (mB 160) 9 = .ok (.invokevirtual 341, 3) := by decide +kernel
theorem d_160_12 : decode (mB 160) 12 = .ok (.ireturn, 1) := by decide +kernel
theorem d_161_0 : decode (mB 161) 0 = .ok (.aload_n 0, 1) := by decide +kernel
theorem d_161_1 : decode (mB 161) 1 = .ok (.iconst 0, 1) := by decide +kernel
theorem d_161_2 : decode (mB 161) 2 = .ok (.putfield 157, 3) := by decide +kernel
theorem d_161_5 : decode (mB 161) 5 = .ok (.aload_n 0, 1) := by decide +kernel
theorem d_161_6 : decode (mB 161) 6 = .ok (.iload_n 1, 1) := by decide +kernel
theorem d_161_7 : decode (mB 161) 7 = .ok (.iconst 1, 1) := by decide +kernel
theorem d_161_8 : decode (mB 161) 8 = .ok (.iconst 0, 1) := by decide +kernel
theorem d_161_9 : decode (mB 161) 9 = .ok (.invokevirtual 341, 3) := by decide +kernel
theorem d_161_12 : decode (mB 161) 12 = .ok (.ireturn, 1) := by decide +kernel
theorem d_162_0 : decode (mB 162) 0 = .ok (.aload_n 0, 1) := by decide +kernel
theorem d_162_1 : decode (mB 162) 1 = .ok (.iconst 0, 1) := by decide +kernel
theorem d_162_2 : decode (mB 162) 2 = .ok (.putfield 157, 3) := by decide +kernel
theorem d_162_5 : decode (mB 162) 5 = .ok (.aload_n 0, 1) := by decide +kernel
theorem d_162_6 : decode (mB 162) 6 = .ok (.iload_n 1, 1) := by decide +kernel
theorem d_162_7 : decode (mB 162) 7 = .ok (.invokevirtual 338, 3) := by decide +kernel
theorem d_162_10 : decode (mB 162) 10 = .ok (.ifCond .eq 23, 3) := by decide +kernel
theorem d_162_13 : decode (mB 162) 13 = .ok (.aload_n 0, 1) := by decide +kernel
theorem d_162_14 : decode (mB 162) 14 = .ok (.iload_n 1, 1) := by decide +kernel
theorem d_162_15 : decode (mB 162) 15 = .ok (.invokevirtual 164, 3) := by decide +kernel
theorem d_162_18 : decode (mB 162) 18 = .ok (.ifCond .eq 15, 3) := by decide +kernel
theorem d_162_21 : decode (mB 162) 21 = .ok (.iload_n 2, 1) := by decide +kernel
theorem d_162_22 : decode (mB 162) 22 = .ok (.iconst (-1), 1) := by decide +kernel
theorem d_162_23 : decode (mB 162) 23 = .ok (.aload_n 0, 1) := by decide +kernel
theorem d_162_24 : decode (mB 162) 24 = .ok (.getfield 148, 3) := by decide +kernel
theorem d_162_27 : decode (mB 162) 27 = .ok (.invokestatic 160, 3) := by decide +kernel
theorem d_162_30 : decode (mB 162) 30 = .ok (.ifCond .ne 5, 3) := by decide +kernel
theorem d_162_33 : decode (mB 162) 33 = .ok (.iconst 0, 1) := by decide +kernel
theorem d_162_34 : decode (mB 162) 34 = .ok (.ireturn, 1) := by decide +kernel
theorem d_162_35 : decode (mB 162) 35 = .ok (.aload_n 0, 1) := by decide +kernel
theorem d_162_36 : decode (mB 162) 36 = .ok (.getfield 32, 3) := by decide +kernel
theorem d_162_39 : decode (mB 162) 39 = .ok (.iload_n 1, 1) := by decide +kernel
theorem d_162_40 : decode (mB 162) 40 = .ok (.iload_n 2, 1) := by decide +kernel
theorem d_162_41 : decode (mB 162) 41 = .ok (.iastore, 1) := by decide +kernel
theorem d_162_42 : decode (mB 162) 42 = .ok (.iconst 1, 1) := by decide +kernel
theorem d_162_43 : decode (mB 162) 43 = .ok (.ireturn, 1) := by decide +kernel
theorem d_163_0 : decode (mB 163) 0 = .ok (.aload_n 0, 1) := by decide +kernel
theorem d_163_1 : decode (mB 163) 1 = .ok (.iconst 0, 1) := by decide +kernel
theorem d_163_2 : decode (mB 163) 2 = .ok (.putfield 157, 3) := by decide +kernel
theorem d_163_5 : decode (mB 163) 5 = .ok (.aload_n 0, 1) := by decide +kernel
theorem d_163_6 : decode (mB 163) 6 = .ok (.iload_n 1, 1) := by decide +kernel
theorem d_163_7 : decode (mB 163) 7 = .ok (.putfield 242, 3) := by decide +kernel
theorem d_163_10 : decode (mB 163) 10 = .ok (.return_, 1) := by decide +kernel
theorem d_164_0 : decode (mB 164) 0 = .ok (.aload_n 0, 1) := by decide +kernel
theorem d_164_1 : decode (mB 164) 1 = .ok (.iload_n 2, 1) := by decide +kernel
theorem d_164_2 : decode (mB 164) 2 = .ok (.invokevirtual 255, 3) := by decide +kernel
theorem d_164_5 : decode (mB 164) 5 = .ok (.aload_n 0, 1) := by decide +kernel
theorem d_164_6 : decode (mB 164) 6 = .ok (.getfield 148, 3) := by decide +kernel
theorem d_164_9 : decode (mB 164) 9 = .ok (.if_icmp .lt 5, 3) := by decide +kernel
theorem d_164_12 : decode (mB 164) 12 = .ok (.iconst 0, 1) := by decide +kernel
theorem d_164_13 : decode (mB 164) 13 = .ok (.ireturn, 1) := by decide +kernel
theorem d_164_14 : decode (mB 164) 14 = .ok (.iconst 0, 1) := by decide +kernel
theorem d_164_15 : decode (mB 164) 15 = .ok (.istore_n 3, 1) := by decide +kernel
theorem d_164_16 : decode (mB 164) 16 = .ok (.iload_n 3, 1) := by decide +kernel
theorem d_164_17 : decode (mB 164) 17 = .ok (.aload_n 0, 1) := by decide +kernel
theorem d_164_18 : decode (mB 164) 18 = .ok (.getfield 144, 3) := by decide +kernel
theorem d_164_21 : decode (mB 164) 21 = .ok (.iconst 1, 1) := by decide +kernel
theorem d_164_22 : decode (mB 164) 22 = .ok (.isub, 1) := by decide +kernel
theorem d_164_23 : decode (mB 164) 23 = .ok (.if_icmp .ge 64, 3) := by decide +kernel
theorem d_164_26 : decode (mB 164) 26 = .ok (.aload_n 0, 1) := by decide +kernel
theorem d_164_27 : decode (mB 164) 27 = .ok (.aload_n 0, 1) := by decide +kernel
theorem d_164_28 : decode (mB 164) 28 = .ok (.getfield 41, 3) := by decide +kernel
theorem d_164_31 : decode (mB 164) 31 = .ok (.iload_n 2, 1) := by decide +kernel
theorem d_164_32 : decode (mB 164) 32 = .ok (.iaload, 1) := by decide +kernel
theorem d_164_33 : decode (mB 164) 33 = .ok (.iload_n 1, 1) := by decide +kernel
theorem d_164_34 : decode (mB 164) 34 = .ok (.iload_n 3, 1) := by decide +kernel
theorem d_164_35 : decode (mB 164) 35 = .ok (.invokevirtual 186, 3) := by decide +kernel
theorem d_164_38 : decode (mB 164) 38 = .ok (.istore 4, 2) := by decide +kernel
theorem d_164_40 : decode (mB 164) 40 = .ok (.aload_n 0, 1) := by decide +kernel
theorem d_164_41 : decode (mB 164) 41 = .ok (.iload 4, 2) := by decide +kernel
theorem d_164_43 : decode (mB 164) 43 = .ok (.invokevirtual 164, 3) := by decide +kernel
theorem d_164_46 : decode (mB 164) 46 = .ok (.ifCond .eq 35, 3) := by decide +kernel
theorem d_164_49 : decode (mB 164) 49 = .ok (.aload_n 0, 1) := by decide +kernel
theorem d_164_50 : decode (mB 164) 50 = .ok (.iload_n 2, 1) := by decide +kernel
theorem d_164_51 : decode (mB 164) 51 = .ok (.iload 4, 2) := by decide +kernel
theorem d_164_53 : decode (mB 164) 53 = .ok (.invokevirtual 344, 3) := by decide +kernel
theorem d_164_56 : decode (mB 164) 56 = .ok (.ifCond .eq 6, 3) := by decide +kernel
theorem d_164_59 : decode (mB 164) 59 = .ok (.goto 22, 3) := by decide +kernel
theorem d_164_62 : decode (mB 164) 62 = .ok (.aload_n 0, 1) := by decide +kernel
theorem d_164_63 : decode (mB 164) 63 = .ok (.iload_n 2, 1) := by decide +kernel
theorem d_164_64 : decode (mB 164) 64 = .ok (.iload 4, 2) := by decide +kernel
theorem d_164_66 : decode (mB 164) 66 = .ok (.invokevirtual 189, 3) := by decide +kernel
theorem d_164_69 : decode (mB 164) 69 = .ok (.aload_n 0, 1) := by decide +kernel
theorem d_164_70 : decode (mB 164) 70 = .ok (.dup, 1) := by decide +kernel
theorem d_164_71 : decode (mB 164) 71 = .ok (.getfield 347, 3) := by decide +kernel
theorem d_164_74 : decode (mB 164) 74 = .ok (.iconst 1, 1) := by decide +kernel
theorem d_164_75 : decode (mB 164) 75 = .ok (.iadd, 1) := by decide +kernel
theorem d_164_76 : decode (mB 164) 76 = .ok (.putfield 347, 3) := by decide +kernel
theorem d_164_79 : decode (mB 164) 79 = .ok (.iconst 1, 1) := by decide +kernel
theorem d_164_80 : decode (mB 164) 80 = .ok (.ireturn, 1) := by decide +kernel
theorem d_164_81 : decode (mB 164) 81 = .ok (.iinc 3 1, 3) := by decide +kernel
theorem d_164_84 : decode (mB 164) 84 = .ok (.goto (-68), 3) := by decide +kernel
theorem d_164_87 : decode (mB 164) 87 = .ok (.iconst 0, 1) := by decide +kernel
theorem d_164_88 : decode (mB 164) 88 = .ok (.ireturn, 1) := by decide +kernel
theorem d_165_0 : decode (mB 165) 0 = .ok (.aload_n 0, 1) := by decide +kernel
theorem d_165_1 : decode (mB 165) 1 = .ok (.iload_n 1, 1) := by decide +kernel
theorem d_165_2 : decode (mB 165) 2 = .ok (.invokevirtual 164, 3) := by decide +kernel
theorem d_165_5 : decode (mB 165) 5 = .ok (.ifCond .ne 4, 3) := by decide +kernel
theorem d_165_8 : decode (mB 165) 8 = .ok (.return_, 1) := by decide +kernel
theorem d_165_9 : decode (mB 165) 9 = .ok (.aload_n 0, 1) := by decide +kernel
theorem d_165_10 : decode (mB 165) 10 = .ok (.getfield 13, 3) := by decide +kernel
theorem d_165_13 : decode (mB 165) 13 = .ok (.iload_n 1, 1) := by decide +kernel
theorem d_165_14 : decode (mB 165) 14 = .ok (.baload, 1) := by decide +kernel
theorem d_165_15 : decode (mB 165) 15 = .ok (.ifCond .eq 9, 3) := by decide +kernel
theorem d_165_18 : decode (mB 165) 18 = .ok (.aload_n 0, 1) := by decide +kernel
theorem d_165_19 : decode (mB 165) 19 = .ok (.iload_n 1, 1) := by decide +kernel
theorem d_165_20 : decode (mB 165) 20 = .ok (.invokevirtual 322, 3) := by decide +kernel
theorem d_165_23 : decode (mB 165) 23 = .ok (.return_, 1) := by decide +kernel
theorem d_165_24 : decode (mB 165) 24 = .ok (.aload_n 0, 1) := by decide +kernel
theorem d_165_25 : decode (mB 165) 25 = .ok (.iload_n 1, 1) := by decide +kernel
theorem d_165_26 : decode (mB 165) 26 = .ok (.invokevirtual 258, 3) := by decide +kernel
theorem d_165_29 : decode (mB 165) 29 = .ok (.ifCond .ne 10, 3) := by decide +kernel
theorem d_165_32 : decode (mB 165) 32 = .ok (.aload_n 0, 1) := by decide +kernel
theorem d_165_33 : decode (mB 165) 33 = .ok (.getfield 26, 3) := by decide +kernel
theorem d_165_36 : decode (mB 165) 36 = .ok (.iload_n 1, 1) := by decide +kernel
theorem d_165_37 : decode (mB 165) 37 = .ok (.iconst (-1), 1) := by decide +kernel
theorem d_165_38 : decode (mB 165) 38 = .ok (.iastore, 1) := by decide +kernel
theorem d_165_39 : decode (mB 165) 39 = .ok (.aload_n 0, 1) := by decide +kernel
theorem d_165_40 : decode (mB 165) 40 = .ok (.iload_n 1, 1) := by decide +kernel
theorem d_165_41 : decode (mB 165) 41 = .ok (.iconst (-1), 1) := by decide +kernel
theorem d_165_42 : decode (mB 165) 42 = .ok (.invokevirtual 222, 3) := by decide +kernel
theorem d_165_45 : decode (mB 165) 45 = .ok (.istore_n 2, 1) := by decide +kernel
theorem d_165_46 : decode (mB 165) 46 = .ok (.iload_n 2, 1) := by decide +kernel
theorem d_165_47 : decode (mB 165) 47 = .ok (.iconst (-1), 1) := by decide +kernel
theorem d_165_48 : decode (mB 165) 48 = .ok (.if_icmp .eq 27, 3) := by decide +kernel
theorem d_165_51 : decode (mB 165) 51 = .ok (.aload_n 0, 1) := by decide +kernel
theorem d_165_52 : decode (mB 165) 52 = .ok (.iload_n 1, 1) := by decide +kernel
theorem d_165_53 : decode (mB 165) 53 = .ok (.iload_n 2, 1) := by decide +kernel
theorem d_165_54 : decode (mB 165) 54 = .ok (.invokevirtual 350, 3) := by decide +kernel
theorem d_165_57 : decode (mB 165) 57 = .ok (.ifCond .ne 18, 3) := by decide +kernel
theorem d_165_60 : decode (mB 165) 60 = .ok (.aload_n 0, 1) := by decide +kernel
theorem d_165_61 : decode (mB 165) 61 = .ok (.iload_n 1, 1) := by decide +kernel
theorem d_165_62 : decode (mB 165) 62 = .ok (.aload_n 0, 1) := by decide +kernel
theorem d_165_63 : decode (mB 165) 63 = .ok (.getfield 41, 3) := by decide +kernel
theorem d_165_66 : decode (mB 165) 66 = .ok (.iload_n 2, 1) := by decide +kernel
theorem d_165_67 : decode (mB 165) 67 = .ok (.iaload, 1) := by decide +kernel
theorem d_165_68 : decode (mB 165) 68 = .ok (.invokevirtual 222, 3) := by decide +kernel
theorem d_165_71 : decode (mB 165) 71 = .ok (.istore_n 2, 1) := by decide +kernel
theorem d_165_72 : decode (mB 165) 72 = .ok (.goto (-26), 3) := by decide +kernel
theorem d_165_75 : decode (mB 165) 75 = .ok (.return_, 1) := by decide +kernel
theorem d_166_0 : decode (mB 166) 0 = .ok (.iconst 0, 1) := by decide +kernel
theorem d_166_1 : decode (mB 166) 1 = .ok (.istore_n 1, 1) := by decide +kernel
theorem d_166_2 : decode (mB 166) 2 = .ok (.iload_n 1, 1) := by decide +kernel
theorem d_166_3 : decode (mB 166) 3 = .ok (.bipush 16, 2) := by decide +kernel
theorem d_166_5 : decode (mB 166) 5 = .ok (.if_icmp .ge 59, 3) := by decide +kernel
theorem d_166_8 : decode (mB 166) 8 = .ok (.iconst 1, 1) := by decide +kernel
theorem d_166_9 : decode (mB 166) 9 = .ok (.istore_n 2, 1) := by decide +kernel
theorem d_166_10 : decode (mB 166) 10 = .ok (.iconst 0, 1) := by decide +kernel
theorem d_166_11 : decode (mB 166) 11 = .ok (.istore_n 3, 1) := by decide +kernel
theorem d_166_12 : decode (mB 166) 12 = .ok (.iload_n 3, 1) := by decide +kernel
theorem d_166_13 : decode (mB 166) 13 = .ok (.aload_n 0, 1) := by decide +kernel
theorem d_166_14 : decode (mB 166) 14 = .ok (.getfield 353, 3) := by decide +kernel
theorem d_166_17 : decode (mB 166) 17 = .ok (.if_icmp .ge 32, 3) := by decide +kernel
theorem d_166_20 : decode (mB 166) 20 = .ok (.iload_n 2, 1) := by decide +kernel
theorem d_166_21 : decode (mB 166) 21 = .ok (.ifCond .eq 20, 3) := by decide +kernel
theorem d_166_24 : decode (mB 166) 24 = .ok (.aload_n 0, 1) := by decide +kernel
theorem d_166_25 : decode (mB 166) 25 = .ok (.getfield 134, 3) := by decide +kernel
theorem d_166_28 : decode (mB 166) 28 = .ok (.iload_n 3, 1) := by decide +kernel
theorem d_166_29 : decode (mB 166) 29 = .ok (.iaload, 1) := by decide +kernel
theorem d_166_30 : decode (mB 166) 30 = .ok (.bipush 16, 2) := by decide +kernel
theorem d_166_32 : decode (mB 166) 32 = .ok (.iload_n 1, 1) := by decide +kernel
theorem d_166_33 : decode (mB 166) 33 = .ok (.iadd, 1) := by decide +kernel
theorem d_166_34 : decode (mB 166) 34 = .ok (.if_icmp .eq 7, 3) := by decide +kernel
theorem d_166_37 : decode (mB 166) 37 = .ok (.iconst 1, 1) := by decide +kernel
theorem d_166_38 : decode (mB 166) 38 = .ok (.goto 4, 3) := by decide +kernel
theorem d_166_41 : decode (mB 166) 41 = .ok (.iconst 0, 1) := by decide +kernel
theorem d_166_42 : decode (mB 166) 42 = .ok (.istore_n 2, 1) := by decide +kernel
theorem d_166_43 : decode (mB 166) 43 = .ok (.iinc 3 1, 3) := by decide +kernel
theorem d_166_46 : decode (mB 166) 46 = .ok (.goto (-34), 3) := by decide +kernel
theorem d_166_49 : decode (mB 166) 49 = .ok (.iload_n 2, 1) := by decide +kernel
theorem d_166_50 : decode (mB 166) 50 = .ok (.ifCond .eq 8, 3) := by decide +kernel
theorem d_166_53 : decode (mB 166) 53 = .ok (.bipush 16, 2) := by decide +kernel
theorem d_166_55 : decode (mB 166) 55 = .ok (.iload_n 1, 1) := by decide +kernel
theorem d_166_56 : decode (mB 166) 56 = .ok (.iadd, 1) := by decide +kernel
theorem d_166_57 : decode (mB 166) 57 = .ok (.ireturn, 1) := by decide +kernel
theorem d_166_58 : decode (mB 166) 58 = .ok (.iinc 1 1, 3) := by decide +kernel
theorem d_166_61 : decode (mB 166) 61 = .ok (.goto (-59), 3) := by decide +kernel
theorem d_166_64 : decode (mB 166) 64 = .ok (.iconst (-1), 1) := by decide +kernel
theorem d_166_65 : decode (mB 166) 65 = .ok (.ireturn, 1) := by decide +kernel
theorem d_167_0 : decode (mB 167) 0 = .ok (.aload_n 0, 1) := by decide +kernel
theorem d_167_1 : decode (mB 167) 1 = .ok (.getfield 29, 3) := by decide +kernel
theorem d_167_4 : decode (mB 167) 4 = .ok (.iload_n 1, 1) := by decide +kernel
theorem d_167_5 : decode (mB 167) 5 = .ok (.aload_n 0, 1) := by decide +kernel
theorem d_167_6 : decode (mB 167) 6 = .ok (.iload_n 1, 1) := by decide +kernel
theorem d_167_7 : decode (mB 167) 7 = .ok (.invokevirtual 164, 3) := by decide +kernel
theorem d_167_10 : decode (mB 167) 10 = .ok (.ifCond .eq 7, 3) := by decide +kernel
theorem d_167_13 : decode (mB 167) 13 = .ok (.iconst 0, 1) := by decide +kernel
theorem d_167_14 : decode (mB 167) 14 = .ok (.goto 11, 3) := by decide +kernel
theorem d_167_17 : decode (mB 167) 17 = .ok (.aload_n 0, 1) := by decide +kernel
theorem d_167_18 : decode (mB 167) 18 = .ok (.getfield 29, 3) := by decide +kernel
theorem d_167_21 : decode (mB 167) 21 = .ok (.iload_n 1, 1) := by decide +kernel
theorem d_167_22 : decode (mB 167) 22 = .ok (.iaload, 1) := by decide +kernel
theorem d_167_23 : decode (mB 167) 23 = .ok (.iconst 1, 1) := by decide +kernel
theorem d_167_24 : decode (mB 167) 24 = .ok (.iadd, 1) := by decide +kernel
theorem d_167_25 : decode (mB 167) 25 = .ok (.iastore, 1) := by decide +kernel
theorem d_167_26 : decode (mB 167) 26 = .ok (.aload_n 0, 1) := by decide +kernel
theorem d_167_27 : decode (mB 167) 27 = .ok (.iload_n 1, 1) := by decide +kernel
theorem d_167_28 : decode (mB 167) 28 = .ok (.invokevirtual 278, 3) := by decide +kernel
theorem d_167_31 : decode (mB 167) 31 = .ok (.ifCond .eq 39, 3) := by decide +kernel
theorem d_167_34 : decode (mB 167) 34 = .ok (.aload_n 0, 1) := by decide +kernel
theorem d_167_35 : decode (mB 167) 35 = .ok (.getfield 29, 3) := by decide +kernel
theorem d_167_38 : decode (mB 167) 38 = .ok (.iload_n 1, 1) := by decide +kernel
theorem d_167_39 : decode (mB 167) 39 = .ok (.iaload, 1) := by decide +kernel
theorem d_167_40 : decode (mB 167) 40 = .ok (.iconst 3, 1) := by decide +kernel
theorem d_167_41 : decode (mB 167) 41 = .ok (.if_icmp .ge 20, 3) := by decide +kernel
theorem d_167_44 : decode (mB 167) 44 = .ok (.aload_n 0, 1) := by decide +kernel
theorem d_167_45 : decode (mB 167) 45 = .ok (.iload_n 1, 1) := by decide +kernel
theorem d_167_46 : decode (mB 167) 46 = .ok (.invokevirtual 164, 3) := by decide +kernel
theorem d_167_49 : decode (mB 167) 49 = .ok (.ifCond .eq 21, 3) := by decide +kernel
theorem d_167_52 : decode (mB 167) 52 = .ok (.aload_n 0, 1) := by decide +kernel
theorem d_167_53 : decode (mB 167) 53 = .ok (.getfield 20, 3) := by decide +kernel
theorem d_167_56 : decode (mB 167) 56 = .ok (.iload_n 1, 1) := by decide +kernel
theorem d_167_57 : decode (mB 167) 57 = .ok (.baload, 1) := by decide +kernel
theorem d_167_58 : decode (mB 167) 58 = .ok (.ifCond .eq 12, 3) := by decide +kernel
theorem d_167_61 : decode (mB 167) 61 = .ok (.aload_n 0, 1) := by decide +kernel
theorem d_167_62 : decode (mB 167) 62 = .ok (.getfield 353, 3) := by decide +kernel
theorem d_167_65 : decode (mB 167) 65 = .ok (.bipush 16, 2) := by decide +kernel
theorem d_167_67 : decode (mB 167) 67 = .ok (.if_icmp .ne 4, 3) := by decide +kernel
theorem d_167_70 : decode (mB 167) 70 = .ok (.return_, 1) := by decide +kernel
theorem d_167_71 : decode (mB 167) 71 = .ok (.aload_n 0, 1) := by decide +kernel
theorem d_167_72 : decode (mB 167) 72 = .ok (.invokevirtual 356, 3) := by decide +kernel
theorem d_167_75 : decode (mB 167) 75 = .ok (.istore_n 2, 1) := by decide +kernel
theorem d_167_76 : decode (mB 167) 76 = .ok (.aload_n 0, 1) := by decide +kernel
theorem d_167_77 : decode (mB 167) 77 = .ok (.getfield 20, 3) := by decide +kernel
theorem d_167_80 : decode (mB 167) 80 = .ok (.iload_n 1, 1) := by decide +kernel
theorem d_167_81 : decode (mB 167) 81 = .ok (.baload, 1) := by decide +kernel
theorem d_167_82 : decode (mB 167) 82 = .ok (.ifCond .eq 10, 3) := by decide +kernel
theorem d_167_85 : decode (mB 167) 85 = .ok (.bipush 8, 2) := by decide +kernel
theorem d_167_87 : decode (mB 167) 87 = .ok (.iload_n 1, 1) := by decide +kernel
theorem d_167_88 : decode (mB 167) 88 = .ok (.iadd, 1) := by decide +kernel
theorem d_167_89 : decode (mB 167) 89 = .ok (.goto 4, 3) := by decide +kernel
theorem d_167_92 : decode (mB 167) 92 = .ok (.iload_n 1, 1) := by decide +kernel
theorem d_167_93 : decode (mB 167) 93 = .ok (.istore_n 3, 1) := by decide +kernel
theorem d_167_94 : decode (mB 167) 94 = .ok (.aload_n 0, 1) := by decide +kernel
theorem d_167_95 : decode (mB 167) 95 = .ok (.getfield 134, 3) := by decide +kernel
theorem d_167_98 : decode (mB 167) 98 = .ok (.aload_n 0, 1) := by decide +kernel
theorem d_167_99 : decode (mB 167) 99 = .ok (.getfield 353, 3) := by decide +kernel
theorem d_167_102 : decode (mB 167) 102 = .ok (.iload_n 2, 1) := by decide +kernel
theorem d_167_103 : decode (mB 167) 103 = .ok (.iastore, 1) := by decide +kernel
theorem d_167_104 : decode (mB 167) 104 = .ok (.iconst 0, 1) := by decide +kernel
theorem d_167_105 : decode (mB 167) 105 = .ok (.istore 4, 2) := by decide +kernel
theorem d_167_107 : decode (mB 167) 107 = .ok (.iload 4, 2) := by decide +kernel
theorem d_167_109 : decode (mB 167) 109 = .ok (.bipush 8, 2) := by decide +kernel
theorem d_167_111 : decode (mB 167) 111 = .ok (.if_icmp .ge 59, 3) := by decide +kernel
theorem d_167_114 : decode (mB 167) 114 = .ok (.aload_n 0, 1) := by decide +kernel
theorem d_167_115 : decode (mB 167) 115 = .ok (.getfield 137, 3) := by decide +kernel
theorem d_167_118 : decode (mB 167) 118 = .ok (.bipush 8, 2) := by decide +kernel
theorem d_167_120 : decode (mB 167) 120 = .ok (.aload_n 0, 1) := by decide +kernel
theorem d_167_121 : decode (mB 167) 121 = .ok (.getfield 353, 3) := by decide +kernel
theorem d_167_124 : decode (mB 167) 124 = .ok (.imul, 1) := by decide +kernel
theorem d_167_125 : decode (mB 167) 125 = .ok (.iload 4, 2) := by decide +kernel
theorem d_167_127 : decode (mB 167) 127 = .ok (.iadd, 1) := by decide +kernel
theorem d_167_128 : decode (mB 167) 128 = .ok (.aload_n 0, 1) := by decide +kernel
theorem d_167_129 : decode (mB 167) 129 = .ok (.getfield 35, 3) := by decide +kernel
theorem d_167_132 : decode (mB 167) 132 = .ok (.iload 4, 2) := by decide +kernel
theorem d_167_134 : decode (mB 167) 134 = .ok (.iaload, 1) := by decide +kernel
theorem d_167_135 : decode (mB 167) 135 = .ok (.iload_n 1, 1) := by decide +kernel
theorem d_167_136 : decode (mB 167) 136 = .ok (.if_icmp .ne 7, 3) := by decide +kernel
theorem d_167_139 : decode (mB 167) 139 = .ok (.iconst 1, 1) := by decide +kernel
theorem d_167_140 : decode (mB 167) 140 = .ok (.goto 4, 3) := by decide +kernel
theorem d_167_143 : decode (mB 167) 143 = .ok (.iconst 0, 1) := by decide +kernel
theorem d_167_144 : decode (mB 167) 144 = .ok (.bastore, 1) := by decide +kernel
theorem d_167_145 : decode (mB 167) 145 = .ok (.aload_n 0, 1) := by decide +kernel
theorem d_167_146 : decode (mB 167) 146 = .ok (.getfield 35, 3) := by decide +kernel
theorem d_167_149 : decode (mB 167) 149 = .ok (.iload 4, 2) := by decide +kernel
theorem d_167_151 : decode (mB 167) 151 = .ok (.iaload, 1) := by decide +kernel
theorem d_167_152 : decode (mB 167) 152 = .ok (.iload_n 1, 1) := by decide +kernel
theorem d_167_153 : decode (mB 167) 153 = .ok (.if_icmp .ne 11, 3) := by decide +kernel
theorem d_167_156 : decode (mB 167) 156 = .ok (.aload_n 0, 1) := by decide +kernel
theorem d_167_157 : decode (mB 167) 157 = .ok (.getfield 35, 3) := by decide +kernel
theorem d_167_160 : decode (mB 167) 160 = .ok (.iload 4, 2) := by decide +kernel
theorem d_167_162 : decode (mB 167) 162 = .ok (.iconst (-1), 1) := by decide +kernel
theorem d_167_163 : decode (mB 167) 163 = .ok (.iastore, 1) := by decide +kernel
theorem d_167_164 : decode (mB 167) 164 = .ok (.iinc 4 1, 3) := by decide +kernel
theorem d_167_167 : decode (mB 167) 167 = .ok (.goto (-60), 3) := by decide +kernel
theorem d_167_170 : decode (mB 167) 170 = .ok (.iconst 0, 1) := by decide +kernel
theorem d_167_171 : decode (mB 167) 171 = .ok (.istore 4, 2) := by decide +kernel
theorem d_167_173 : decode (mB 167) 173 = .ok (.iload 4, 2) := by decide +kernel
theorem d_167_175 : decode (mB 167) 175 = .ok (.aload_n 0, 1) := by decide +kernel
theorem d_167_176 : decode (mB 167) 176 = .ok (.getfield 180, 3) := by decide +kernel
theorem d_167_179 : decode (mB 167) 179 = .ok (.if_icmp .ge 28, 3) := by decide +kernel
theorem d_167_182 : decode (mB 167) 182 = .ok (.aload_n 0, 1) := by decide +kernel
theorem d_167_183 : decode (mB 167) 183 = .ok (.getfield 38, 3) := by decide +kernel
theorem d_167_186 : decode (mB 167) 186 = .ok (.iload 4, 2) := by decide +kernel
theorem d_167_188 : decode (mB 167) 188 = .ok (.iaload, 1) := by decide +kernel
theorem d_167_189 : decode (mB 167) 189 = .ok (.iload_n 3, 1) := by decide +kernel
theorem d_167_190 : decode (mB 167) 190 = .ok (.if_icmp .ne 11, 3) := by decide +kernel
theorem d_167_193 : decode (mB 167) 193 = .ok (.aload_n 0, 1) := by decide +kernel
theorem d_167_194 : decode (mB 167) 194 = .ok (.getfield 38, 3) := by decide +kernel
theorem d_167_197 : decode (mB 167) 197 = .ok (.iload 4, 2) := by decide +kernel
theorem d_167_199 : decode (mB 167) 199 = .ok (.iload_n 2, 1) := by decide +kernel
theorem d_167_200 : decode (mB 167) 200 = .ok (.iastore, 1) := by decide +kernel
theorem d_167_201 : decode (mB 167) 201 = .ok (.iinc 4 1, 3) := by decide +kernel
theorem d_167_204 : decode (mB 167) 204 = .ok (.goto (-31), 3) := by decide +kernel
theorem d_167_207 : decode (mB 167) 207 = .ok (.aload_n 0, 1) := by decide +kernel
theorem d_167_208 : decode (mB 167) 208 = .ok (.getfield 20, 3) := by decide +kernel
theorem d_167_211 : decode (mB 167) 211 = .ok (.iload_n 1, 1) := by decide +kernel
theorem d_167_212 : decode (mB 167) 212 = .ok (.baload, 1) := by decide +kernel
theorem d_167_213 : decode (mB 167) 213 = .ok (.ifCond .ne 17, 3) := by decide +kernel
theorem d_167_216 : decode (mB 167) 216 = .ok (.aload_n 0, 1) := by decide +kernel
theorem d_167_217 : decode (mB 167) 217 = .ok (.getfield 13, 3) := by decide +kernel
theorem d_167_220 : decode (mB 167) 220 = .ok (.iload_n 1, 1) := by decide +kernel
theorem d_167_221 : decode (mB 167) 221 = .ok (.iconst 1, 1) := by decide +kernel
theorem d_167_222 : decode (mB 167) 222 = .ok (.bastore, 1) := by decide +kernel
theorem d_167_223 : decode (mB 167) 223 = .ok (.aload_n 0, 1) := by decide +kernel
theorem d_167_224 : decode (mB 167) 224 = .ok (.getfield 26, 3) := by decide +kernel
theorem d_167_227 : decode (mB 167) 227 = .ok (.iload_n 1, 1) := by decide +kernel
theorem d_167_228 : decode (mB 167) 228 = .ok (.iconst (-1), 1) := by decide +kernel
theorem d_167_229 : decode (mB 167) 229 = .ok (.iastore, 1) := by decide +kernel
theorem d_167_230 : decode (mB 167) 230 = .ok (.aload_n 0, 1) := by decide +kernel
theorem d_167_231 : decode (mB 167) 231 = .ok (.getfield 20, 3) := by decide +kernel
theorem d_167_234 : decode (mB 167) 234 = .ok (.iload_n 1, 1) := by decide +kernel
theorem d_167_235 : decode (mB 167) 235 = .ok (.iconst 0, 1) := by decide +kernel
theorem d_167_236 : decode (mB 167) 236 = .ok (.bastore, 1) := by decide +kernel
theorem d_167_237 : decode (mB 167) 237 = .ok (.aload_n 0, 1) := by decide +kernel
theorem d_167_238 : decode (mB 167) 238 = .ok (.dup, 1) := by decide +kernel
theorem d_167_239 : decode (mB 167) 239 = .ok (.getfield 353, 3) := by decide +kernel
theorem d_167_242 : decode (mB 167) 242 = .ok (.iconst 1, 1) := by decide +kernel
theorem d_167_243 : decode (mB 167) 243 = .ok (.iadd, 1) := by decide +kernel
theorem d_167_244 : decode (mB 167) 244 = .ok (.putfield 353, 3) := by decide +kernel
theorem d_167_247 : decode (mB 167) 247 = .ok (.aload_n 0, 1) := by decide +kernel
theorem d_167_248 : decode (mB 167) 248 = .ok (.dup, 1) := by decide +kernel
theorem d_167_249 : decode (mB 167) 249 = .ok (.getfield 359, 3) := by decide +kernel
theorem d_167_252 : decode (mB 167) 252 = .ok (.iconst 1, 1) := by decide +kernel
theorem d_167_253 : decode (mB 167) 253 = .ok (.iadd, 1) := by decide +kernel
theorem d_167_254 : decode (mB 167) 254 = .ok (.putfield 359, 3) := by decide +kernel
theorem d_167_257 : decode (mB 167) 257 = .ok (.return_, 1) := by decide +kernel
