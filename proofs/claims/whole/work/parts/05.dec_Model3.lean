/-! decode rows of Model (by program) -/
theorem d_Model_spread_30 : decode b_Model_spread 30 = .ok (.iaload, 1) := by decide +kernel
theorem d_Model_spread_31 : decode b_Model_spread 31 = .ok (.aload_n 0, 1) := by decide +kernel
theorem d_Model_spread_32 : decode b_Model_spread 32 = .ok (.getfield 179, 3) := by decide +kernel
theorem d_Model_spread_35 : decode b_Model_spread 35 = .ok (.if_icmp .ne 44, 3) := by decide +kernel
theorem d_Model_spread_38 : decode b_Model_spread 38 = .ok (.iload_n 3, 1) := by decide +kernel
theorem d_Model_spread_39 : decode b_Model_spread 39 = .ok (.i2l, 1) := by decide +kernel
theorem d_Model_spread_40 : decode b_Model_spread 40 = .ok (.aload_n 0, 1) := by decide +kernel
theorem d_Model_spread_41 : decode b_Model_spread 41 = .ok (.getfield 65, 3) := by decide +kernel
theorem d_Model_spread_44 : decode b_Model_spread 44 = .ok (.iload 5, 2) := by decide +kernel
theorem d_Model_spread_46 : decode b_Model_spread 46 = .ok (.iaload, 1) := by decide +kernel
theorem d_Model_spread_47 : decode b_Model_spread 47 = .ok (.i2l, 1) := by decide +kernel
theorem d_Model_spread_48 : decode b_Model_spread 48 = .ok (.lmul, 1) := by decide +kernel
theorem d_Model_spread_49 : decode b_Model_spread 49 = .ok (.iload_n 2, 1) := by decide +kernel
theorem d_Model_spread_50 : decode b_Model_spread 50 = .ok (.i2l, 1) := by decide +kernel
theorem d_Model_spread_51 : decode b_Model_spread 51 = .ok (.ldiv, 1) := by decide +kernel
theorem d_Model_spread_52 : decode b_Model_spread 52 = .ok (.l2i, 1) := by decide +kernel
theorem d_Model_spread_53 : decode b_Model_spread 53 = .ok (.istore 6, 2) := by decide +kernel
theorem d_Model_spread_55 : decode b_Model_spread 55 = .ok (.aload_n 0, 1) := by decide +kernel
theorem d_Model_spread_56 : decode b_Model_spread 56 = .ok (.getfield 95, 3) := by decide +kernel
theorem d_Model_spread_59 : decode b_Model_spread 59 = .ok (.iload 5, 2) := by decide +kernel
theorem d_Model_spread_61 : decode b_Model_spread 61 = .ok (.aload_n 0, 1) := by decide +kernel
theorem d_Model_spread_62 : decode b_Model_spread 62 = .ok (.getfield 65, 3) := by decide +kernel
theorem d_Model_spread_65 : decode b_Model_spread 65 = .ok (.iload 5, 2) := by decide +kernel
theorem d_Model_spread_67 : decode b_Model_spread 67 = .ok (.iaload, 1) := by decide +kernel
theorem d_Model_spread_68 : decode b_Model_spread 68 = .ok (.iload 6, 2) := by decide +kernel
theorem d_Model_spread_70 : decode b_Model_spread 70 = .ok (.isub, 1) := by decide +kernel
theorem d_Model_spread_71 : decode b_Model_spread 71 = .ok (.iastore, 1) := by decide +kernel
theorem d_Model_spread_72 : decode b_Model_spread 72 = .ok (.iload 4, 2) := by decide +kernel
theorem d_Model_spread_74 : decode b_Model_spread 74 = .ok (.iload 6, 2) := by decide +kernel
theorem d_Model_spread_76 : decode b_Model_spread 76 = .ok (.isub, 1) := by decide +kernel
theorem d_Model_spread_77 : decode b_Model_spread 77 = .ok (.istore 4, 2) := by decide +kernel
theorem d_Model_spread_79 : decode b_Model_spread 79 = .ok (.iinc 5 1, 3) := by decide +kernel
theorem d_Model_spread_82 : decode b_Model_spread 82 = .ok (.goto (-67), 3) := by decide +kernel
theorem d_Model_spread_85 : decode b_Model_spread 85 = .ok (.iconst 0, 1) := by decide +kernel
theorem d_Model_spread_86 : decode b_Model_spread 86 = .ok (.istore 5, 2) := by decide +kernel
theorem d_Model_spread_88 : decode b_Model_spread 88 = .ok (.iload 5, 2) := by decide +kernel
theorem d_Model_spread_90 : decode b_Model_spread 90 = .ok (.iload 4, 2) := by decide +kernel
theorem d_Model_spread_92 : decode b_Model_spread 92 = .ok (.if_icmp .ge 141, 3) := by decide +kernel
theorem d_Model_spread_95 : decode b_Model_spread 95 = .ok (.iconst (-1), 1) := by decide +kernel
theorem d_Model_spread_96 : decode b_Model_spread 96 = .ok (.istore 6, 2) := by decide +kernel
theorem d_Model_spread_98 : decode b_Model_spread 98 = .ok (.iconst 0, 1) := by decide +kernel
theorem d_Model_spread_99 : decode b_Model_spread 99 = .ok (.istore 7, 2) := by decide +kernel
theorem d_Model_spread_101 : decode b_Model_spread 101 = .ok (.iload 7, 2) := by decide +kernel
theorem d_Model_spread_103 : decode b_Model_spread 103 = .ok (.aload_n 0, 1) := by decide +kernel
theorem d_Model_spread_104 : decode b_Model_spread 104 = .ok (.getfield 141, 3) := by decide +kernel
theorem d_Model_spread_107 : decode b_Model_spread 107 = .ok (.if_icmp .ge 109, 3) := by decide +kernel
theorem d_Model_spread_110 : decode b_Model_spread 110 = .ok (.aload_n 0, 1) := by decide +kernel
theorem d_Model_spread_111 : decode b_Model_spread 111 = .ok (.getfield 92, 3) := by decide +kernel
theorem d_Model_spread_114 : decode b_Model_spread 114 = .ok (.iload 7, 2) := by decide +kernel
theorem d_Model_spread_116 : decode b_Model_spread 116 = .ok (.iaload, 1) := by decide +kernel
theorem d_Model_spread_117 : decode b_Model_spread 117 = .ok (.aload_n 0, 1) := by decide +kernel
theorem d_Model_spread_118 : decode b_Model_spread 118 = .ok (.getfield 179, 3) := by decide +kernel
theorem d_Model_spread_121 : decode b_Model_spread 121 = .ok (.if_icmp .ne 40, 3) := by decide +kernel
theorem d_Model_spread_124 : decode b_Model_spread 124 = .ok (.aload_n 0, 1) := by decide +kernel
theorem d_Model_spread_125 : decode b_Model_spread 125 = .ok (.getfield 65, 3) := by decide +kernel
theorem d_Model_spread_128 : decode b_Model_spread 128 = .ok (.iload 7, 2) := by decide +kernel
theorem d_Model_spread_130 : decode b_Model_spread 130 = .ok (.iaload, 1) := by decide +kernel
theorem d_Model_spread_131 : decode b_Model_spread 131 = .ok (.aload_n 0, 1) := by decide +kernel
theorem d_Model_spread_132 : decode b_Model_spread 132 = .ok (.getfield 95, 3) := by decide +kernel
theorem d_Model_spread_135 : decode b_Model_spread 135 = .ok (.iload 7, 2) := by decide +kernel
theorem d_Model_spread_137 : decode b_Model_spread 137 = .ok (.iaload, 1) := by decide +kernel
theorem d_Model_spread_138 : decode b_Model_spread 138 = .ok (.isub, 1) := by decide +kernel
theorem d_Model_spread_139 : decode b_Model_spread 139 = .ok (.iload_n 3, 1) := by decide +kernel
theorem d_Model_spread_140 : decode b_Model_spread 140 = .ok (.i2l, 1) := by decide +kernel
theorem d_Model_spread_141 : decode b_Model_spread 141 = .ok (.aload_n 0, 1) := by decide +kernel
theorem d_Model_spread_142 : decode b_Model_spread 142 = .ok (.getfield 65, 3) := by decide +kernel
theorem d_Model_spread_145 : decode b_Model_spread 145 = .ok (.iload 7, 2) := by decide +kernel
theorem d_Model_spread_147 : decode b_Model_spread 147 = .ok (.iaload, 1) := by decide +kernel
theorem d_Model_spread_148 : decode b_Model_spread 148 = .ok (.i2l, 1) := by decide +kernel
theorem d_Model_spread_149 : decode b_Model_spread 149 = .ok (.lmul, 1) := by decide +kernel
theorem d_Model_spread_150 : decode b_Model_spread 150 = .ok (.iload_n 2, 1) := by decide +kernel
theorem d_Model_spread_151 : decode b_Model_spread 151 = .ok (.i2l, 1) := by decide +kernel
theorem d_Model_spread_152 : decode b_Model_spread 152 = .ok (.ldiv, 1) := by decide +kernel
theorem d_Model_spread_153 : decode b_Model_spread 153 = .ok (.l2i, 1) := by decide +kernel
theorem d_Model_spread_154 : decode b_Model_spread 154 = .ok (.if_icmp .ne 7, 3) := by decide +kernel
theorem d_Model_spread_157 : decode b_Model_spread 157 = .ok (.iconst 1, 1) := by decide +kernel
theorem d_Model_spread_158 : decode b_Model_spread 158 = .ok (.goto 4, 3) := by decide +kernel
theorem d_Model_spread_161 : decode b_Model_spread 161 = .ok (.iconst 0, 1) := by decide +kernel
theorem d_Model_spread_162 : decode b_Model_spread 162 = .ok (.istore 8, 2) := by decide +kernel
theorem d_Model_spread_164 : decode b_Model_spread 164 = .ok (.iload 8, 2) := by decide +kernel
theorem d_Model_spread_166 : decode b_Model_spread 166 = .ok (.ifCond .eq 44, 3) := by decide +kernel
theorem d_Model_spread_169 : decode b_Model_spread 169 = .ok (.iload 6, 2) := by decide +kernel
theorem d_Model_spread_171 : decode b_Model_spread 171 = .ok (.ifCond .lt 35, 3) := by decide +kernel
theorem d_Model_spread_174 : decode b_Model_spread 174 = .ok (.iload_n 3, 1) := by decide +kernel
theorem d_Model_spread_175 : decode b_Model_spread 175 = .ok (.i2l, 1) := by decide +kernel
theorem d_Model_spread_176 : decode b_Model_spread 176 = .ok (.aload_n 0, 1) := by decide +kernel
theorem d_Model_spread_177 : decode b_Model_spread 177 = .ok (.getfield 65, 3) := by decide +kernel
theorem d_Model_spread_180 : decode b_Model_spread 180 = .ok (.iload 7, 2) := by decide +kernel
theorem d_Model_spread_182 : decode b_Model_spread 182 = .ok (.iaload, 1) := by decide +kernel
theorem d_Model_spread_183 : decode b_Model_spread 183 = .ok (.i2l, 1) := by decide +kernel
theorem d_Model_spread_184 : decode b_Model_spread 184 = .ok (.lmul, 1) := by decide +kernel
theorem d_Model_spread_185 : decode b_Model_spread 185 = .ok (.iload_n 2, 1) := by decide +kernel
theorem d_Model_spread_186 : decode b_Model_spread 186 = .ok (.i2l, 1) := by decide +kernel
theorem d_Model_spread_187 : decode b_Model_spread 187 = .ok (.lrem, 1) := by decide +kernel
theorem d_Model_spread_188 : decode b_Model_spread 188 = .ok (.iload_n 3, 1) := by decide +kernel
theorem d_Model_spread_189 : decode b_Model_spread 189 = .ok (.i2l, 1) := by decide +kernel
theorem d_Model_spread_190 : decode b_Model_spread 190 = .ok (.aload_n 0, 1) := by decide +kernel
theorem d_Model_spread_191 : decode b_Model_spread 191 = .ok (.getfield 65, 3) := by decide +kernel
theorem d_Model_spread_194 : decode b_Model_spread 194 = .ok (.iload 6, 2) := by decide +kernel
theorem d_Model_spread_196 : decode b_Model_spread 196 = .ok (.iaload, 1) := by decide +kernel
theorem d_Model_spread_197 : decode b_Model_spread 197 = .ok (.i2l, 1) := by decide +kernel
theorem d_Model_spread_198 : decode b_Model_spread 198 = .ok (.lmul, 1) := by decide +kernel
theorem d_Model_spread_199 : decode b_Model_spread 199 = .ok (.iload_n 2, 1) := by decide +kernel
theorem d_Model_spread_200 : decode b_Model_spread 200 = .ok (.i2l, 1) := by decide +kernel
theorem d_Model_spread_201 : decode b_Model_spread 201 = .ok (.lrem, 1) := by decide +kernel
theorem d_Model_spread_202 : decode b_Model_spread 202 = .ok (.lcmp, 1) := by decide +kernel
theorem d_Model_spread_203 : decode b_Model_spread 203 = .ok (.ifCond .le 7, 3) := by decide +kernel
theorem d_Model_spread_206 : decode b_Model_spread 206 = .ok (.iload 7, 2) := by decide +kernel
theorem d_Model_spread_208 : decode b_Model_spread 208 = .ok (.istore 6, 2) := by decide +kernel
theorem d_Model_spread_210 : decode b_Model_spread 210 = .ok (.iinc 7 1, 3) := by decide +kernel
theorem d_Model_spread_213 : decode b_Model_spread 213 = .ok (.goto (-112), 3) := by decide +kernel
theorem d_Model_spread_216 : decode b_Model_spread 216 = .ok (.aload_n 0, 1) := by decide +kernel
theorem d_Model_spread_217 : decode b_Model_spread 217 = .ok (.getfield 95, 3) := by decide +kernel
theorem d_Model_spread_220 : decode b_Model_spread 220 = .ok (.iload 6, 2) := by decide +kernel
theorem d_Model_spread_222 : decode b_Model_spread 222 = .ok (.dup2, 1) := by decide +kernel
theorem d_Model_spread_223 : decode b_Model_spread 223 = .ok (.iaload, 1) := by decide +kernel
theorem d_Model_spread_224 : decode b_Model_spread 224 = .ok (.iconst 1, 1) := by decide +kernel
theorem d_Model_spread_225 : decode b_Model_spread 225 = .ok (.isub, 1) := by decide +kernel
theorem d_Model_spread_226 : decode b_Model_spread 226 = .ok (.iastore, 1) := by decide +kernel
theorem d_Model_spread_227 : decode b_Model_spread 227 = .ok (.iinc 5 1, 3) := by decide +kernel
theorem d_Model_spread_230 : decode b_Model_spread 230 = .ok (.goto (-142), 3) := by decide +kernel
theorem d_Model_spread_233 : decode b_Model_spread 233 = .ok (.return_, 1) := by decide +kernel
theorem d_Model_findUse_0 : decode b_Model_findUse 0 = .ok (.iconst 0, 1) := by decide +kernel
theorem d_Model_findUse_1 : decode b_Model_findUse 1 = .ok (.istore_n 3, 1) := by decide +kernel
theorem d_Model_findUse_2 : decode b_Model_findUse 2 = .ok (.iload_n 3, 1) := by decide +kernel
theorem d_Model_findUse_3 : decode b_Model_findUse 3 = .ok (.bipush 6, 2) := by decide +kernel
theorem d_Model_findUse_5 : decode b_Model_findUse 5 = .ok (.if_icmp .ge 74, 3) := by decide +kernel
theorem d_Model_findUse_8 : decode b_Model_findUse 8 = .ok (.aload_n 0, 1) := by decide +kernel
theorem d_Model_findUse_9 : decode b_Model_findUse 9 = .ok (.bipush 6, 2) := by decide +kernel
theorem d_Model_findUse_11 : decode b_Model_findUse 11 = .ok (.aload_n 0, 1) := by decide +kernel
theorem d_Model_findUse_12 : decode b_Model_findUse 12 = .ok (.getfield 122, 3) := by decide +kernel
theorem d_Model_findUse_15 : decode b_Model_findUse 15 = .ok (.imul, 1) := by decide +kernel
theorem d_Model_findUse_16 : decode b_Model_findUse 16 = .ok (.iload_n 3, 1) := by decide +kernel
theorem d_Model_findUse_17 : decode b_Model_findUse 17 = .ok (.iadd, 1) := by decide +kernel
theorem d_Model_findUse_18 : decode b_Model_findUse 18 = .ok (.invokevirtual 155, 3) := by decide +kernel
theorem d_Model_findUse_21 : decode b_Model_findUse 21 = .ok (.aload_n 0, 1) := by decide +kernel
theorem d_Model_findUse_22 : decode b_Model_findUse 22 = .ok (.iload_n 3, 1) := by decide +kernel
theorem d_Model_findUse_23 : decode b_Model_findUse 23 = .ok (.invokevirtual 158, 3) := by decide +kernel
theorem d_Model_findUse_26 : decode b_Model_findUse 26 = .ok (.ifCond .eq 47, 3) := by decide +kernel
theorem d_Model_findUse_29 : decode b_Model_findUse 29 = .ok (.aload_n 0, 1) := by decide +kernel
theorem d_Model_findUse_30 : decode b_Model_findUse 30 = .ok (.iload_n 2, 1) := by decide +kernel
theorem d_Model_findUse_31 : decode b_Model_findUse 31 = .ok (.invokevirtual 185, 3) := by decide +kernel
theorem d_Model_findUse_34 : decode b_Model_findUse 34 = .ok (.ifCond .eq (-13), 3) := by decide +kernel
theorem d_Model_findUse_37 : decode b_Model_findUse 37 = .ok (.aload_n 0, 1) := by decide +kernel
theorem d_Model_findUse_38 : decode b_Model_findUse 38 = .ok (.bipush 6, 2) := by decide +kernel
theorem d_Model_findUse_40 : decode b_Model_findUse 40 = .ok (.aload_n 0, 1) := by decide +kernel
theorem d_Model_findUse_41 : decode b_Model_findUse 41 = .ok (.getfield 122, 3) := by decide +kernel
theorem d_Model_findUse_44 : decode b_Model_findUse 44 = .ok (.imul, 1) := by decide +kernel
theorem d_Model_findUse_45 : decode b_Model_findUse 45 = .ok (.iload_n 3, 1) := by decide +kernel
theorem d_Model_findUse_46 : decode b_Model_findUse 46 = .ok (.iadd, 1) := by decide +kernel
theorem d_Model_findUse_47 : decode b_Model_findUse 47 = .ok (.invokevirtual 164, 3) := by decide +kernel
theorem d_Model_findUse_50 : decode b_Model_findUse 50 = .ok (.aload_n 0, 1) := by decide +kernel
theorem d_Model_findUse_51 : decode b_Model_findUse 51 = .ok (.getfield 83, 3) := by decide +kernel
theorem d_Model_findUse_54 : decode b_Model_findUse 54 = .ok (.aload_n 0, 1) := by decide +kernel
theorem d_Model_findUse_55 : decode b_Model_findUse 55 = .ok (.iload_n 1, 1) := by decide +kernel
theorem d_Model_findUse_56 : decode b_Model_findUse 56 = .ok (.iload_n 3, 1) := by decide +kernel
theorem d_Model_findUse_57 : decode b_Model_findUse 57 = .ok (.invokevirtual 161, 3) := by decide +kernel
theorem d_Model_findUse_60 : decode b_Model_findUse 60 = .ok (.iaload, 1) := by decide +kernel
theorem d_Model_findUse_61 : decode b_Model_findUse 61 = .ok (.iadd, 1) := by decide +kernel
theorem d_Model_findUse_62 : decode b_Model_findUse 62 = .ok (.aload_n 0, 1) := by decide +kernel
theorem d_Model_findUse_63 : decode b_Model_findUse 63 = .ok (.getfield 83, 3) := by decide +kernel
theorem d_Model_findUse_66 : decode b_Model_findUse 66 = .ok (.iload_n 1, 1) := by decide +kernel
theorem d_Model_findUse_67 : decode b_Model_findUse 67 = .ok (.iaload, 1) := by decide +kernel
theorem d_Model_findUse_68 : decode b_Model_findUse 68 = .ok (.if_icmp .ne (-47), 3) := by decide +kernel
theorem d_Model_findUse_71 : decode b_Model_findUse 71 = .ok (.iload_n 3, 1) := by decide +kernel
theorem d_Model_findUse_72 : decode b_Model_findUse 72 = .ok (.ireturn, 1) := by decide +kernel
theorem d_Model_findUse_73 : decode b_Model_findUse 73 = .ok (.iinc 3 1, 3) := by decide +kernel
theorem d_Model_findUse_76 : decode b_Model_findUse 76 = .ok (.goto (-74), 3) := by decide +kernel
theorem d_Model_findUse_79 : decode b_Model_findUse 79 = .ok (.iconst (-1), 1) := by decide +kernel
theorem d_Model_findUse_80 : decode b_Model_findUse 80 = .ok (.ireturn, 1) := by decide +kernel
theorem d_Model_plan_0 : decode b_Model_plan 0 = .ok (.aload_n 0, 1) := by decide +kernel
theorem d_Model_plan_1 : decode b_Model_plan 1 = .ok (.invokevirtual 170, 3) := by decide +kernel
theorem d_Model_plan_4 : decode b_Model_plan 4 = .ok (.aload_n 0, 1) := by decide +kernel
theorem d_Model_plan_5 : decode b_Model_plan 5 = .ok (.iconst 0, 1) := by decide +kernel
theorem d_Model_plan_6 : decode b_Model_plan 6 = .ok (.putfield 179, 3) := by decide +kernel
theorem d_Model_plan_9 : decode b_Model_plan 9 = .ok (.iconst 0, 1) := by decide +kernel
theorem d_Model_plan_10 : decode b_Model_plan 10 = .ok (.istore_n 1, 1) := by decide +kernel
theorem d_Model_plan_11 : decode b_Model_plan 11 = .ok (.iload_n 1, 1) := by decide +kernel
theorem d_Model_plan_12 : decode b_Model_plan 12 = .ok (.aload_n 0, 1) := by decide +kernel
theorem d_Model_plan_13 : decode b_Model_plan 13 = .ok (.getfield 141, 3) := by decide +kernel
theorem d_Model_plan_16 : decode b_Model_plan 16 = .ok (.if_icmp .ge 42, 3) := by decide +kernel
theorem d_Model_plan_19 : decode b_Model_plan 19 = .ok (.aload_n 0, 1) := by decide +kernel
theorem d_Model_plan_20 : decode b_Model_plan 20 = .ok (.getfield 98, 3) := by decide +kernel
theorem d_Model_plan_23 : decode b_Model_plan 23 = .ok (.iload_n 1, 1) := by decide +kernel
theorem d_Model_plan_24 : decode b_Model_plan 24 = .ok (.iconst 0, 1) := by decide +kernel
theorem d_Model_plan_25 : decode b_Model_plan 25 = .ok (.bastore, 1) := by decide +kernel
theorem d_Model_plan_26 : decode b_Model_plan 26 = .ok (.aload_n 0, 1) := by decide +kernel
theorem d_Model_plan_27 : decode b_Model_plan 27 = .ok (.getfield 89, 3) := by decide +kernel
theorem d_Model_plan_30 : decode b_Model_plan 30 = .ok (.iload_n 1, 1) := by decide +kernel
theorem d_Model_plan_31 : decode b_Model_plan 31 = .ok (.iconst (-1), 1) := by decide +kernel
theorem d_Model_plan_32 : decode b_Model_plan 32 = .ok (.iastore, 1) := by decide +kernel
theorem d_Model_plan_33 : decode b_Model_plan 33 = .ok (.aload_n 0, 1) := by decide +kernel
theorem d_Model_plan_34 : decode b_Model_plan 34 = .ok (.getfield 92, 3) := by decide +kernel
theorem d_Model_plan_37 : decode b_Model_plan 37 = .ok (.iload_n 1, 1) := by decide +kernel
theorem d_Model_plan_38 : decode b_Model_plan 38 = .ok (.iconst (-1), 1) := by decide +kernel
theorem d_Model_plan_39 : decode b_Model_plan 39 = .ok (.iastore, 1) := by decide +kernel
theorem d_Model_plan_40 : decode b_Model_plan 40 = .ok (.aload_n 0, 1) := by decide +kernel
theorem d_Model_plan_41 : decode b_Model_plan 41 = .ok (.getfield 95, 3) := by decide +kernel
theorem d_Model_plan_44 : decode b_Model_plan 44 = .ok (.iload_n 1, 1) := by decide +kernel
theorem d_Model_plan_45 : decode b_Model_plan 45 = .ok (.aload_n 0, 1) := by decide +kernel
theorem d_Model_plan_46 : decode b_Model_plan 46 = .ok (.getfield 65, 3) := by decide +kernel
theorem d_Model_plan_49 : decode b_Model_plan 49 = .ok (.iload_n 1, 1) := by decide +kernel
theorem d_Model_plan_50 : decode b_Model_plan 50 = .ok (.iaload, 1) := by decide +kernel
theorem d_Model_plan_51 : decode b_Model_plan 51 = .ok (.iastore, 1) := by decide +kernel
theorem d_Model_plan_52 : decode b_Model_plan 52 = .ok (.iinc 1 1, 3) := by decide +kernel
theorem d_Model_plan_55 : decode b_Model_plan 55 = .ok (.goto (-44), 3) := by decide +kernel
theorem d_Model_plan_58 : decode b_Model_plan 58 = .ok (.aload_n 0, 1) := by decide +kernel
theorem d_Model_plan_59 : decode b_Model_plan 59 = .ok (.getfield 138, 3) := by decide +kernel
theorem d_Model_plan_62 : decode b_Model_plan 62 = .ok (.iconst 1, 1) := by decide +kernel
theorem d_Model_plan_63 : decode b_Model_plan 63 = .ok (.isub, 1) := by decide +kernel
theorem d_Model_plan_64 : decode b_Model_plan 64 = .ok (.istore_n 1, 1) := by decide +kernel
theorem d_Model_plan_65 : decode b_Model_plan 65 = .ok (.iconst 0, 1) := by decide +kernel
theorem d_Model_plan_66 : decode b_Model_plan 66 = .ok (.istore_n 2, 1) := by decide +kernel
theorem d_Model_plan_67 : decode b_Model_plan 67 = .ok (.iload_n 2, 1) := by decide +kernel
theorem d_Model_plan_68 : decode b_Model_plan 68 = .ok (.bipush 10, 2) := by decide +kernel
theorem d_Model_plan_70 : decode b_Model_plan 70 = .ok (.if_icmp .ge 118, 3) := by decide +kernel
theorem d_Model_plan_73 : decode b_Model_plan 73 = .ok (.aload_n 0, 1) := by decide +kernel
theorem d_Model_plan_74 : decode b_Model_plan 74 = .ok (.iload_n 1, 1) := by decide +kernel
theorem d_Model_plan_75 : decode b_Model_plan 75 = .ok (.invokevirtual 151, 3) := by decide +kernel
theorem d_Model_plan_78 : decode b_Model_plan 78 = .ok (.iconst 0, 1) := by decide +kernel
theorem d_Model_plan_79 : decode b_Model_plan 79 = .ok (.istore_n 3, 1) := by decide +kernel
theorem d_Model_plan_80 : decode b_Model_plan 80 = .ok (.iload_n 3, 1) := by decide +kernel
theorem d_Model_plan_81 : decode b_Model_plan 81 = .ok (.bipush 12, 2) := by decide +kernel
theorem d_Model_plan_83 : decode b_Model_plan 83 = .ok (.if_icmp .ge 18, 3) := by decide +kernel
theorem d_Model_plan_86 : decode b_Model_plan 86 = .ok (.aload_n 0, 1) := by decide +kernel
theorem d_Model_plan_87 : decode b_Model_plan 87 = .ok (.getfield 68, 3) := by decide +kernel
theorem d_Model_plan_90 : decode b_Model_plan 90 = .ok (.iload_n 3, 1) := by decide +kernel
theorem d_Model_plan_91 : decode b_Model_plan 91 = .ok (.iaload, 1) := by decide +kernel
theorem d_Model_plan_92 : decode b_Model_plan 92 = .ok (.ifCond .ne 9, 3) := by decide +kernel
theorem d_Model_plan_95 : decode b_Model_plan 95 = .ok (.iinc 3 1, 3) := by decide +kernel
theorem d_Model_plan_98 : decode b_Model_plan 98 = .ok (.goto (-18), 3) := by decide +kernel
theorem d_Model_plan_101 : decode b_Model_plan 101 = .ok (.iload_n 3, 1) := by decide +kernel
theorem d_Model_plan_102 : decode b_Model_plan 102 = .ok (.bipush 12, 2) := by decide +kernel
theorem d_Model_plan_104 : decode b_Model_plan 104 = .ok (.if_icmp .ne 4, 3) := by decide +kernel
theorem d_Model_plan_107 : decode b_Model_plan 107 = .ok (.return_, 1) := by decide +kernel
theorem d_Model_plan_108 : decode b_Model_plan 108 = .ok (.aload_n 0, 1) := by decide +kernel
theorem d_Model_plan_109 : decode b_Model_plan 109 = .ok (.getfield 80, 3) := by decide +kernel
theorem d_Model_plan_112 : decode b_Model_plan 112 = .ok (.iload_n 3, 1) := by decide +kernel
theorem d_Model_plan_113 : decode b_Model_plan 113 = .ok (.iaload, 1) := by decide +kernel
theorem d_Model_plan_114 : decode b_Model_plan 114 = .ok (.aload_n 0, 1) := by decide +kernel
theorem d_Model_plan_115 : decode b_Model_plan 115 = .ok (.getfield 83, 3) := by decide +kernel
theorem d_Model_plan_118 : decode b_Model_plan 118 = .ok (.iload_n 1, 1) := by decide +kernel
theorem d_Model_plan_119 : decode b_Model_plan 119 = .ok (.aload_n 0, 1) := by decide +kernel
theorem d_Model_plan_120 : decode b_Model_plan 120 = .ok (.getfield 74, 3) := by decide +kernel
theorem d_Model_plan_123 : decode b_Model_plan 123 = .ok (.iload_n 3, 1) := by decide +kernel
theorem d_Model_plan_124 : decode b_Model_plan 124 = .ok (.iaload, 1) := by decide +kernel
theorem d_Model_plan_125 : decode b_Model_plan 125 = .ok (.isub, 1) := by decide +kernel
theorem d_Model_plan_126 : decode b_Model_plan 126 = .ok (.iaload, 1) := by decide +kernel
theorem d_Model_plan_127 : decode b_Model_plan 127 = .ok (.iadd, 1) := by decide +kernel
theorem d_Model_plan_128 : decode b_Model_plan 128 = .ok (.aload_n 0, 1) := by decide +kernel
theorem d_Model_plan_129 : decode b_Model_plan 129 = .ok (.getfield 83, 3) := by decide +kernel
theorem d_Model_plan_132 : decode b_Model_plan 132 = .ok (.iload_n 1, 1) := by decide +kernel
theorem d_Model_plan_133 : decode b_Model_plan 133 = .ok (.iaload, 1) := by decide +kernel
theorem d_Model_plan_134 : decode b_Model_plan 134 = .ok (.if_icmp .ne 26, 3) := by decide +kernel
theorem d_Model_plan_137 : decode b_Model_plan 137 = .ok (.aload_n 0, 1) := by decide +kernel
theorem d_Model_plan_138 : decode b_Model_plan 138 = .ok (.getfield 98, 3) := by decide +kernel
theorem d_Model_plan_141 : decode b_Model_plan 141 = .ok (.aload_n 0, 1) := by decide +kernel
theorem d_Model_plan_142 : decode b_Model_plan 142 = .ok (.iload_n 3, 1) := by decide +kernel
theorem d_Model_plan_143 : decode b_Model_plan 143 = .ok (.invokevirtual 176, 3) := by decide +kernel
theorem d_Model_plan_146 : decode b_Model_plan 146 = .ok (.iconst 1, 1) := by decide +kernel
theorem d_Model_plan_147 : decode b_Model_plan 147 = .ok (.bastore, 1) := by decide +kernel
theorem d_Model_plan_148 : decode b_Model_plan 148 = .ok (.iload_n 1, 1) := by decide +kernel
theorem d_Model_plan_149 : decode b_Model_plan 149 = .ok (.aload_n 0, 1) := by decide +kernel
theorem d_Model_plan_150 : decode b_Model_plan 150 = .ok (.getfield 74, 3) := by decide +kernel
theorem d_Model_plan_153 : decode b_Model_plan 153 = .ok (.iload_n 3, 1) := by decide +kernel
theorem d_Model_plan_154 : decode b_Model_plan 154 = .ok (.iaload, 1) := by decide +kernel
theorem d_Model_plan_155 : decode b_Model_plan 155 = .ok (.isub, 1) := by decide +kernel
theorem d_Model_plan_156 : decode b_Model_plan 156 = .ok (.istore_n 1, 1) := by decide +kernel
theorem d_Model_plan_157 : decode b_Model_plan 157 = .ok (.goto 25, 3) := by decide +kernel
theorem d_Model_plan_160 : decode b_Model_plan 160 = .ok (.aload_n 0, 1) := by decide +kernel
theorem d_Model_plan_161 : decode b_Model_plan 161 = .ok (.iload_n 1, 1) := by decide +kernel
theorem d_Model_plan_162 : decode b_Model_plan 162 = .ok (.iload_n 3, 1) := by decide +kernel
theorem d_Model_plan_163 : decode b_Model_plan 163 = .ok (.invokevirtual 188, 3) := by decide +kernel
theorem d_Model_plan_166 : decode b_Model_plan 166 = .ok (.istore 4, 2) := by decide +kernel
theorem d_Model_plan_168 : decode b_Model_plan 168 = .ok (.aload_n 0, 1) := by decide +kernel
theorem d_Model_plan_169 : decode b_Model_plan 169 = .ok (.iload 4, 2) := by decide +kernel
theorem d_Model_plan_171 : decode b_Model_plan 171 = .ok (.invokevirtual 191, 3) := by decide +kernel
theorem d_Model_plan_174 : decode b_Model_plan 174 = .ok (.aload_n 0, 1) := by decide +kernel
theorem d_Model_plan_175 : decode b_Model_plan 175 = .ok (.iload_n 1, 1) := by decide +kernel
theorem d_Model_plan_176 : decode b_Model_plan 176 = .ok (.iload 4, 2) := by decide +kernel
theorem d_Model_plan_178 : decode b_Model_plan 178 = .ok (.invokevirtual 161, 3) := by decide +kernel
theorem d_Model_plan_181 : decode b_Model_plan 181 = .ok (.istore_n 1, 1) := by decide +kernel
theorem d_Model_plan_182 : decode b_Model_plan 182 = .ok (.iinc 2 1, 3) := by decide +kernel
theorem d_Model_plan_185 : decode b_Model_plan 185 = .ok (.goto (-118), 3) := by decide +kernel
theorem d_Model_plan_188 : decode b_Model_plan 188 = .ok (.return_, 1) := by decide +kernel
theorem d_Model_fits_0 : decode b_Model_fits 0 = .ok (.lconst 1, 1) := by decide +kernel
theorem d_Model_fits_1 : decode b_Model_fits 1 = .ok (.lstore_n 1, 1) := by decide +kernel
theorem d_Model_fits_2 : decode b_Model_fits 2 = .ok (.iconst 0, 1) := by decide +kernel
theorem d_Model_fits_3 : decode b_Model_fits 3 = .ok (.istore_n 3, 1) := by decide +kernel
theorem d_Model_fits_4 : decode b_Model_fits 4 = .ok (.iload_n 3, 1) := by decide +kernel
theorem d_Model_fits_5 : decode b_Model_fits 5 = .ok (.bipush 12, 2) := by decide +kernel
theorem d_Model_fits_7 : decode b_Model_fits 7 = .ok (.if_icmp .ge 60, 3) := by decide +kernel
theorem d_Model_fits_10 : decode b_Model_fits 10 = .ok (.iconst 0, 1) := by decide +kernel
theorem d_Model_fits_11 : decode b_Model_fits 11 = .ok (.istore 4, 2) := by decide +kernel
theorem d_Model_fits_13 : decode b_Model_fits 13 = .ok (.iconst 0, 1) := by decide +kernel
theorem d_Model_fits_14 : decode b_Model_fits 14 = .ok (.istore 5, 2) := by decide +kernel
theorem d_Model_fits_16 : decode b_Model_fits 16 = .ok (.iload 5, 2) := by decide +kernel
theorem d_Model_fits_18 : decode b_Model_fits 18 = .ok (.aload_n 0, 1) := by decide +kernel
theorem d_Model_fits_19 : decode b_Model_fits 19 = .ok (.getfield 141, 3) := by decide +kernel
theorem d_Model_fits_22 : decode b_Model_fits 22 = .ok (.if_icmp .ge 23, 3) := by decide +kernel
theorem d_Model_fits_25 : decode b_Model_fits 25 = .ok (.aload_n 0, 1) := by decide +kernel
theorem d_Model_fits_26 : decode b_Model_fits 26 = .ok (.getfield 62, 3) := by decide +kernel
theorem d_Model_fits_29 : decode b_Model_fits 29 = .ok (.iload 5, 2) := by decide +kernel
theorem d_Model_fits_31 : decode b_Model_fits 31 = .ok (.iaload, 1) := by decide +kernel
theorem d_Model_fits_32 : decode b_Model_fits 32 = .ok (.iload_n 3, 1) := by decide +kernel
theorem d_Model_fits_33 : decode b_Model_fits 33 = .ok (.if_icmp .ne 6, 3) := by decide +kernel
theorem d_Model_fits_36 : decode b_Model_fits 36 = .ok (.iinc 4 1, 3) := by decide +kernel
theorem d_Model_fits_39 : decode b_Model_fits 39 = .ok (.iinc 5 1, 3) := by decide +kernel
theorem d_Model_fits_42 : decode b_Model_fits 42 = .ok (.goto (-26), 3) := by decide +kernel
theorem d_Model_fits_45 : decode b_Model_fits 45 = .ok (.aload_n 0, 1) := by decide +kernel
theorem d_Model_fits_46 : decode b_Model_fits 46 = .ok (.iload_n 3, 1) := by decide +kernel
theorem d_Model_fits_47 : decode b_Model_fits 47 = .ok (.invokevirtual 144, 3) := by decide +kernel
theorem d_Model_fits_50 : decode b_Model_fits 50 = .ok (.ifCond .eq 11, 3) := by decide +kernel
theorem d_Model_fits_53 : decode b_Model_fits 53 = .ok (.lload_n 1, 1) := by decide +kernel
theorem d_Model_fits_54 : decode b_Model_fits 54 = .ok (.iload 4, 2) := by decide +kernel
theorem d_Model_fits_56 : decode b_Model_fits 56 = .ok (.iconst 1, 1) := by decide +kernel
theorem d_Model_fits_57 : decode b_Model_fits 57 = .ok (.iadd, 1) := by decide +kernel
theorem d_Model_fits_58 : decode b_Model_fits 58 = .ok (.i2l, 1) := by decide +kernel
theorem d_Model_fits_59 : decode b_Model_fits 59 = .ok (.lmul, 1) := by decide +kernel
theorem d_Model_fits_60 : decode b_Model_fits 60 = .ok (.lstore_n 1, 1) := by decide +kernel
theorem d_Model_fits_61 : decode b_Model_fits 61 = .ok (.iinc 3 1, 3) := by decide +kernel
theorem d_Model_fits_64 : decode b_Model_fits 64 = .ok (.goto (-60), 3) := by decide +kernel
theorem d_Model_fits_67 : decode b_Model_fits 67 = .ok (.iconst 0, 1) := by decide +kernel
theorem d_Model_fits_68 : decode b_Model_fits 68 = .ok (.istore_n 3, 1) := by decide +kernel
theorem d_Model_fits_69 : decode b_Model_fits 69 = .ok (.iload_n 3, 1) := by decide +kernel
theorem d_Model_fits_70 : decode b_Model_fits 70 = .ok (.bipush 6, 2) := by decide +kernel
theorem d_Model_fits_72 : decode b_Model_fits 72 = .ok (.if_icmp .ge 46, 3) := by decide +kernel
theorem d_Model_fits_75 : decode b_Model_fits 75 = .ok (.aload_n 0, 1) := by decide +kernel
theorem d_Model_fits_76 : decode b_Model_fits 76 = .ok (.getfield 28, 3) := by decide +kernel
theorem d_Model_fits_79 : decode b_Model_fits 79 = .ok (.bipush 6, 2) := by decide +kernel
theorem d_Model_fits_81 : decode b_Model_fits 81 = .ok (.aload_n 0, 1) := by decide +kernel
theorem d_Model_fits_82 : decode b_Model_fits 82 = .ok (.getfield 122, 3) := by decide +kernel
theorem d_Model_fits_85 : decode b_Model_fits 85 = .ok (.imul, 1) := by decide +kernel
theorem d_Model_fits_86 : decode b_Model_fits 86 = .ok (.iload_n 3, 1) := by decide +kernel
theorem d_Model_fits_87 : decode b_Model_fits 87 = .ok (.iadd, 1) := by decide +kernel
theorem d_Model_fits_88 : decode b_Model_fits 88 = .ok (.baload, 1) := by decide +kernel
theorem d_Model_fits_89 : decode b_Model_fits 89 = .ok (.ifCond .eq 23, 3) := by decide +kernel
theorem d_Model_fits_92 : decode b_Model_fits 92 = .ok (.lload_n 1, 1) := by decide +kernel
theorem d_Model_fits_93 : decode b_Model_fits 93 = .ok (.aload_n 0, 1) := by decide +kernel
theorem d_Model_fits_94 : decode b_Model_fits 94 = .ok (.getfield 25, 3) := by decide +kernel
theorem d_Model_fits_97 : decode b_Model_fits 97 = .ok (.bipush 6, 2) := by decide +kernel
theorem d_Model_fits_99 : decode b_Model_fits 99 = .ok (.aload_n 0, 1) := by decide +kernel
theorem d_Model_fits_100 : decode b_Model_fits 100 = .ok (.getfield 122, 3) := by decide +kernel
theorem d_Model_fits_103 : decode b_Model_fits 103 = .ok (.imul, 1) := by decide +kernel
theorem d_Model_fits_104 : decode b_Model_fits 104 = .ok (.iload_n 3, 1) := by decide +kernel
theorem d_Model_fits_105 : decode b_Model_fits 105 = .ok (.iadd, 1) := by decide +kernel
theorem d_Model_fits_106 : decode b_Model_fits 106 = .ok (.iaload, 1) := by decide +kernel
theorem d_Model_fits_107 : decode b_Model_fits 107 = .ok (.iconst 1, 1) := by decide +kernel
theorem d_Model_fits_108 : decode b_Model_fits 108 = .ok (.iadd, 1) := by decide +kernel
theorem d_Model_fits_109 : decode b_Model_fits 109 = .ok (.i2l, 1) := by decide +kernel
theorem d_Model_fits_110 : decode b_Model_fits 110 = .ok (.lmul, 1) := by decide +kernel
theorem d_Model_fits_111 : decode b_Model_fits 111 = .ok (.lstore_n 1, 1) := by decide +kernel
theorem d_Model_fits_112 : decode b_Model_fits 112 = .ok (.iinc 3 1, 3) := by decide +kernel
theorem d_Model_fits_115 : decode b_Model_fits 115 = .ok (.goto (-46), 3) := by decide +kernel
theorem d_Model_fits_118 : decode b_Model_fits 118 = .ok (.lload_n 1, 1) := by decide +kernel
theorem d_Model_fits_119 : decode b_Model_fits 119 = .ok (.ldc2_w 194, 3) := by decide +kernel
theorem d_Model_fits_122 : decode b_Model_fits 122 = .ok (.lcmp, 1) := by decide +kernel
theorem d_Model_fits_123 : decode b_Model_fits 123 = .ok (.ifCond .gt 7, 3) := by decide +kernel
theorem d_Model_fits_126 : decode b_Model_fits 126 = .ok (.iconst 1, 1) := by decide +kernel
theorem d_Model_fits_127 : decode b_Model_fits 127 = .ok (.goto 4, 3) := by decide +kernel
theorem d_Model_fits_130 : decode b_Model_fits 130 = .ok (.iconst 0, 1) := by decide +kernel
theorem d_Model_fits_131 : decode b_Model_fits 131 = .ok (.ireturn, 1) := by decide +kernel
theorem d_Model_scan_0 : decode b_Model_scan 0 = .ok (.aload_n 0, 1) := by decide +kernel
theorem d_Model_scan_1 : decode b_Model_scan 1 = .ok (.iload_n 1, 1) := by decide +kernel
theorem d_Model_scan_2 : decode b_Model_scan 2 = .ok (.iconst 0, 1) := by decide +kernel
theorem d_Model_scan_3 : decode b_Model_scan 3 = .ok (.bipush 11, 2) := by decide +kernel
theorem d_Model_scan_5 : decode b_Model_scan 5 = .ok (.invokestatic 105, 3) := by decide +kernel
theorem d_Model_scan_8 : decode b_Model_scan 8 = .ok (.ifCond .ne 7, 3) := by decide +kernel
theorem d_Model_scan_11 : decode b_Model_scan 11 = .ok (.iconst 1, 1) := by decide +kernel
theorem d_Model_scan_12 : decode b_Model_scan 12 = .ok (.goto 17, 3) := by decide +kernel
theorem d_Model_scan_15 : decode b_Model_scan 15 = .ok (.aload_n 0, 1) := by decide +kernel
theorem d_Model_scan_16 : decode b_Model_scan 16 = .ok (.getfield 110, 3) := by decide +kernel
theorem d_Model_scan_19 : decode b_Model_scan 19 = .ok (.bipush 10, 2) := by decide +kernel
theorem d_Model_scan_21 : decode b_Model_scan 21 = .ok (.if_icmp .ne 7, 3) := by decide +kernel
theorem d_Model_scan_24 : decode b_Model_scan 24 = .ok (.iconst 2, 1) := by decide +kernel
theorem d_Model_scan_25 : decode b_Model_scan 25 = .ok (.goto 4, 3) := by decide +kernel
theorem d_Model_scan_28 : decode b_Model_scan 28 = .ok (.iconst 0, 1) := by decide +kernel
theorem d_Model_scan_29 : decode b_Model_scan 29 = .ok (.putfield 101, 3) := by decide +kernel
theorem d_Model_scan_32 : decode b_Model_scan 32 = .ok (.aload_n 0, 1) := by decide +kernel
theorem d_Model_scan_33 : decode b_Model_scan 33 = .ok (.getfield 101, 3) := by decide +kernel
theorem d_Model_scan_36 : decode b_Model_scan 36 = .ok (.ifCond .eq 5, 3) := by decide +kernel
theorem d_Model_scan_39 : decode b_Model_scan 39 = .ok (.iconst 0, 1) := by decide +kernel
theorem d_Model_scan_40 : decode b_Model_scan 40 = .ok (.ireturn, 1) := by decide +kernel
theorem d_Model_scan_41 : decode b_Model_scan 41 = .ok (.aload_n 0, 1) := by decide +kernel
theorem d_Model_scan_42 : decode b_Model_scan 42 = .ok (.getfield 35, 3) := by decide +kernel
theorem d_Model_scan_45 : decode b_Model_scan 45 = .ok (.aload_n 0, 1) := by decide +kernel
theorem d_Model_scan_46 : decode b_Model_scan 46 = .ok (.getfield 110, 3) := by decide +kernel
theorem d_Model_scan_49 : decode b_Model_scan 49 = .ok (.iload_n 1, 1) := by decide +kernel
theorem d_Model_scan_50 : decode b_Model_scan 50 = .ok (.iastore, 1) := by decide +kernel
theorem d_Model_scan_51 : decode b_Model_scan 51 = .ok (.aload_n 0, 1) := by decide +kernel
theorem d_Model_scan_52 : decode b_Model_scan 52 = .ok (.dup, 1) := by decide +kernel
theorem d_Model_scan_53 : decode b_Model_scan 53 = .ok (.getfield 110, 3) := by decide +kernel
theorem d_Model_scan_56 : decode b_Model_scan 56 = .ok (.iconst 1, 1) := by decide +kernel
theorem d_Model_scan_57 : decode b_Model_scan 57 = .ok (.iadd, 1) := by decide +kernel
theorem d_Model_scan_58 : decode b_Model_scan 58 = .ok (.putfield 110, 3) := by decide +kernel
theorem d_Model_scan_61 : decode b_Model_scan 61 = .ok (.aload_n 0, 1) := by decide +kernel
theorem d_Model_scan_62 : decode b_Model_scan 62 = .ok (.invokevirtual 196, 3) := by decide +kernel
theorem d_Model_scan_65 : decode b_Model_scan 65 = .ok (.aload_n 0, 1) := by decide +kernel
theorem d_Model_scan_66 : decode b_Model_scan 66 = .ok (.invokevirtual 199, 3) := by decide +kernel
theorem d_Model_scan_69 : decode b_Model_scan 69 = .ok (.ifCond .eq 8, 3) := by decide +kernel
theorem d_Model_scan_72 : decode b_Model_scan 72 = .ok (.aload_n 0, 1) := by decide +kernel
theorem d_Model_scan_73 : decode b_Model_scan 73 = .ok (.getfield 110, 3) := by decide +kernel
theorem d_Model_scan_76 : decode b_Model_scan 76 = .ok (.ireturn, 1) := by decide +kernel
theorem d_Model_scan_77 : decode b_Model_scan 77 = .ok (.aload_n 0, 1) := by decide +kernel
theorem d_Model_scan_78 : decode b_Model_scan 78 = .ok (.dup, 1) := by decide +kernel
theorem d_Model_scan_79 : decode b_Model_scan 79 = .ok (.getfield 110, 3) := by decide +kernel
theorem d_Model_scan_82 : decode b_Model_scan 82 = .ok (.iconst 1, 1) := by decide +kernel
theorem d_Model_scan_83 : decode b_Model_scan 83 = .ok (.isub, 1) := by decide +kernel
theorem d_Model_scan_84 : decode b_Model_scan 84 = .ok (.putfield 110, 3) := by decide +kernel
theorem d_Model_scan_87 : decode b_Model_scan 87 = .ok (.aload_n 0, 1) := by decide +kernel
theorem d_Model_scan_88 : decode b_Model_scan 88 = .ok (.iconst 2, 1) := by decide +kernel
theorem d_Model_scan_89 : decode b_Model_scan 89 = .ok (.putfield 101, 3) := by decide +kernel
theorem d_Model_scan_92 : decode b_Model_scan 92 = .ok (.iconst 0, 1) := by decide +kernel
theorem d_Model_scan_93 : decode b_Model_scan 93 = .ok (.ireturn, 1) := by decide +kernel
theorem d_Model_unscan_0 : decode b_Model_unscan 0 = .ok (.aload_n 0, 1) := by decide +kernel
theorem d_Model_unscan_1 : decode b_Model_unscan 1 = .ok (.iload_n 1, 1) := by decide +kernel
theorem d_Model_unscan_2 : decode b_Model_unscan 2 = .ok (.iconst 0, 1) := by decide +kernel
theorem d_Model_unscan_3 : decode b_Model_unscan 3 = .ok (.aload_n 0, 1) := by decide +kernel
theorem d_Model_unscan_4 : decode b_Model_unscan 4 = .ok (.getfield 110, 3) := by decide +kernel
theorem d_Model_unscan_7 : decode b_Model_unscan 7 = .ok (.iconst 1, 1) := by decide +kernel
theorem d_Model_unscan_8 : decode b_Model_unscan 8 = .ok (.isub, 1) := by decide +kernel
theorem d_Model_unscan_9 : decode b_Model_unscan 9 = .ok (.invokestatic 105, 3) := by decide +kernel
theorem d_Model_unscan_12 : decode b_Model_unscan 12 = .ok (.ifCond .eq 7, 3) := by decide +kernel
theorem d_Model_unscan_15 : decode b_Model_unscan 15 = .ok (.iconst 0, 1) := by decide +kernel
theorem d_Model_unscan_16 : decode b_Model_unscan 16 = .ok (.goto 4, 3) := by decide +kernel
theorem d_Model_unscan_19 : decode b_Model_unscan 19 = .ok (.iconst 1, 1) := by decide +kernel
theorem d_Model_unscan_20 : decode b_Model_unscan 20 = .ok (.putfield 101, 3) := by decide +kernel
theorem d_Model_unscan_23 : decode b_Model_unscan 23 = .ok (.aload_n 0, 1) := by decide +kernel
theorem d_Model_unscan_24 : decode b_Model_unscan 24 = .ok (.getfield 101, 3) := by decide +kernel
theorem d_Model_unscan_27 : decode b_Model_unscan 27 = .ok (.ifCond .eq 5, 3) := by decide +kernel
theorem d_Model_unscan_30 : decode b_Model_unscan 30 = .ok (.iconst 0, 1) := by decide +kernel
theorem d_Model_unscan_31 : decode b_Model_unscan 31 = .ok (.ireturn, 1) := by decide +kernel
theorem d_Model_unscan_32 : decode b_Model_unscan 32 = .ok (.aload_n 0, 1) := by decide +kernel
theorem d_Model_unscan_33 : decode b_Model_unscan 33 = .ok (.getfield 35, 3) := by decide +kernel
theorem d_Model_unscan_36 : decode b_Model_unscan 36 = .ok (.iload_n 1, 1) := by decide +kernel
theorem d_Model_unscan_37 : decode b_Model_unscan 37 = .ok (.iaload, 1) := by decide +kernel
theorem d_Model_unscan_38 : decode b_Model_unscan 38 = .ok (.istore_n 2, 1) := by decide +kernel
theorem d_Model_unscan_39 : decode b_Model_unscan 39 = .ok (.aload_n 0, 1) := by decide +kernel
theorem d_Model_unscan_40 : decode b_Model_unscan 40 = .ok (.dup, 1) := by decide +kernel
theorem d_Model_unscan_41 : decode b_Model_unscan 41 = .ok (.getfield 110, 3) := by decide +kernel
theorem d_Model_unscan_44 : decode b_Model_unscan 44 = .ok (.iconst 1, 1) := by decide +kernel
theorem d_Model_unscan_45 : decode b_Model_unscan 45 = .ok (.isub, 1) := by decide +kernel
theorem d_Model_unscan_46 : decode b_Model_unscan 46 = .ok (.putfield 110, 3) := by decide +kernel
theorem d_Model_unscan_49 : decode b_Model_unscan 49 = .ok (.iload_n 1, 1) := by decide +kernel
theorem d_Model_unscan_50 : decode b_Model_unscan 50 = .ok (.istore_n 3, 1) := by decide +kernel
theorem d_Model_unscan_51 : decode b_Model_unscan 51 = .ok (.iload_n 3, 1) := by decide +kernel
theorem d_Model_unscan_52 : decode b_Model_unscan 52 = .ok (.aload_n 0, 1) := by decide +kernel
theorem d_Model_unscan_53 : decode b_Model_unscan 53 = .ok (.getfield 110, 3) := by decide +kernel
theorem d_Model_unscan_56 : decode b_Model_unscan 56 = .ok (.if_icmp .ge 23, 3) := by decide +kernel
theorem d_Model_unscan_59 : decode b_Model_unscan 59 = .ok (.aload_n 0, 1) := by decide +kernel
theorem d_Model_unscan_60 : decode b_Model_unscan 60 = .ok (.getfield 35, 3) := by decide +kernel
theorem d_Model_unscan_63 : decode b_Model_unscan 63 = .ok (.iload_n 3, 1) := by decide +kernel
theorem d_Model_unscan_64 : decode b_Model_unscan 64 = .ok (.aload_n 0, 1) := by decide +kernel
theorem d_Model_unscan_65 : decode b_Model_unscan 65 = .ok (.getfield 35, 3) := by decide +kernel
theorem d_Model_unscan_68 : decode b_Model_unscan 68 = .ok (.iload_n 3, 1) := by decide +kernel
theorem d_Model_unscan_69 : decode b_Model_unscan 69 = .ok (.iconst 1, 1) := by decide +kernel
theorem d_Model_unscan_70 : decode b_Model_unscan 70 = .ok (.iadd, 1) := by decide +kernel
theorem d_Model_unscan_71 : decode b_Model_unscan 71 = .ok (.iaload, 1) := by decide +kernel
theorem d_Model_unscan_72 : decode b_Model_unscan 72 = .ok (.iastore, 1) := by decide +kernel
theorem d_Model_unscan_73 : decode b_Model_unscan 73 = .ok (.iinc 3 1, 3) := by decide +kernel
theorem d_Model_unscan_76 : decode b_Model_unscan 76 = .ok (.goto (-25), 3) := by decide +kernel
theorem d_Model_unscan_79 : decode b_Model_unscan 79 = .ok (.iload_n 2, 1) := by decide +kernel
theorem d_Model_unscan_80 : decode b_Model_unscan 80 = .ok (.ireturn, 1) := by decide +kernel
theorem d_Model_total_0 : decode b_Model_total 0 = .ok (.aload_n 0, 1) := by decide +kernel
theorem d_Model_total_1 : decode b_Model_total 1 = .ok (.iload_n 1, 1) := by decide +kernel
theorem d_Model_total_2 : decode b_Model_total 2 = .ok (.iconst 0, 1) := by decide +kernel
theorem d_Model_total_3 : decode b_Model_total 3 = .ok (.iconst 2, 1) := by decide +kernel
theorem d_Model_total_4 : decode b_Model_total 4 = .ok (.invokestatic 105, 3) := by decide +kernel
theorem d_Model_total_7 : decode b_Model_total 7 = .ok (.ifCond .eq 7, 3) := by decide +kernel
theorem d_Model_total_10 : decode b_Model_total 10 = .ok (.iconst 0, 1) := by decide +kernel
theorem d_Model_total_11 : decode b_Model_total 11 = .ok (.goto 4, 3) := by decide +kernel
theorem d_Model_total_14 : decode b_Model_total 14 = .ok (.iconst 1, 1) := by decide +kernel
theorem d_Model_total_15 : decode b_Model_total 15 = .ok (.putfield 101, 3) := by decide +kernel
theorem d_Model_total_18 : decode b_Model_total 18 = .ok (.aload_n 0, 1) := by decide +kernel
theorem d_Model_total_19 : decode b_Model_total 19 = .ok (.getfield 101, 3) := by decide +kernel
theorem d_Model_total_22 : decode b_Model_total 22 = .ok (.ifCond .eq 5, 3) := by decide +kernel
theorem d_Model_total_25 : decode b_Model_total 25 = .ok (.iconst 0, 1) := by decide +kernel
theorem d_Model_total_26 : decode b_Model_total 26 = .ok (.ireturn, 1) := by decide +kernel
theorem d_Model_total_27 : decode b_Model_total 27 = .ok (.aload_n 0, 1) := by decide +kernel
theorem d_Model_total_28 : decode b_Model_total 28 = .ok (.invokevirtual 196, 3) := by decide +kernel
theorem d_Model_total_31 : decode b_Model_total 31 = .ok (.iload_n 1, 1) := by decide +kernel
theorem d_Model_total_32 : decode b_Model_total 32 = .ok (.ifCond .ne 8, 3) := by decide +kernel
theorem d_Model_total_35 : decode b_Model_total 35 = .ok (.aload_n 0, 1) := by decide +kernel
theorem d_Model_total_36 : decode b_Model_total 36 = .ok (.invokevirtual 203, 3) := by decide +kernel
theorem d_Model_total_39 : decode b_Model_total 39 = .ok (.ireturn, 1) := by decide +kernel
theorem d_Model_total_40 : decode b_Model_total 40 = .ok (.iconst 0, 1) := by decide +kernel
theorem d_Model_total_41 : decode b_Model_total 41 = .ok (.istore_n 2, 1) := by decide +kernel
theorem d_Model_total_42 : decode b_Model_total 42 = .ok (.iconst 0, 1) := by decide +kernel
theorem d_Model_total_43 : decode b_Model_total 43 = .ok (.istore_n 3, 1) := by decide +kernel
theorem d_Model_total_44 : decode b_Model_total 44 = .ok (.iload_n 3, 1) := by decide +kernel
theorem d_Model_total_45 : decode b_Model_total 45 = .ok (.aload_n 0, 1) := by decide +kernel
theorem d_Model_total_46 : decode b_Model_total 46 = .ok (.getfield 141, 3) := by decide +kernel
theorem d_Model_total_49 : decode b_Model_total 49 = .ok (.if_icmp .ge 18, 3) := by decide +kernel
theorem d_Model_total_52 : decode b_Model_total 52 = .ok (.iload_n 2, 1) := by decide +kernel
theorem d_Model_total_53 : decode b_Model_total 53 = .ok (.aload_n 0, 1) := by decide +kernel
theorem d_Model_total_54 : decode b_Model_total 54 = .ok (.getfield 65, 3) := by decide +kernel
theorem d_Model_total_57 : decode b_Model_total 57 = .ok (.iload_n 3, 1) := by decide +kernel
theorem d_Model_total_58 : decode b_Model_total 58 = .ok (.iaload, 1) := by decide +kernel
theorem d_Model_total_59 : decode b_Model_total 59 = .ok (.iadd, 1) := by decide +kernel
theorem d_Model_total_60 : decode b_Model_total 60 = .ok (.istore_n 2, 1) := by decide +kernel
theorem d_Model_total_61 : decode b_Model_total 61 = .ok (.iinc 3 1, 3) := by decide +kernel
theorem d_Model_total_64 : decode b_Model_total 64 = .ok (.goto (-20), 3) := by decide +kernel
theorem d_Model_total_67 : decode b_Model_total 67 = .ok (.iload_n 1, 1) := by decide +kernel
theorem d_Model_total_68 : decode b_Model_total 68 = .ok (.iconst 1, 1) := by decide +kernel
theorem d_Model_total_69 : decode b_Model_total 69 = .ok (.if_icmp .ne 5, 3) := by decide +kernel
theorem d_Model_total_72 : decode b_Model_total 72 = .ok (.iload_n 2, 1) := by decide +kernel
theorem d_Model_total_73 : decode b_Model_total 73 = .ok (.ireturn, 1) := by decide +kernel
theorem d_Model_total_74 : decode b_Model_total 74 = .ok (.aload_n 0, 1) := by decide +kernel
theorem d_Model_total_75 : decode b_Model_total 75 = .ok (.invokevirtual 206, 3) := by decide +kernel
theorem d_Model_total_78 : decode b_Model_total 78 = .ok (.aload_n 0, 1) := by decide +kernel
theorem d_Model_total_79 : decode b_Model_total 79 = .ok (.getfield 179, 3) := by decide +kernel
theorem d_Model_total_82 : decode b_Model_total 82 = .ok (.ireturn, 1) := by decide +kernel
theorem d_Model_unit_0 : decode b_Model_unit 0 = .ok (.aload_n 0, 1) := by decide +kernel
theorem d_Model_unit_1 : decode b_Model_unit 1 = .ok (.iload_n 1, 1) := by decide +kernel
theorem d_Model_unit_2 : decode b_Model_unit 2 = .ok (.iconst 0, 1) := by decide +kernel
theorem d_Model_unit_3 : decode b_Model_unit 3 = .ok (.aload_n 0, 1) := by decide +kernel
theorem d_Model_unit_4 : decode b_Model_unit 4 = .ok (.getfield 110, 3) := by decide +kernel
theorem d_Model_unit_7 : decode b_Model_unit 7 = .ok (.iconst 1, 1) := by decide +kernel
theorem d_Model_unit_8 : decode b_Model_unit 8 = .ok (.isub, 1) := by decide +kernel
theorem d_Model_unit_9 : decode b_Model_unit 9 = .ok (.invokestatic 105, 3) := by decide +kernel
theorem d_Model_unit_12 : decode b_Model_unit 12 = .ok (.ifCond .ne 7, 3) := by decide +kernel
theorem d_Model_unit_15 : decode b_Model_unit 15 = .ok (.iconst 1, 1) := by decide +kernel
theorem d_Model_unit_16 : decode b_Model_unit 16 = .ok (.goto 17, 3) := by decide +kernel
theorem d_Model_unit_19 : decode b_Model_unit 19 = .ok (.iload_n 2, 1) := by decide +kernel
theorem d_Model_unit_20 : decode b_Model_unit 20 = .ok (.iconst 0, 1) := by decide +kernel
theorem d_Model_unit_21 : decode b_Model_unit 21 = .ok (.iconst 3, 1) := by decide +kernel
theorem d_Model_unit_22 : decode b_Model_unit 22 = .ok (.invokestatic 105, 3) := by decide +kernel
theorem d_Model_unit_25 : decode b_Model_unit 25 = .ok (.ifCond .ne 7, 3) := by decide +kernel
theorem d_Model_unit_28 : decode b_Model_unit 28 = .ok (.iconst 2, 1) := by decide +kernel
theorem d_Model_unit_29 : decode b_Model_unit 29 = .ok (.goto 4, 3) := by decide +kernel
theorem d_Model_unit_32 : decode b_Model_unit 32 = .ok (.iconst 0, 1) := by decide +kernel
theorem d_Model_unit_33 : decode b_Model_unit 33 = .ok (.putfield 101, 3) := by decide +kernel
theorem d_Model_unit_36 : decode b_Model_unit 36 = .ok (.aload_n 0, 1) := by decide +kernel
theorem d_Model_unit_37 : decode b_Model_unit 37 = .ok (.getfield 101, 3) := by decide +kernel
theorem d_Model_unit_40 : decode b_Model_unit 40 = .ok (.ifCond .eq 5, 3) := by decide +kernel
theorem d_Model_unit_43 : decode b_Model_unit 43 = .ok (.iconst 0, 1) := by decide +kernel
theorem d_Model_unit_44 : decode b_Model_unit 44 = .ok (.ireturn, 1) := by decide +kernel
theorem d_Model_unit_45 : decode b_Model_unit 45 = .ok (.aload_n 0, 1) := by decide +kernel
theorem d_Model_unit_46 : decode b_Model_unit 46 = .ok (.invokevirtual 196, 3) := by decide +kernel
theorem d_Model_unit_49 : decode b_Model_unit 49 = .ok (.aload_n 0, 1) := by decide +kernel
theorem d_Model_unit_50 : decode b_Model_unit 50 = .ok (.invokevirtual 206, 3) := by decide +kernel
theorem d_Model_unit_53 : decode b_Model_unit 53 = .ok (.iload_n 2, 1) := by decide +kernel
theorem d_Model_unit_54 : decode b_Model_unit 54 = .ok (.ifCond .ne 12, 3) := by decide +kernel
theorem d_Model_unit_57 : decode b_Model_unit 57 = .ok (.aload_n 0, 1) := by decide +kernel
theorem d_Model_unit_58 : decode b_Model_unit 58 = .ok (.getfield 35, 3) := by decide +kernel
theorem d_Model_unit_61 : decode b_Model_unit 61 = .ok (.iload_n 1, 1) := by decide +kernel
theorem d_Model_unit_62 : decode b_Model_unit 62 = .ok (.iaload, 1) := by decide +kernel
theorem d_Model_unit_63 : decode b_Model_unit 63 = .ok (.goto 37, 3) := by decide +kernel
theorem d_Model_unit_66 : decode b_Model_unit 66 = .ok (.iload_n 2, 1) := by decide +kernel
theorem d_Model_unit_67 : decode b_Model_unit 67 = .ok (.iconst 1, 1) := by decide +kernel
theorem d_Model_unit_68 : decode b_Model_unit 68 = .ok (.if_icmp .ne 12, 3) := by decide +kernel
theorem d_Model_unit_71 : decode b_Model_unit 71 = .ok (.aload_n 0, 1) := by decide +kernel
theorem d_Model_unit_72 : decode b_Model_unit 72 = .ok (.getfield 89, 3) := by decide +kernel
theorem d_Model_unit_75 : decode b_Model_unit 75 = .ok (.iload_n 1, 1) := by decide +kernel
theorem d_Model_unit_76 : decode b_Model_unit 76 = .ok (.iaload, 1) := by decide +kernel
theorem d_Model_unit_77 : decode b_Model_unit 77 = .ok (.goto 23, 3) := by decide +kernel
theorem d_Model_unit_80 : decode b_Model_unit 80 = .ok (.iload_n 2, 1) := by decide +kernel
theorem d_Model_unit_81 : decode b_Model_unit 81 = .ok (.iconst 2, 1) := by decide +kernel
theorem d_Model_unit_82 : decode b_Model_unit 82 = .ok (.if_icmp .ne 12, 3) := by decide +kernel
theorem d_Model_unit_85 : decode b_Model_unit 85 = .ok (.aload_n 0, 1) := by decide +kernel
theorem d_Model_unit_86 : decode b_Model_unit 86 = .ok (.getfield 92, 3) := by decide +kernel
theorem d_Model_unit_89 : decode b_Model_unit 89 = .ok (.iload_n 1, 1) := by decide +kernel
theorem d_Model_unit_90 : decode b_Model_unit 90 = .ok (.iaload, 1) := by decide +kernel
theorem d_Model_unit_91 : decode b_Model_unit 91 = .ok (.goto 9, 3) := by decide +kernel
theorem d_Model_unit_94 : decode b_Model_unit 94 = .ok (.aload_n 0, 1) := by decide +kernel
theorem d_Model_unit_95 : decode b_Model_unit 95 = .ok (.getfield 95, 3) := by decide +kernel
theorem d_Model_unit_98 : decode b_Model_unit 98 = .ok (.iload_n 1, 1) := by decide +kernel
theorem d_Model_unit_99 : decode b_Model_unit 99 = .ok (.iaload, 1) := by decide +kernel
theorem d_Model_unit_100 : decode b_Model_unit 100 = .ok (.ireturn, 1) := by decide +kernel
theorem d_Model_tax_0 : decode b_Model_tax 0 = .ok (.aload_n 0, 1) := by decide +kernel
theorem d_Model_tax_1 : decode b_Model_tax 1 = .ok (.iload_n 1, 1) := by decide +kernel
theorem d_Model_tax_2 : decode b_Model_tax 2 = .ok (.iconst 0, 1) := by decide +kernel
theorem d_Model_tax_3 : decode b_Model_tax 3 = .ok (.iconst 3, 1) := by decide +kernel
theorem d_Model_tax_4 : decode b_Model_tax 4 = .ok (.invokestatic 105, 3) := by decide +kernel
theorem d_Model_tax_7 : decode b_Model_tax 7 = .ok (.ifCond .eq 7, 3) := by decide +kernel
theorem d_Model_tax_10 : decode b_Model_tax 10 = .ok (.iconst 0, 1) := by decide +kernel
theorem d_Model_tax_11 : decode b_Model_tax 11 = .ok (.goto 4, 3) := by decide +kernel
theorem d_Model_tax_14 : decode b_Model_tax 14 = .ok (.iconst 1, 1) := by decide +kernel
theorem d_Model_tax_15 : decode b_Model_tax 15 = .ok (.putfield 101, 3) := by decide +kernel
theorem d_Model_tax_18 : decode b_Model_tax 18 = .ok (.aload_n 0, 1) := by decide +kernel
theorem d_Model_tax_19 : decode b_Model_tax 19 = .ok (.getfield 101, 3) := by decide +kernel
theorem d_Model_tax_22 : decode b_Model_tax 22 = .ok (.ifCond .eq 5, 3) := by decide +kernel
theorem d_Model_tax_25 : decode b_Model_tax 25 = .ok (.iconst 0, 1) := by decide +kernel
theorem d_Model_tax_26 : decode b_Model_tax 26 = .ok (.ireturn, 1) := by decide +kernel
theorem d_Model_tax_27 : decode b_Model_tax 27 = .ok (.aload_n 0, 1) := by decide +kernel
theorem d_Model_tax_28 : decode b_Model_tax 28 = .ok (.invokevirtual 196, 3) := by decide +kernel
theorem d_Model_tax_31 : decode b_Model_tax 31 = .ok (.aload_n 0, 1) := by decide +kernel
theorem d_Model_tax_32 : decode b_Model_tax 32 = .ok (.invokevirtual 206, 3) := by decide +kernel
theorem d_Model_tax_35 : decode b_Model_tax 35 = .ok (.lconst 0, 1) := by decide +kernel
theorem d_Model_tax_36 : decode b_Model_tax 36 = .ok (.lstore_n 2, 1) := by decide +kernel
theorem d_Model_tax_37 : decode b_Model_tax 37 = .ok (.iconst 0, 1) := by decide +kernel
theorem d_Model_tax_38 : decode b_Model_tax 38 = .ok (.istore 4, 2) := by decide +kernel
theorem d_Model_tax_40 : decode b_Model_tax 40 = .ok (.iload 4, 2) := by decide +kernel
theorem d_Model_tax_42 : decode b_Model_tax 42 = .ok (.aload_n 0, 1) := by decide +kernel
theorem d_Model_tax_43 : decode b_Model_tax 43 = .ok (.getfield 110, 3) := by decide +kernel
theorem d_Model_tax_46 : decode b_Model_tax 46 = .ok (.if_icmp .ge 36, 3) := by decide +kernel
theorem d_Model_tax_49 : decode b_Model_tax 49 = .ok (.aload_n 0, 1) := by decide +kernel
theorem d_Model_tax_50 : decode b_Model_tax 50 = .ok (.getfield 13, 3) := by decide +kernel
theorem d_Model_tax_53 : decode b_Model_tax 53 = .ok (.aload_n 0, 1) := by decide +kernel
theorem d_Model_tax_54 : decode b_Model_tax 54 = .ok (.getfield 35, 3) := by decide +kernel
theorem d_Model_tax_57 : decode b_Model_tax 57 = .ok (.iload 4, 2) := by decide +kernel
theorem d_Model_tax_59 : decode b_Model_tax 59 = .ok (.iaload, 1) := by decide +kernel
theorem d_Model_tax_60 : decode b_Model_tax 60 = .ok (.iaload, 1) := by decide +kernel
theorem d_Model_tax_61 : decode b_Model_tax 61 = .ok (.iload_n 1, 1) := by decide +kernel
theorem d_Model_tax_62 : decode b_Model_tax 62 = .ok (.if_icmp .ne 14, 3) := by decide +kernel
theorem d_Model_tax_65 : decode b_Model_tax 65 = .ok (.lload_n 2, 1) := by decide +kernel
theorem d_Model_tax_66 : decode b_Model_tax 66 = .ok (.aload_n 0, 1) := by decide +kernel
theorem d_Model_tax_67 : decode b_Model_tax 67 = .ok (.getfield 95, 3) := by decide +kernel
theorem d_Model_tax_70 : decode b_Model_tax 70 = .ok (.iload 4, 2) := by decide +kernel
theorem d_Model_tax_72 : decode b_Model_tax 72 = .ok (.iaload, 1) := by decide +kernel
theorem d_Model_tax_73 : decode b_Model_tax 73 = .ok (.i2l, 1) := by decide +kernel
theorem d_Model_tax_74 : decode b_Model_tax 74 = .ok (.ladd, 1) := by decide +kernel
theorem d_Model_tax_75 : decode b_Model_tax 75 = .ok (.lstore_n 2, 1) := by decide +kernel
theorem d_Model_tax_76 : decode b_Model_tax 76 = .ok (.iinc 4 1, 3) := by decide +kernel
theorem d_Model_tax_79 : decode b_Model_tax 79 = .ok (.goto (-39), 3) := by decide +kernel
theorem d_Model_tax_82 : decode b_Model_tax 82 = .ok (.iload_n 1, 1) := by decide +kernel
theorem d_Model_tax_83 : decode b_Model_tax 83 = .ok (.ifCond .ne 7, 3) := by decide +kernel
theorem d_Model_tax_86 : decode b_Model_tax 86 = .ok (.iconst 0, 1) := by decide +kernel
theorem d_Model_tax_87 : decode b_Model_tax 87 = .ok (.goto 25, 3) := by decide +kernel
theorem d_Model_tax_90 : decode b_Model_tax 90 = .ok (.iload_n 1, 1) := by decide +kernel
theorem d_Model_tax_91 : decode b_Model_tax 91 = .ok (.iconst 1, 1) := by decide +kernel
theorem d_Model_tax_92 : decode b_Model_tax 92 = .ok (.if_icmp .ne 8, 3) := by decide +kernel
theorem d_Model_tax_95 : decode b_Model_tax 95 = .ok (.bipush 7, 2) := by decide +kernel
theorem d_Model_tax_97 : decode b_Model_tax 97 = .ok (.goto 15, 3) := by decide +kernel
theorem d_Model_tax_100 : decode b_Model_tax 100 = .ok (.iload_n 1, 1) := by decide +kernel
theorem d_Model_tax_101 : decode b_Model_tax 101 = .ok (.iconst 2, 1) := by decide +kernel
theorem d_Model_tax_102 : decode b_Model_tax 102 = .ok (.if_icmp .ne 8, 3) := by decide +kernel
theorem d_Model_tax_105 : decode b_Model_tax 105 = .ok (.bipush 19, 2) := by decide +kernel
theorem d_Model_tax_107 : decode b_Model_tax 107 = .ok (.goto 5, 3) := by decide +kernel
theorem d_Model_tax_110 : decode b_Model_tax 110 = .ok (.bipush 25, 2) := by decide +kernel
theorem d_Model_tax_112 : decode b_Model_tax 112 = .ok (.istore 4, 2) := by decide +kernel
theorem d_Model_tax_114 : decode b_Model_tax 114 = .ok (.ldc2_w 209, 3) := by decide +kernel
theorem d_Model_tax_117 : decode b_Model_tax 117 = .ok (.lload_n 2, 1) := by decide +kernel
theorem d_Model_tax_118 : decode b_Model_tax 118 = .ok (.lmul, 1) := by decide +kernel
theorem d_Model_tax_119 : decode b_Model_tax 119 = .ok (.iload 4, 2) := by decide +kernel
theorem d_Model_tax_121 : decode b_Model_tax 121 = .ok (.i2l, 1) := by decide +kernel
theorem d_Model_tax_122 : decode b_Model_tax 122 = .ok (.lmul, 1) := by decide +kernel
theorem d_Model_tax_123 : decode b_Model_tax 123 = .ok (.ldc2_w 211, 3) := by decide +kernel
theorem d_Model_tax_126 : decode b_Model_tax 126 = .ok (.ladd, 1) := by decide +kernel
theorem d_Model_tax_127 : decode b_Model_tax 127 = .ok (.iload 4, 2) := by decide +kernel
