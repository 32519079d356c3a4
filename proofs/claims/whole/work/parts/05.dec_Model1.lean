/-! decode rows of Model (by program) -/
theorem d_Model_init_0 : decode b_Model_init 0 = .ok (.aload_n 0, 1) := by decide +kernel
theorem d_Model_init_1 : decode b_Model_init 1 = .ok (.invokespecial 1, 3) := by decide +kernel
theorem d_Model_init_4 : decode b_Model_init 4 = .ok (.aload_n 0, 1) := by decide +kernel
theorem d_Model_init_5 : decode b_Model_init 5 = .ok (.bipush 12, 2) := by decide +kernel
theorem d_Model_init_7 : decode b_Model_init 7 = .ok (.newarray .int, 2) := by decide +kernel
theorem d_Model_init_9 : decode b_Model_init 9 = .ok (.putfield 7, 3) := by decide +kernel
theorem d_Model_init_12 : decode b_Model_init 12 = .ok (.aload_n 0, 1) := by decide +kernel
theorem d_Model_init_13 : decode b_Model_init 13 = .ok (.bipush 12, 2) := by decide +kernel
theorem d_Model_init_15 : decode b_Model_init 15 = .ok (.newarray .int, 2) := by decide +kernel
theorem d_Model_init_17 : decode b_Model_init 17 = .ok (.putfield 13, 3) := by decide +kernel
theorem d_Model_init_20 : decode b_Model_init 20 = .ok (.aload_n 0, 1) := by decide +kernel
theorem d_Model_init_21 : decode b_Model_init 21 = .ok (.bipush 78, 2) := by decide +kernel
theorem d_Model_init_23 : decode b_Model_init 23 = .ok (.newarray .int, 2) := by decide +kernel
theorem d_Model_init_25 : decode b_Model_init 25 = .ok (.putfield 16, 3) := by decide +kernel
theorem d_Model_init_28 : decode b_Model_init 28 = .ok (.aload_n 0, 1) := by decide +kernel
theorem d_Model_init_29 : decode b_Model_init 29 = .ok (.bipush 78, 2) := by decide +kernel
theorem d_Model_init_31 : decode b_Model_init 31 = .ok (.newarray .int, 2) := by decide +kernel
theorem d_Model_init_33 : decode b_Model_init 33 = .ok (.putfield 19, 3) := by decide +kernel
theorem d_Model_init_36 : decode b_Model_init 36 = .ok (.aload_n 0, 1) := by decide +kernel
theorem d_Model_init_37 : decode b_Model_init 37 = .ok (.bipush 78, 2) := by decide +kernel
theorem d_Model_init_39 : decode b_Model_init 39 = .ok (.newarray .int, 2) := by decide +kernel
theorem d_Model_init_41 : decode b_Model_init 41 = .ok (.putfield 22, 3) := by decide +kernel
theorem d_Model_init_44 : decode b_Model_init 44 = .ok (.aload_n 0, 1) := by decide +kernel
theorem d_Model_init_45 : decode b_Model_init 45 = .ok (.bipush 78, 2) := by decide +kernel
theorem d_Model_init_47 : decode b_Model_init 47 = .ok (.newarray .int, 2) := by decide +kernel
theorem d_Model_init_49 : decode b_Model_init 49 = .ok (.putfield 25, 3) := by decide +kernel
theorem d_Model_init_52 : decode b_Model_init 52 = .ok (.aload_n 0, 1) := by decide +kernel
theorem d_Model_init_53 : decode b_Model_init 53 = .ok (.bipush 78, 2) := by decide +kernel
theorem d_Model_init_55 : decode b_Model_init 55 = .ok (.newarray .boolean, 2) := by decide +kernel
theorem d_Model_init_57 : decode b_Model_init 57 = .ok (.putfield 28, 3) := by decide +kernel
theorem d_Model_init_60 : decode b_Model_init 60 = .ok (.aload_n 0, 1) := by decide +kernel
theorem d_Model_init_61 : decode b_Model_init 61 = .ok (.sipush 312, 3) := by decide +kernel
theorem d_Model_init_64 : decode b_Model_init 64 = .ok (.newarray .int, 2) := by decide +kernel
theorem d_Model_init_66 : decode b_Model_init 66 = .ok (.putfield 32, 3) := by decide +kernel
theorem d_Model_init_69 : decode b_Model_init 69 = .ok (.aload_n 0, 1) := by decide +kernel
theorem d_Model_init_70 : decode b_Model_init 70 = .ok (.bipush 10, 2) := by decide +kernel
theorem d_Model_init_72 : decode b_Model_init 72 = .ok (.newarray .int, 2) := by decide +kernel
theorem d_Model_init_74 : decode b_Model_init 74 = .ok (.putfield 35, 3) := by decide +kernel
theorem d_Model_init_77 : decode b_Model_init 77 = .ok (.aload_n 0, 1) := by decide +kernel
theorem d_Model_init_78 : decode b_Model_init 78 = .ok (.bipush 12, 2) := by decide +kernel
theorem d_Model_init_80 : decode b_Model_init 80 = .ok (.newarray .int, 2) := by decide +kernel
theorem d_Model_init_82 : decode b_Model_init 82 = .ok (.putfield 38, 3) := by decide +kernel
theorem d_Model_init_85 : decode b_Model_init 85 = .ok (.aload_n 0, 1) := by decide +kernel
theorem d_Model_init_86 : decode b_Model_init 86 = .ok (.bipush 12, 2) := by decide +kernel
theorem d_Model_init_88 : decode b_Model_init 88 = .ok (.newarray .int, 2) := by decide +kernel
theorem d_Model_init_90 : decode b_Model_init 90 = .ok (.putfield 41, 3) := by decide +kernel
theorem d_Model_init_93 : decode b_Model_init 93 = .ok (.aload_n 0, 1) := by decide +kernel
theorem d_Model_init_94 : decode b_Model_init 94 = .ok (.bipush 12, 2) := by decide +kernel
theorem d_Model_init_96 : decode b_Model_init 96 = .ok (.newarray .int, 2) := by decide +kernel
theorem d_Model_init_98 : decode b_Model_init 98 = .ok (.putfield 44, 3) := by decide +kernel
theorem d_Model_init_101 : decode b_Model_init 101 = .ok (.aload_n 0, 1) := by decide +kernel
theorem d_Model_init_102 : decode b_Model_init 102 = .ok (.bipush 120, 2) := by decide +kernel
theorem d_Model_init_104 : decode b_Model_init 104 = .ok (.newarray .int, 2) := by decide +kernel
theorem d_Model_init_106 : decode b_Model_init 106 = .ok (.putfield 47, 3) := by decide +kernel
theorem d_Model_init_109 : decode b_Model_init 109 = .ok (.aload_n 0, 1) := by decide +kernel
theorem d_Model_init_110 : decode b_Model_init 110 = .ok (.bipush 120, 2) := by decide +kernel
theorem d_Model_init_112 : decode b_Model_init 112 = .ok (.newarray .int, 2) := by decide +kernel
theorem d_Model_init_114 : decode b_Model_init 114 = .ok (.putfield 50, 3) := by decide +kernel
theorem d_Model_init_117 : decode b_Model_init 117 = .ok (.aload_n 0, 1) := by decide +kernel
theorem d_Model_init_118 : decode b_Model_init 118 = .ok (.bipush 120, 2) := by decide +kernel
theorem d_Model_init_120 : decode b_Model_init 120 = .ok (.newarray .int, 2) := by decide +kernel
theorem d_Model_init_122 : decode b_Model_init 122 = .ok (.putfield 53, 3) := by decide +kernel
theorem d_Model_init_125 : decode b_Model_init 125 = .ok (.aload_n 0, 1) := by decide +kernel
theorem d_Model_init_126 : decode b_Model_init 126 = .ok (.bipush 120, 2) := by decide +kernel
theorem d_Model_init_128 : decode b_Model_init 128 = .ok (.newarray .int, 2) := by decide +kernel
theorem d_Model_init_130 : decode b_Model_init 130 = .ok (.putfield 56, 3) := by decide +kernel
theorem d_Model_init_133 : decode b_Model_init 133 = .ok (.aload_n 0, 1) := by decide +kernel
theorem d_Model_init_134 : decode b_Model_init 134 = .ok (.bipush 120, 2) := by decide +kernel
theorem d_Model_init_136 : decode b_Model_init 136 = .ok (.newarray .boolean, 2) := by decide +kernel
theorem d_Model_init_138 : decode b_Model_init 138 = .ok (.putfield 59, 3) := by decide +kernel
theorem d_Model_init_141 : decode b_Model_init 141 = .ok (.aload_n 0, 1) := by decide +kernel
theorem d_Model_init_142 : decode b_Model_init 142 = .ok (.bipush 10, 2) := by decide +kernel
theorem d_Model_init_144 : decode b_Model_init 144 = .ok (.newarray .int, 2) := by decide +kernel
theorem d_Model_init_146 : decode b_Model_init 146 = .ok (.putfield 62, 3) := by decide +kernel
theorem d_Model_init_149 : decode b_Model_init 149 = .ok (.aload_n 0, 1) := by decide +kernel
theorem d_Model_init_150 : decode b_Model_init 150 = .ok (.bipush 10, 2) := by decide +kernel
theorem d_Model_init_152 : decode b_Model_init 152 = .ok (.newarray .int, 2) := by decide +kernel
theorem d_Model_init_154 : decode b_Model_init 154 = .ok (.putfield 65, 3) := by decide +kernel
theorem d_Model_init_157 : decode b_Model_init 157 = .ok (.aload_n 0, 1) := by decide +kernel
theorem d_Model_init_158 : decode b_Model_init 158 = .ok (.bipush 12, 2) := by decide +kernel
theorem d_Model_init_160 : decode b_Model_init 160 = .ok (.newarray .int, 2) := by decide +kernel
theorem d_Model_init_162 : decode b_Model_init 162 = .ok (.putfield 68, 3) := by decide +kernel
theorem d_Model_init_165 : decode b_Model_init 165 = .ok (.aload_n 0, 1) := by decide +kernel
theorem d_Model_init_166 : decode b_Model_init 166 = .ok (.bipush 6, 2) := by decide +kernel
theorem d_Model_init_168 : decode b_Model_init 168 = .ok (.newarray .int, 2) := by decide +kernel
theorem d_Model_init_170 : decode b_Model_init 170 = .ok (.putfield 71, 3) := by decide +kernel
theorem d_Model_init_173 : decode b_Model_init 173 = .ok (.aload_n 0, 1) := by decide +kernel
theorem d_Model_init_174 : decode b_Model_init 174 = .ok (.bipush 12, 2) := by decide +kernel
theorem d_Model_init_176 : decode b_Model_init 176 = .ok (.newarray .int, 2) := by decide +kernel
theorem d_Model_init_178 : decode b_Model_init 178 = .ok (.putfield 74, 3) := by decide +kernel
theorem d_Model_init_181 : decode b_Model_init 181 = .ok (.aload_n 0, 1) := by decide +kernel
theorem d_Model_init_182 : decode b_Model_init 182 = .ok (.bipush 6, 2) := by decide +kernel
theorem d_Model_init_184 : decode b_Model_init 184 = .ok (.newarray .int, 2) := by decide +kernel
theorem d_Model_init_186 : decode b_Model_init 186 = .ok (.putfield 77, 3) := by decide +kernel
theorem d_Model_init_189 : decode b_Model_init 189 = .ok (.aload_n 0, 1) := by decide +kernel
theorem d_Model_init_190 : decode b_Model_init 190 = .ok (.bipush 12, 2) := by decide +kernel
theorem d_Model_init_192 : decode b_Model_init 192 = .ok (.newarray .int, 2) := by decide +kernel
theorem d_Model_init_194 : decode b_Model_init 194 = .ok (.putfield 80, 3) := by decide +kernel
theorem d_Model_init_197 : decode b_Model_init 197 = .ok (.aload_n 0, 1) := by decide +kernel
theorem d_Model_init_198 : decode b_Model_init 198 = .ok (.sipush 3000, 3) := by decide +kernel
theorem d_Model_init_201 : decode b_Model_init 201 = .ok (.newarray .int, 2) := by decide +kernel
theorem d_Model_init_203 : decode b_Model_init 203 = .ok (.putfield 83, 3) := by decide +kernel
theorem d_Model_init_206 : decode b_Model_init 206 = .ok (.aload_n 0, 1) := by decide +kernel
theorem d_Model_init_207 : decode b_Model_init 207 = .ok (.iconst 4, 1) := by decide +kernel
theorem d_Model_init_208 : decode b_Model_init 208 = .ok (.newarray .int, 2) := by decide +kernel
theorem d_Model_init_210 : decode b_Model_init 210 = .ok (.putfield 86, 3) := by decide +kernel
theorem d_Model_init_213 : decode b_Model_init 213 = .ok (.aload_n 0, 1) := by decide +kernel
theorem d_Model_init_214 : decode b_Model_init 214 = .ok (.bipush 10, 2) := by decide +kernel
theorem d_Model_init_216 : decode b_Model_init 216 = .ok (.newarray .int, 2) := by decide +kernel
theorem d_Model_init_218 : decode b_Model_init 218 = .ok (.putfield 89, 3) := by decide +kernel
theorem d_Model_init_221 : decode b_Model_init 221 = .ok (.aload_n 0, 1) := by decide +kernel
theorem d_Model_init_222 : decode b_Model_init 222 = .ok (.bipush 10, 2) := by decide +kernel
theorem d_Model_init_224 : decode b_Model_init 224 = .ok (.newarray .int, 2) := by decide +kernel
theorem d_Model_init_226 : decode b_Model_init 226 = .ok (.putfield 92, 3) := by decide +kernel
theorem d_Model_init_229 : decode b_Model_init 229 = .ok (.aload_n 0, 1) := by decide +kernel
theorem d_Model_init_230 : decode b_Model_init 230 = .ok (.bipush 10, 2) := by decide +kernel
theorem d_Model_init_232 : decode b_Model_init 232 = .ok (.newarray .int, 2) := by decide +kernel
theorem d_Model_init_234 : decode b_Model_init 234 = .ok (.putfield 95, 3) := by decide +kernel
theorem d_Model_init_237 : decode b_Model_init 237 = .ok (.aload_n 0, 1) := by decide +kernel
theorem d_Model_init_238 : decode b_Model_init 238 = .ok (.bipush 10, 2) := by decide +kernel
theorem d_Model_init_240 : decode b_Model_init 240 = .ok (.newarray .boolean, 2) := by decide +kernel
theorem d_Model_init_242 : decode b_Model_init 242 = .ok (.putfield 98, 3) := by decide +kernel
theorem d_Model_init_245 : decode b_Model_init 245 = .ok (.iconst 0, 1) := by decide +kernel
theorem d_Model_init_246 : decode b_Model_init 246 = .ok (.istore_n 1, 1) := by decide +kernel
theorem d_Model_init_247 : decode b_Model_init 247 = .ok (.iload_n 1, 1) := by decide +kernel
theorem d_Model_init_248 : decode b_Model_init 248 = .ok (.bipush 12, 2) := by decide +kernel
theorem d_Model_init_250 : decode b_Model_init 250 = .ok (.if_icmp .ge 17, 3) := by decide +kernel
theorem d_Model_init_253 : decode b_Model_init 253 = .ok (.aload_n 0, 1) := by decide +kernel
theorem d_Model_init_254 : decode b_Model_init 254 = .ok (.getfield 7, 3) := by decide +kernel
theorem d_Model_init_257 : decode b_Model_init 257 = .ok (.iload_n 1, 1) := by decide +kernel
theorem d_Model_init_258 : decode b_Model_init 258 = .ok (.bipush 100, 2) := by decide +kernel
theorem d_Model_init_260 : decode b_Model_init 260 = .ok (.iastore, 1) := by decide +kernel
theorem d_Model_init_261 : decode b_Model_init 261 = .ok (.iinc 1 1, 3) := by decide +kernel
theorem d_Model_init_264 : decode b_Model_init 264 = .ok (.goto (-17), 3) := by decide +kernel
theorem d_Model_init_267 : decode b_Model_init 267 = .ok (.iconst 0, 1) := by decide +kernel
theorem d_Model_init_268 : decode b_Model_init 268 = .ok (.istore_n 1, 1) := by decide +kernel
theorem d_Model_init_269 : decode b_Model_init 269 = .ok (.iload_n 1, 1) := by decide +kernel
theorem d_Model_init_270 : decode b_Model_init 270 = .ok (.bipush 6, 2) := by decide +kernel
theorem d_Model_init_272 : decode b_Model_init 272 = .ok (.if_icmp .ge 19, 3) := by decide +kernel
theorem d_Model_init_275 : decode b_Model_init 275 = .ok (.aload_n 0, 1) := by decide +kernel
theorem d_Model_init_276 : decode b_Model_init 276 = .ok (.getfield 19, 3) := by decide +kernel
theorem d_Model_init_279 : decode b_Model_init 279 = .ok (.bipush 72, 2) := by decide +kernel
theorem d_Model_init_281 : decode b_Model_init 281 = .ok (.iload_n 1, 1) := by decide +kernel
theorem d_Model_init_282 : decode b_Model_init 282 = .ok (.iadd, 1) := by decide +kernel
theorem d_Model_init_283 : decode b_Model_init 283 = .ok (.iconst 2, 1) := by decide +kernel
theorem d_Model_init_284 : decode b_Model_init 284 = .ok (.iastore, 1) := by decide +kernel
theorem d_Model_init_285 : decode b_Model_init 285 = .ok (.iinc 1 1, 3) := by decide +kernel
theorem d_Model_init_288 : decode b_Model_init 288 = .ok (.goto (-19), 3) := by decide +kernel
theorem d_Model_init_291 : decode b_Model_init 291 = .ok (.return_, 1) := by decide +kernel
theorem d_Model_thrown_0 : decode b_Model_thrown 0 = .ok (.aload_n 0, 1) := by decide +kernel
theorem d_Model_thrown_1 : decode b_Model_thrown 1 = .ok (.getfield 101, 3) := by decide +kernel
theorem d_Model_thrown_4 : decode b_Model_thrown 4 = .ok (.ireturn, 1) := by decide +kernel
theorem d_Model_within_0 : decode b_Model_within 0 = .ok (.iload_n 0, 1) := by decide +kernel
theorem d_Model_within_1 : decode b_Model_within 1 = .ok (.iload_n 1, 1) := by decide +kernel
theorem d_Model_within_2 : decode b_Model_within 2 = .ok (.if_icmp .lt 12, 3) := by decide +kernel
theorem d_Model_within_5 : decode b_Model_within 5 = .ok (.iload_n 0, 1) := by decide +kernel
theorem d_Model_within_6 : decode b_Model_within 6 = .ok (.iload_n 2, 1) := by decide +kernel
theorem d_Model_within_7 : decode b_Model_within 7 = .ok (.if_icmp .gt 7, 3) := by decide +kernel
theorem d_Model_within_10 : decode b_Model_within 10 = .ok (.iconst 1, 1) := by decide +kernel
theorem d_Model_within_11 : decode b_Model_within 11 = .ok (.goto 4, 3) := by decide +kernel
theorem d_Model_within_14 : decode b_Model_within 14 = .ok (.iconst 0, 1) := by decide +kernel
theorem d_Model_within_15 : decode b_Model_within 15 = .ok (.ireturn, 1) := by decide +kernel
theorem d_Model_article_0 : decode b_Model_article 0 = .ok (.iload_n 1, 1) := by decide +kernel
theorem d_Model_article_1 : decode b_Model_article 1 = .ok (.iconst 0, 1) := by decide +kernel
theorem d_Model_article_2 : decode b_Model_article 2 = .ok (.bipush 11, 2) := by decide +kernel
theorem d_Model_article_4 : decode b_Model_article 4 = .ok (.invokestatic 105, 3) := by decide +kernel
theorem d_Model_article_7 : decode b_Model_article 7 = .ok (.ifCond .eq 26, 3) := by decide +kernel
theorem d_Model_article_10 : decode b_Model_article 10 = .ok (.iload_n 2, 1) := by decide +kernel
theorem d_Model_article_11 : decode b_Model_article 11 = .ok (.iconst 1, 1) := by decide +kernel
theorem d_Model_article_12 : decode b_Model_article 12 = .ok (.ldc 109, 2) := by decide +kernel
theorem d_Model_article_14 : decode b_Model_article 14 = .ok (.invokestatic 105, 3) := by decide +kernel
theorem d_Model_article_17 : decode b_Model_article 17 = .ok (.ifCond .eq 16, 3) := by decide +kernel
theorem d_Model_article_20 : decode b_Model_article 20 = .ok (.iload_n 3, 1) := by decide +kernel
theorem d_Model_article_21 : decode b_Model_article 21 = .ok (.iconst 0, 1) := by decide +kernel
theorem d_Model_article_22 : decode b_Model_article 22 = .ok (.iconst 3, 1) := by decide +kernel
theorem d_Model_article_23 : decode b_Model_article 23 = .ok (.invokestatic 105, 3) := by decide +kernel
theorem d_Model_article_26 : decode b_Model_article 26 = .ok (.ifCond .eq 7, 3) := by decide +kernel
theorem d_Model_article_29 : decode b_Model_article 29 = .ok (.iconst 1, 1) := by decide +kernel
theorem d_Model_article_30 : decode b_Model_article 30 = .ok (.goto 4, 3) := by decide +kernel
theorem d_Model_article_33 : decode b_Model_article 33 = .ok (.iconst 0, 1) := by decide +kernel
theorem d_Model_article_34 : decode b_Model_article 34 = .ok (.istore 4, 2) := by decide +kernel
theorem d_Model_article_36 : decode b_Model_article 36 = .ok (.aload_n 0, 1) := by decide +kernel
theorem d_Model_article_37 : decode b_Model_article 37 = .ok (.iload 4, 2) := by decide +kernel
theorem d_Model_article_39 : decode b_Model_article 39 = .ok (.ifCond .ne 7, 3) := by decide +kernel
theorem d_Model_article_42 : decode b_Model_article 42 = .ok (.iconst 1, 1) := by decide +kernel
theorem d_Model_article_43 : decode b_Model_article 43 = .ok (.goto 15, 3) := by decide +kernel
theorem d_Model_article_46 : decode b_Model_article 46 = .ok (.aload_n 0, 1) := by decide +kernel
theorem d_Model_article_47 : decode b_Model_article 47 = .ok (.getfield 110, 3) := by decide +kernel
theorem d_Model_article_50 : decode b_Model_article 50 = .ok (.ifCond .le 7, 3) := by decide +kernel
theorem d_Model_article_53 : decode b_Model_article 53 = .ok (.iconst 2, 1) := by decide +kernel
theorem d_Model_article_54 : decode b_Model_article 54 = .ok (.goto 4, 3) := by decide +kernel
theorem d_Model_article_57 : decode b_Model_article 57 = .ok (.iconst 0, 1) := by decide +kernel
theorem d_Model_article_58 : decode b_Model_article 58 = .ok (.putfield 101, 3) := by decide +kernel
theorem d_Model_article_61 : decode b_Model_article 61 = .ok (.aload_n 0, 1) := by decide +kernel
theorem d_Model_article_62 : decode b_Model_article 62 = .ok (.getfield 101, 3) := by decide +kernel
theorem d_Model_article_65 : decode b_Model_article 65 = .ok (.ifCond .eq 4, 3) := by decide +kernel
theorem d_Model_article_68 : decode b_Model_article 68 = .ok (.return_, 1) := by decide +kernel
theorem d_Model_article_69 : decode b_Model_article 69 = .ok (.aload_n 0, 1) := by decide +kernel
theorem d_Model_article_70 : decode b_Model_article 70 = .ok (.getfield 7, 3) := by decide +kernel
theorem d_Model_article_73 : decode b_Model_article 73 = .ok (.iload_n 1, 1) := by decide +kernel
theorem d_Model_article_74 : decode b_Model_article 74 = .ok (.iload_n 2, 1) := by decide +kernel
theorem d_Model_article_75 : decode b_Model_article 75 = .ok (.iastore, 1) := by decide +kernel
theorem d_Model_article_76 : decode b_Model_article 76 = .ok (.aload_n 0, 1) := by decide +kernel
theorem d_Model_article_77 : decode b_Model_article 77 = .ok (.getfield 13, 3) := by decide +kernel
theorem d_Model_article_80 : decode b_Model_article 80 = .ok (.iload_n 1, 1) := by decide +kernel
theorem d_Model_article_81 : decode b_Model_article 81 = .ok (.iload_n 3, 1) := by decide +kernel
theorem d_Model_article_82 : decode b_Model_article 82 = .ok (.iastore, 1) := by decide +kernel
theorem d_Model_article_83 : decode b_Model_article 83 = .ok (.return_, 1) := by decide +kernel
theorem d_Model_offer_0 : decode b_Model_offer 0 = .ok (.iload_n 1, 1) := by decide +kernel
theorem d_Model_offer_1 : decode b_Model_offer 1 = .ok (.iconst 0, 1) := by decide +kernel
theorem d_Model_offer_2 : decode b_Model_offer 2 = .ok (.iconst 5, 1) := by decide +kernel
theorem d_Model_offer_3 : decode b_Model_offer 3 = .ok (.invokestatic 105, 3) := by decide +kernel
theorem d_Model_offer_6 : decode b_Model_offer 6 = .ok (.ifCond .eq 46, 3) := by decide +kernel
theorem d_Model_offer_9 : decode b_Model_offer 9 = .ok (.iload_n 2, 1) := by decide +kernel
theorem d_Model_offer_10 : decode b_Model_offer 10 = .ok (.iconst 0, 1) := by decide +kernel
theorem d_Model_offer_11 : decode b_Model_offer 11 = .ok (.iconst 3, 1) := by decide +kernel
theorem d_Model_offer_12 : decode b_Model_offer 12 = .ok (.invokestatic 105, 3) := by decide +kernel
theorem d_Model_offer_15 : decode b_Model_offer 15 = .ok (.ifCond .eq 37, 3) := by decide +kernel
theorem d_Model_offer_18 : decode b_Model_offer 18 = .ok (.iload_n 3, 1) := by decide +kernel
theorem d_Model_offer_19 : decode b_Model_offer 19 = .ok (.iconst 2, 1) := by decide +kernel
theorem d_Model_offer_20 : decode b_Model_offer 20 = .ok (.iconst 4, 1) := by decide +kernel
theorem d_Model_offer_21 : decode b_Model_offer 21 = .ok (.invokestatic 105, 3) := by decide +kernel
theorem d_Model_offer_24 : decode b_Model_offer 24 = .ok (.ifCond .eq 28, 3) := by decide +kernel
theorem d_Model_offer_27 : decode b_Model_offer 27 = .ok (.iload 4, 2) := by decide +kernel
theorem d_Model_offer_29 : decode b_Model_offer 29 = .ok (.iconst 0, 1) := by decide +kernel
theorem d_Model_offer_30 : decode b_Model_offer 30 = .ok (.ldc 113, 2) := by decide +kernel
theorem d_Model_offer_32 : decode b_Model_offer 32 = .ok (.invokestatic 105, 3) := by decide +kernel
theorem d_Model_offer_35 : decode b_Model_offer 35 = .ok (.ifCond .eq 17, 3) := by decide +kernel
theorem d_Model_offer_38 : decode b_Model_offer 38 = .ok (.iload 5, 2) := by decide +kernel
theorem d_Model_offer_40 : decode b_Model_offer 40 = .ok (.iconst 0, 1) := by decide +kernel
theorem d_Model_offer_41 : decode b_Model_offer 41 = .ok (.iconst 5, 1) := by decide +kernel
theorem d_Model_offer_42 : decode b_Model_offer 42 = .ok (.invokestatic 105, 3) := by decide +kernel
theorem d_Model_offer_45 : decode b_Model_offer 45 = .ok (.ifCond .eq 7, 3) := by decide +kernel
theorem d_Model_offer_48 : decode b_Model_offer 48 = .ok (.iconst 1, 1) := by decide +kernel
theorem d_Model_offer_49 : decode b_Model_offer 49 = .ok (.goto 4, 3) := by decide +kernel
theorem d_Model_offer_52 : decode b_Model_offer 52 = .ok (.iconst 0, 1) := by decide +kernel
theorem d_Model_offer_53 : decode b_Model_offer 53 = .ok (.istore 6, 2) := by decide +kernel
theorem d_Model_offer_55 : decode b_Model_offer 55 = .ok (.aload_n 0, 1) := by decide +kernel
theorem d_Model_offer_56 : decode b_Model_offer 56 = .ok (.iload 6, 2) := by decide +kernel
theorem d_Model_offer_58 : decode b_Model_offer 58 = .ok (.ifCond .ne 7, 3) := by decide +kernel
theorem d_Model_offer_61 : decode b_Model_offer 61 = .ok (.iconst 1, 1) := by decide +kernel
theorem d_Model_offer_62 : decode b_Model_offer 62 = .ok (.goto 15, 3) := by decide +kernel
theorem d_Model_offer_65 : decode b_Model_offer 65 = .ok (.aload_n 0, 1) := by decide +kernel
theorem d_Model_offer_66 : decode b_Model_offer 66 = .ok (.getfield 110, 3) := by decide +kernel
theorem d_Model_offer_69 : decode b_Model_offer 69 = .ok (.ifCond .le 7, 3) := by decide +kernel
theorem d_Model_offer_72 : decode b_Model_offer 72 = .ok (.iconst 2, 1) := by decide +kernel
theorem d_Model_offer_73 : decode b_Model_offer 73 = .ok (.goto 4, 3) := by decide +kernel
theorem d_Model_offer_76 : decode b_Model_offer 76 = .ok (.iconst 0, 1) := by decide +kernel
theorem d_Model_offer_77 : decode b_Model_offer 77 = .ok (.putfield 101, 3) := by decide +kernel
theorem d_Model_offer_80 : decode b_Model_offer 80 = .ok (.aload_n 0, 1) := by decide +kernel
theorem d_Model_offer_81 : decode b_Model_offer 81 = .ok (.getfield 101, 3) := by decide +kernel
theorem d_Model_offer_84 : decode b_Model_offer 84 = .ok (.ifCond .eq 4, 3) := by decide +kernel
theorem d_Model_offer_87 : decode b_Model_offer 87 = .ok (.return_, 1) := by decide +kernel
theorem d_Model_offer_88 : decode b_Model_offer 88 = .ok (.bipush 72, 2) := by decide +kernel
theorem d_Model_offer_90 : decode b_Model_offer 90 = .ok (.iload_n 1, 1) := by decide +kernel
theorem d_Model_offer_91 : decode b_Model_offer 91 = .ok (.iadd, 1) := by decide +kernel
theorem d_Model_offer_92 : decode b_Model_offer 92 = .ok (.istore 7, 2) := by decide +kernel
theorem d_Model_offer_94 : decode b_Model_offer 94 = .ok (.aload_n 0, 1) := by decide +kernel
theorem d_Model_offer_95 : decode b_Model_offer 95 = .ok (.getfield 16, 3) := by decide +kernel
theorem d_Model_offer_98 : decode b_Model_offer 98 = .ok (.iload 7, 2) := by decide +kernel
theorem d_Model_offer_100 : decode b_Model_offer 100 = .ok (.iload_n 2, 1) := by decide +kernel
theorem d_Model_offer_101 : decode b_Model_offer 101 = .ok (.iastore, 1) := by decide +kernel
theorem d_Model_offer_102 : decode b_Model_offer 102 = .ok (.aload_n 0, 1) := by decide +kernel
theorem d_Model_offer_103 : decode b_Model_offer 103 = .ok (.getfield 19, 3) := by decide +kernel
theorem d_Model_offer_106 : decode b_Model_offer 106 = .ok (.iload 7, 2) := by decide +kernel
theorem d_Model_offer_108 : decode b_Model_offer 108 = .ok (.iload_n 3, 1) := by decide +kernel
theorem d_Model_offer_109 : decode b_Model_offer 109 = .ok (.iastore, 1) := by decide +kernel
theorem d_Model_offer_110 : decode b_Model_offer 110 = .ok (.aload_n 0, 1) := by decide +kernel
theorem d_Model_offer_111 : decode b_Model_offer 111 = .ok (.getfield 22, 3) := by decide +kernel
theorem d_Model_offer_114 : decode b_Model_offer 114 = .ok (.iload 7, 2) := by decide +kernel
theorem d_Model_offer_116 : decode b_Model_offer 116 = .ok (.iload 4, 2) := by decide +kernel
theorem d_Model_offer_118 : decode b_Model_offer 118 = .ok (.iastore, 1) := by decide +kernel
theorem d_Model_offer_119 : decode b_Model_offer 119 = .ok (.aload_n 0, 1) := by decide +kernel
theorem d_Model_offer_120 : decode b_Model_offer 120 = .ok (.getfield 25, 3) := by decide +kernel
theorem d_Model_offer_123 : decode b_Model_offer 123 = .ok (.iload 7, 2) := by decide +kernel
theorem d_Model_offer_125 : decode b_Model_offer 125 = .ok (.iload 5, 2) := by decide +kernel
theorem d_Model_offer_127 : decode b_Model_offer 127 = .ok (.iastore, 1) := by decide +kernel
theorem d_Model_offer_128 : decode b_Model_offer 128 = .ok (.return_, 1) := by decide +kernel
theorem d_Model_member_0 : decode b_Model_member 0 = .ok (.iload_n 1, 1) := by decide +kernel
theorem d_Model_member_1 : decode b_Model_member 1 = .ok (.iconst 0, 1) := by decide +kernel
theorem d_Model_member_2 : decode b_Model_member 2 = .ok (.iconst 5, 1) := by decide +kernel
theorem d_Model_member_3 : decode b_Model_member 3 = .ok (.invokestatic 105, 3) := by decide +kernel
theorem d_Model_member_6 : decode b_Model_member 6 = .ok (.ifCond .eq 26, 3) := by decide +kernel
theorem d_Model_member_9 : decode b_Model_member 9 = .ok (.iload_n 2, 1) := by decide +kernel
theorem d_Model_member_10 : decode b_Model_member 10 = .ok (.iconst 0, 1) := by decide +kernel
theorem d_Model_member_11 : decode b_Model_member 11 = .ok (.iconst 3, 1) := by decide +kernel
theorem d_Model_member_12 : decode b_Model_member 12 = .ok (.invokestatic 105, 3) := by decide +kernel
theorem d_Model_member_15 : decode b_Model_member 15 = .ok (.ifCond .eq 17, 3) := by decide +kernel
theorem d_Model_member_18 : decode b_Model_member 18 = .ok (.iload_n 3, 1) := by decide +kernel
theorem d_Model_member_19 : decode b_Model_member 19 = .ok (.iconst 0, 1) := by decide +kernel
theorem d_Model_member_20 : decode b_Model_member 20 = .ok (.bipush 11, 2) := by decide +kernel
theorem d_Model_member_22 : decode b_Model_member 22 = .ok (.invokestatic 105, 3) := by decide +kernel
theorem d_Model_member_25 : decode b_Model_member 25 = .ok (.ifCond .eq 7, 3) := by decide +kernel
theorem d_Model_member_28 : decode b_Model_member 28 = .ok (.iconst 1, 1) := by decide +kernel
theorem d_Model_member_29 : decode b_Model_member 29 = .ok (.goto 4, 3) := by decide +kernel
theorem d_Model_member_32 : decode b_Model_member 32 = .ok (.iconst 0, 1) := by decide +kernel
theorem d_Model_member_33 : decode b_Model_member 33 = .ok (.istore 5, 2) := by decide +kernel
theorem d_Model_member_35 : decode b_Model_member 35 = .ok (.aload_n 0, 1) := by decide +kernel
theorem d_Model_member_36 : decode b_Model_member 36 = .ok (.iload 5, 2) := by decide +kernel
theorem d_Model_member_38 : decode b_Model_member 38 = .ok (.ifCond .ne 7, 3) := by decide +kernel
theorem d_Model_member_41 : decode b_Model_member 41 = .ok (.iconst 1, 1) := by decide +kernel
theorem d_Model_member_42 : decode b_Model_member 42 = .ok (.goto 15, 3) := by decide +kernel
theorem d_Model_member_45 : decode b_Model_member 45 = .ok (.aload_n 0, 1) := by decide +kernel
theorem d_Model_member_46 : decode b_Model_member 46 = .ok (.getfield 110, 3) := by decide +kernel
theorem d_Model_member_49 : decode b_Model_member 49 = .ok (.ifCond .le 7, 3) := by decide +kernel
theorem d_Model_member_52 : decode b_Model_member 52 = .ok (.iconst 2, 1) := by decide +kernel
theorem d_Model_member_53 : decode b_Model_member 53 = .ok (.goto 4, 3) := by decide +kernel
theorem d_Model_member_56 : decode b_Model_member 56 = .ok (.iconst 0, 1) := by decide +kernel
theorem d_Model_member_57 : decode b_Model_member 57 = .ok (.putfield 101, 3) := by decide +kernel
theorem d_Model_member_60 : decode b_Model_member 60 = .ok (.aload_n 0, 1) := by decide +kernel
theorem d_Model_member_61 : decode b_Model_member 61 = .ok (.getfield 101, 3) := by decide +kernel
theorem d_Model_member_64 : decode b_Model_member 64 = .ok (.ifCond .eq 4, 3) := by decide +kernel
theorem d_Model_member_67 : decode b_Model_member 67 = .ok (.return_, 1) := by decide +kernel
theorem d_Model_member_68 : decode b_Model_member 68 = .ok (.iconst 4, 1) := by decide +kernel
theorem d_Model_member_69 : decode b_Model_member 69 = .ok (.bipush 72, 2) := by decide +kernel
theorem d_Model_member_71 : decode b_Model_member 71 = .ok (.iload_n 1, 1) := by decide +kernel
theorem d_Model_member_72 : decode b_Model_member 72 = .ok (.iadd, 1) := by decide +kernel
theorem d_Model_member_73 : decode b_Model_member 73 = .ok (.imul, 1) := by decide +kernel
theorem d_Model_member_74 : decode b_Model_member 74 = .ok (.iload_n 2, 1) := by decide +kernel
theorem d_Model_member_75 : decode b_Model_member 75 = .ok (.iadd, 1) := by decide +kernel
theorem d_Model_member_76 : decode b_Model_member 76 = .ok (.istore 6, 2) := by decide +kernel
theorem d_Model_member_78 : decode b_Model_member 78 = .ok (.aload_n 0, 1) := by decide +kernel
theorem d_Model_member_79 : decode b_Model_member 79 = .ok (.getfield 32, 3) := by decide +kernel
theorem d_Model_member_82 : decode b_Model_member 82 = .ok (.iload 6, 2) := by decide +kernel
theorem d_Model_member_84 : decode b_Model_member 84 = .ok (.iload 4, 2) := by decide +kernel
theorem d_Model_member_86 : decode b_Model_member 86 = .ok (.ifCond .eq 17, 3) := by decide +kernel
theorem d_Model_member_89 : decode b_Model_member 89 = .ok (.aload_n 0, 1) := by decide +kernel
theorem d_Model_member_90 : decode b_Model_member 90 = .ok (.getfield 32, 3) := by decide +kernel
theorem d_Model_member_93 : decode b_Model_member 93 = .ok (.iload 6, 2) := by decide +kernel
theorem d_Model_member_95 : decode b_Model_member 95 = .ok (.iaload, 1) := by decide +kernel
theorem d_Model_member_96 : decode b_Model_member 96 = .ok (.iconst 1, 1) := by decide +kernel
theorem d_Model_member_97 : decode b_Model_member 97 = .ok (.iload_n 3, 1) := by decide +kernel
theorem d_Model_member_98 : decode b_Model_member 98 = .ok (.ishl, 1) := by decide +kernel
theorem d_Model_member_99 : decode b_Model_member 99 = .ok (.ior, 1) := by decide +kernel
theorem d_Model_member_100 : decode b_Model_member 100 = .ok (.goto 16, 3) := by decide +kernel
theorem d_Model_member_103 : decode b_Model_member 103 = .ok (.aload_n 0, 1) := by decide +kernel
theorem d_Model_member_104 : decode b_Model_member 104 = .ok (.getfield 32, 3) := by decide +kernel
theorem d_Model_member_107 : decode b_Model_member 107 = .ok (.iload 6, 2) := by decide +kernel
theorem d_Model_member_109 : decode b_Model_member 109 = .ok (.iaload, 1) := by decide +kernel
theorem d_Model_member_110 : decode b_Model_member 110 = .ok (.iconst 1, 1) := by decide +kernel
theorem d_Model_member_111 : decode b_Model_member 111 = .ok (.iload_n 3, 1) := by decide +kernel
theorem d_Model_member_112 : decode b_Model_member 112 = .ok (.ishl, 1) := by decide +kernel
theorem d_Model_member_113 : decode b_Model_member 113 = .ok (.iconst (-1), 1) := by decide +kernel
theorem d_Model_member_114 : decode b_Model_member 114 = .ok (.ixor, 1) := by decide +kernel
theorem d_Model_member_115 : decode b_Model_member 115 = .ok (.iand, 1) := by decide +kernel
theorem d_Model_member_116 : decode b_Model_member 116 = .ok (.iastore, 1) := by decide +kernel
theorem d_Model_member_117 : decode b_Model_member 117 = .ok (.return_, 1) := by decide +kernel
theorem d_Model_run_0 : decode b_Model_run 0 = .ok (.aload_n 0, 1) := by decide +kernel
theorem d_Model_run_1 : decode b_Model_run 1 = .ok (.iload_n 1, 1) := by decide +kernel
theorem d_Model_run_2 : decode b_Model_run 2 = .ok (.iconst 0, 1) := by decide +kernel
theorem d_Model_run_3 : decode b_Model_run 3 = .ok (.iconst 5, 1) := by decide +kernel
theorem d_Model_run_4 : decode b_Model_run 4 = .ok (.invokestatic 105, 3) := by decide +kernel
theorem d_Model_run_7 : decode b_Model_run 7 = .ok (.ifCond .ne 7, 3) := by decide +kernel
theorem d_Model_run_10 : decode b_Model_run 10 = .ok (.iconst 1, 1) := by decide +kernel
theorem d_Model_run_11 : decode b_Model_run 11 = .ok (.goto 15, 3) := by decide +kernel
theorem d_Model_run_14 : decode b_Model_run 14 = .ok (.aload_n 0, 1) := by decide +kernel
theorem d_Model_run_15 : decode b_Model_run 15 = .ok (.getfield 110, 3) := by decide +kernel
theorem d_Model_run_18 : decode b_Model_run 18 = .ok (.ifCond .le 7, 3) := by decide +kernel
theorem d_Model_run_21 : decode b_Model_run 21 = .ok (.iconst 2, 1) := by decide +kernel
theorem d_Model_run_22 : decode b_Model_run 22 = .ok (.goto 4, 3) := by decide +kernel
theorem d_Model_run_25 : decode b_Model_run 25 = .ok (.iconst 0, 1) := by decide +kernel
theorem d_Model_run_26 : decode b_Model_run 26 = .ok (.putfield 101, 3) := by decide +kernel
theorem d_Model_run_29 : decode b_Model_run 29 = .ok (.aload_n 0, 1) := by decide +kernel
theorem d_Model_run_30 : decode b_Model_run 30 = .ok (.getfield 101, 3) := by decide +kernel
theorem d_Model_run_33 : decode b_Model_run 33 = .ok (.ifCond .ne 13, 3) := by decide +kernel
theorem d_Model_run_36 : decode b_Model_run 36 = .ok (.aload_n 0, 1) := by decide +kernel
theorem d_Model_run_37 : decode b_Model_run 37 = .ok (.getfield 28, 3) := by decide +kernel
theorem d_Model_run_40 : decode b_Model_run 40 = .ok (.bipush 72, 2) := by decide +kernel
theorem d_Model_run_42 : decode b_Model_run 42 = .ok (.iload_n 1, 1) := by decide +kernel
theorem d_Model_run_43 : decode b_Model_run 43 = .ok (.iadd, 1) := by decide +kernel
theorem d_Model_run_44 : decode b_Model_run 44 = .ok (.iload_n 2, 1) := by decide +kernel
theorem d_Model_run_45 : decode b_Model_run 45 = .ok (.bastore, 1) := by decide +kernel
theorem d_Model_run_46 : decode b_Model_run 46 = .ok (.return_, 1) := by decide +kernel
theorem d_Model_lengthOf_0 : decode b_Model_lengthOf 0 = .ok (.aload_n 0, 1) := by decide +kernel
theorem d_Model_lengthOf_1 : decode b_Model_lengthOf 1 = .ok (.getfield 16, 3) := by decide +kernel
theorem d_Model_lengthOf_4 : decode b_Model_lengthOf 4 = .ok (.iload_n 1, 1) := by decide +kernel
theorem d_Model_lengthOf_5 : decode b_Model_lengthOf 5 = .ok (.iaload, 1) := by decide +kernel
theorem d_Model_lengthOf_6 : decode b_Model_lengthOf 6 = .ok (.iconst 3, 1) := by decide +kernel
theorem d_Model_lengthOf_7 : decode b_Model_lengthOf 7 = .ok (.if_icmp .ne 7, 3) := by decide +kernel
theorem d_Model_lengthOf_10 : decode b_Model_lengthOf 10 = .ok (.iconst 2, 1) := by decide +kernel
theorem d_Model_lengthOf_11 : decode b_Model_lengthOf 11 = .ok (.goto 9, 3) := by decide +kernel
theorem d_Model_lengthOf_14 : decode b_Model_lengthOf 14 = .ok (.aload_n 0, 1) := by decide +kernel
theorem d_Model_lengthOf_15 : decode b_Model_lengthOf 15 = .ok (.getfield 19, 3) := by decide +kernel
theorem d_Model_lengthOf_18 : decode b_Model_lengthOf 18 = .ok (.iload_n 1, 1) := by decide +kernel
theorem d_Model_lengthOf_19 : decode b_Model_lengthOf 19 = .ok (.iaload, 1) := by decide +kernel
theorem d_Model_lengthOf_20 : decode b_Model_lengthOf 20 = .ok (.ireturn, 1) := by decide +kernel
theorem d_Model_setOf_0 : decode b_Model_setOf 0 = .ok (.aload_n 0, 1) := by decide +kernel
theorem d_Model_setOf_1 : decode b_Model_setOf 1 = .ok (.getfield 32, 3) := by decide +kernel
theorem d_Model_setOf_4 : decode b_Model_setOf 4 = .ok (.iconst 4, 1) := by decide +kernel
theorem d_Model_setOf_5 : decode b_Model_setOf 5 = .ok (.iload_n 1, 1) := by decide +kernel
theorem d_Model_setOf_6 : decode b_Model_setOf 6 = .ok (.imul, 1) := by decide +kernel
theorem d_Model_setOf_7 : decode b_Model_setOf 7 = .ok (.aload_n 0, 1) := by decide +kernel
theorem d_Model_setOf_8 : decode b_Model_setOf 8 = .ok (.getfield 16, 3) := by decide +kernel
theorem d_Model_setOf_11 : decode b_Model_setOf 11 = .ok (.iload_n 1, 1) := by decide +kernel
theorem d_Model_setOf_12 : decode b_Model_setOf 12 = .ok (.iaload, 1) := by decide +kernel
theorem d_Model_setOf_13 : decode b_Model_setOf 13 = .ok (.iconst 2, 1) := by decide +kernel
theorem d_Model_setOf_14 : decode b_Model_setOf 14 = .ok (.if_icmp .ne 7, 3) := by decide +kernel
theorem d_Model_setOf_17 : decode b_Model_setOf 17 = .ok (.iload_n 2, 1) := by decide +kernel
theorem d_Model_setOf_18 : decode b_Model_setOf 18 = .ok (.goto 4, 3) := by decide +kernel
theorem d_Model_setOf_21 : decode b_Model_setOf 21 = .ok (.iconst 0, 1) := by decide +kernel
theorem d_Model_setOf_22 : decode b_Model_setOf 22 = .ok (.iadd, 1) := by decide +kernel
theorem d_Model_setOf_23 : decode b_Model_setOf 23 = .ok (.iaload, 1) := by decide +kernel
theorem d_Model_setOf_24 : decode b_Model_setOf 24 = .ok (.ireturn, 1) := by decide +kernel
theorem d_Model_looked_0 : decode b_Model_looked 0 = .ok (.iconst 0, 1) := by decide +kernel
theorem d_Model_looked_1 : decode b_Model_looked 1 = .ok (.istore_n 2, 1) := by decide +kernel
theorem d_Model_looked_2 : decode b_Model_looked 2 = .ok (.iconst 0, 1) := by decide +kernel
theorem d_Model_looked_3 : decode b_Model_looked 3 = .ok (.istore_n 3, 1) := by decide +kernel
theorem d_Model_looked_4 : decode b_Model_looked 4 = .ok (.iload_n 3, 1) := by decide +kernel
theorem d_Model_looked_5 : decode b_Model_looked 5 = .ok (.aload_n 0, 1) := by decide +kernel
theorem d_Model_looked_6 : decode b_Model_looked 6 = .ok (.iload_n 1, 1) := by decide +kernel
theorem d_Model_looked_7 : decode b_Model_looked 7 = .ok (.invokevirtual 114, 3) := by decide +kernel
theorem d_Model_looked_10 : decode b_Model_looked 10 = .ok (.if_icmp .ge 18, 3) := by decide +kernel
theorem d_Model_looked_13 : decode b_Model_looked 13 = .ok (.iload_n 2, 1) := by decide +kernel
theorem d_Model_looked_14 : decode b_Model_looked 14 = .ok (.aload_n 0, 1) := by decide +kernel
theorem d_Model_looked_15 : decode b_Model_looked 15 = .ok (.iload_n 1, 1) := by decide +kernel
theorem d_Model_looked_16 : decode b_Model_looked 16 = .ok (.iload_n 3, 1) := by decide +kernel
theorem d_Model_looked_17 : decode b_Model_looked 17 = .ok (.invokevirtual 118, 3) := by decide +kernel
theorem d_Model_looked_20 : decode b_Model_looked 20 = .ok (.ior, 1) := by decide +kernel
theorem d_Model_looked_21 : decode b_Model_looked 21 = .ok (.istore_n 2, 1) := by decide +kernel
theorem d_Model_looked_22 : decode b_Model_looked 22 = .ok (.iinc 3 1, 3) := by decide +kernel
theorem d_Model_looked_25 : decode b_Model_looked 25 = .ok (.goto (-21), 3) := by decide +kernel
theorem d_Model_looked_28 : decode b_Model_looked 28 = .ok (.iload_n 2, 1) := by decide +kernel
theorem d_Model_looked_29 : decode b_Model_looked 29 = .ok (.ireturn, 1) := by decide +kernel
theorem d_Model_looksAt_0 : decode b_Model_looksAt 0 = .ok (.iconst 0, 1) := by decide +kernel
theorem d_Model_looksAt_1 : decode b_Model_looksAt 1 = .ok (.istore_n 2, 1) := by decide +kernel
theorem d_Model_looksAt_2 : decode b_Model_looksAt 2 = .ok (.iload_n 2, 1) := by decide +kernel
theorem d_Model_looksAt_3 : decode b_Model_looksAt 3 = .ok (.bipush 6, 2) := by decide +kernel
theorem d_Model_looksAt_5 : decode b_Model_looksAt 5 = .ok (.if_icmp .ge 49, 3) := by decide +kernel
theorem d_Model_looksAt_8 : decode b_Model_looksAt 8 = .ok (.aload_n 0, 1) := by decide +kernel
theorem d_Model_looksAt_9 : decode b_Model_looksAt 9 = .ok (.getfield 28, 3) := by decide +kernel
theorem d_Model_looksAt_12 : decode b_Model_looksAt 12 = .ok (.bipush 6, 2) := by decide +kernel
theorem d_Model_looksAt_14 : decode b_Model_looksAt 14 = .ok (.aload_n 0, 1) := by decide +kernel
theorem d_Model_looksAt_15 : decode b_Model_looksAt 15 = .ok (.getfield 122, 3) := by decide +kernel
theorem d_Model_looksAt_18 : decode b_Model_looksAt 18 = .ok (.imul, 1) := by decide +kernel
theorem d_Model_looksAt_19 : decode b_Model_looksAt 19 = .ok (.iload_n 2, 1) := by decide +kernel
theorem d_Model_looksAt_20 : decode b_Model_looksAt 20 = .ok (.iadd, 1) := by decide +kernel
theorem d_Model_looksAt_21 : decode b_Model_looksAt 21 = .ok (.baload, 1) := by decide +kernel
theorem d_Model_looksAt_22 : decode b_Model_looksAt 22 = .ok (.ifCond .eq 26, 3) := by decide +kernel
theorem d_Model_looksAt_25 : decode b_Model_looksAt 25 = .ok (.aload_n 0, 1) := by decide +kernel
theorem d_Model_looksAt_26 : decode b_Model_looksAt 26 = .ok (.bipush 6, 2) := by decide +kernel
theorem d_Model_looksAt_28 : decode b_Model_looksAt 28 = .ok (.aload_n 0, 1) := by decide +kernel
theorem d_Model_looksAt_29 : decode b_Model_looksAt 29 = .ok (.getfield 122, 3) := by decide +kernel
theorem d_Model_looksAt_32 : decode b_Model_looksAt 32 = .ok (.imul, 1) := by decide +kernel
theorem d_Model_looksAt_33 : decode b_Model_looksAt 33 = .ok (.iload_n 2, 1) := by decide +kernel
theorem d_Model_looksAt_34 : decode b_Model_looksAt 34 = .ok (.iadd, 1) := by decide +kernel
theorem d_Model_looksAt_35 : decode b_Model_looksAt 35 = .ok (.invokevirtual 125, 3) := by decide +kernel
theorem d_Model_looksAt_38 : decode b_Model_looksAt 38 = .ok (.iload_n 1, 1) := by decide +kernel
theorem d_Model_looksAt_39 : decode b_Model_looksAt 39 = .ok (.ishr, 1) := by decide +kernel
theorem d_Model_looksAt_40 : decode b_Model_looksAt 40 = .ok (.iconst 1, 1) := by decide +kernel
theorem d_Model_looksAt_41 : decode b_Model_looksAt 41 = .ok (.iand, 1) := by decide +kernel
theorem d_Model_looksAt_42 : decode b_Model_looksAt 42 = .ok (.iconst 1, 1) := by decide +kernel
theorem d_Model_looksAt_43 : decode b_Model_looksAt 43 = .ok (.if_icmp .ne 5, 3) := by decide +kernel
theorem d_Model_looksAt_46 : decode b_Model_looksAt 46 = .ok (.iconst 1, 1) := by decide +kernel
theorem d_Model_looksAt_47 : decode b_Model_looksAt 47 = .ok (.ireturn, 1) := by decide +kernel
theorem d_Model_looksAt_48 : decode b_Model_looksAt 48 = .ok (.iinc 2 1, 3) := by decide +kernel
theorem d_Model_looksAt_51 : decode b_Model_looksAt 51 = .ok (.goto (-49), 3) := by decide +kernel
theorem d_Model_looksAt_54 : decode b_Model_looksAt 54 = .ok (.iconst 0, 1) := by decide +kernel
theorem d_Model_looksAt_55 : decode b_Model_looksAt 55 = .ok (.ireturn, 1) := by decide +kernel
theorem d_Model_beginUses_0 : decode b_Model_beginUses 0 = .ok (.aload_n 0, 1) := by decide +kernel
theorem d_Model_beginUses_1 : decode b_Model_beginUses 1 = .ok (.iconst 0, 1) := by decide +kernel
theorem d_Model_beginUses_2 : decode b_Model_beginUses 2 = .ok (.putfield 128, 3) := by decide +kernel
theorem d_Model_beginUses_5 : decode b_Model_beginUses 5 = .ok (.aload_n 0, 1) := by decide +kernel
theorem d_Model_beginUses_6 : decode b_Model_beginUses 6 = .ok (.aload_n 0, 1) := by decide +kernel
theorem d_Model_beginUses_7 : decode b_Model_beginUses 7 = .ok (.iload_n 1, 1) := by decide +kernel
theorem d_Model_beginUses_8 : decode b_Model_beginUses 8 = .ok (.invokevirtual 114, 3) := by decide +kernel
theorem d_Model_beginUses_11 : decode b_Model_beginUses 11 = .ok (.putfield 131, 3) := by decide +kernel
theorem d_Model_beginUses_14 : decode b_Model_beginUses 14 = .ok (.aload_n 0, 1) := by decide +kernel
theorem d_Model_beginUses_15 : decode b_Model_beginUses 15 = .ok (.getfield 86, 3) := by decide +kernel
theorem d_Model_beginUses_18 : decode b_Model_beginUses 18 = .ok (.iconst 0, 1) := by decide +kernel
theorem d_Model_beginUses_19 : decode b_Model_beginUses 19 = .ok (.iconst (-1), 1) := by decide +kernel
theorem d_Model_beginUses_20 : decode b_Model_beginUses 20 = .ok (.iastore, 1) := by decide +kernel
theorem d_Model_beginUses_21 : decode b_Model_beginUses 21 = .ok (.return_, 1) := by decide +kernel
theorem d_Model_nextUse_0 : decode b_Model_nextUse 0 = .ok (.bipush 6, 2) := by decide +kernel
theorem d_Model_nextUse_2 : decode b_Model_nextUse 2 = .ok (.aload_n 0, 1) := by decide +kernel
theorem d_Model_nextUse_3 : decode b_Model_nextUse 3 = .ok (.getfield 122, 3) := by decide +kernel
theorem d_Model_nextUse_6 : decode b_Model_nextUse 6 = .ok (.imul, 1) := by decide +kernel
theorem d_Model_nextUse_7 : decode b_Model_nextUse 7 = .ok (.iload_n 1, 1) := by decide +kernel
theorem d_Model_nextUse_8 : decode b_Model_nextUse 8 = .ok (.iadd, 1) := by decide +kernel
theorem d_Model_nextUse_9 : decode b_Model_nextUse 9 = .ok (.istore_n 2, 1) := by decide +kernel
theorem d_Model_nextUse_10 : decode b_Model_nextUse 10 = .ok (.aload_n 0, 1) := by decide +kernel
theorem d_Model_nextUse_11 : decode b_Model_nextUse 11 = .ok (.getfield 28, 3) := by decide +kernel
theorem d_Model_nextUse_14 : decode b_Model_nextUse 14 = .ok (.iload_n 2, 1) := by decide +kernel
theorem d_Model_nextUse_15 : decode b_Model_nextUse 15 = .ok (.baload, 1) := by decide +kernel
theorem d_Model_nextUse_16 : decode b_Model_nextUse 16 = .ok (.ifCond .eq 21, 3) := by decide +kernel
theorem d_Model_nextUse_19 : decode b_Model_nextUse 19 = .ok (.aload_n 0, 1) := by decide +kernel
theorem d_Model_nextUse_20 : decode b_Model_nextUse 20 = .ok (.getfield 25, 3) := by decide +kernel
theorem d_Model_nextUse_23 : decode b_Model_nextUse 23 = .ok (.iload_n 2, 1) := by decide +kernel
theorem d_Model_nextUse_24 : decode b_Model_nextUse 24 = .ok (.iaload, 1) := by decide +kernel
theorem d_Model_nextUse_25 : decode b_Model_nextUse 25 = .ok (.ifCond .le 14, 3) := by decide +kernel
theorem d_Model_nextUse_28 : decode b_Model_nextUse 28 = .ok (.aload_n 0, 1) := by decide +kernel
theorem d_Model_nextUse_29 : decode b_Model_nextUse 29 = .ok (.getfield 71, 3) := by decide +kernel
theorem d_Model_nextUse_32 : decode b_Model_nextUse 32 = .ok (.iload_n 1, 1) := by decide +kernel
theorem d_Model_nextUse_33 : decode b_Model_nextUse 33 = .ok (.iaload, 1) := by decide +kernel
theorem d_Model_nextUse_34 : decode b_Model_nextUse 34 = .ok (.ifCond .ne 5, 3) := by decide +kernel
theorem d_Model_nextUse_37 : decode b_Model_nextUse 37 = .ok (.iconst 0, 1) := by decide +kernel
theorem d_Model_nextUse_38 : decode b_Model_nextUse 38 = .ok (.ireturn, 1) := by decide +kernel
theorem d_Model_nextUse_39 : decode b_Model_nextUse 39 = .ok (.aload_n 0, 1) := by decide +kernel
theorem d_Model_nextUse_40 : decode b_Model_nextUse 40 = .ok (.getfield 128, 3) := by decide +kernel
theorem d_Model_nextUse_43 : decode b_Model_nextUse 43 = .ok (.aload_n 0, 1) := by decide +kernel
theorem d_Model_nextUse_44 : decode b_Model_nextUse 44 = .ok (.getfield 131, 3) := by decide +kernel
theorem d_Model_nextUse_47 : decode b_Model_nextUse 47 = .ok (.if_icmp .ne 31, 3) := by decide +kernel
theorem d_Model_nextUse_50 : decode b_Model_nextUse 50 = .ok (.aload_n 0, 1) := by decide +kernel
theorem d_Model_nextUse_51 : decode b_Model_nextUse 51 = .ok (.dup, 1) := by decide +kernel
theorem d_Model_nextUse_52 : decode b_Model_nextUse 52 = .ok (.getfield 128, 3) := by decide +kernel
theorem d_Model_nextUse_55 : decode b_Model_nextUse 55 = .ok (.iconst 1, 1) := by decide +kernel
theorem d_Model_nextUse_56 : decode b_Model_nextUse 56 = .ok (.isub, 1) := by decide +kernel
theorem d_Model_nextUse_57 : decode b_Model_nextUse 57 = .ok (.putfield 128, 3) := by decide +kernel
theorem d_Model_nextUse_60 : decode b_Model_nextUse 60 = .ok (.aload_n 0, 1) := by decide +kernel
theorem d_Model_nextUse_61 : decode b_Model_nextUse 61 = .ok (.getfield 68, 3) := by decide +kernel
theorem d_Model_nextUse_64 : decode b_Model_nextUse 64 = .ok (.aload_n 0, 1) := by decide +kernel
theorem d_Model_nextUse_65 : decode b_Model_nextUse 65 = .ok (.getfield 86, 3) := by decide +kernel
theorem d_Model_nextUse_68 : decode b_Model_nextUse 68 = .ok (.aload_n 0, 1) := by decide +kernel
theorem d_Model_nextUse_69 : decode b_Model_nextUse 69 = .ok (.getfield 128, 3) := by decide +kernel
theorem d_Model_nextUse_72 : decode b_Model_nextUse 72 = .ok (.iaload, 1) := by decide +kernel
theorem d_Model_nextUse_73 : decode b_Model_nextUse 73 = .ok (.dup2, 1) := by decide +kernel
theorem d_Model_nextUse_74 : decode b_Model_nextUse 74 = .ok (.iaload, 1) := by decide +kernel
theorem d_Model_nextUse_75 : decode b_Model_nextUse 75 = .ok (.iconst 1, 1) := by decide +kernel
theorem d_Model_nextUse_76 : decode b_Model_nextUse 76 = .ok (.iadd, 1) := by decide +kernel
theorem d_Model_nextUse_77 : decode b_Model_nextUse 77 = .ok (.iastore, 1) := by decide +kernel
theorem d_Model_nextUse_78 : decode b_Model_nextUse 78 = .ok (.aload_n 0, 1) := by decide +kernel
theorem d_Model_nextUse_79 : decode b_Model_nextUse 79 = .ok (.getfield 128, 3) := by decide +kernel
theorem d_Model_nextUse_82 : decode b_Model_nextUse 82 = .ok (.ifCond .lt 199, 3) := by decide +kernel
theorem d_Model_nextUse_85 : decode b_Model_nextUse 85 = .ok (.aload_n 0, 1) := by decide +kernel
theorem d_Model_nextUse_86 : decode b_Model_nextUse 86 = .ok (.getfield 128, 3) := by decide +kernel
theorem d_Model_nextUse_89 : decode b_Model_nextUse 89 = .ok (.aload_n 0, 1) := by decide +kernel
theorem d_Model_nextUse_90 : decode b_Model_nextUse 90 = .ok (.getfield 131, 3) := by decide +kernel
theorem d_Model_nextUse_93 : decode b_Model_nextUse 93 = .ok (.if_icmp .ge 188, 3) := by decide +kernel
theorem d_Model_nextUse_96 : decode b_Model_nextUse 96 = .ok (.aload_n 0, 1) := by decide +kernel
theorem d_Model_nextUse_97 : decode b_Model_nextUse 97 = .ok (.getfield 86, 3) := by decide +kernel
theorem d_Model_nextUse_100 : decode b_Model_nextUse 100 = .ok (.aload_n 0, 1) := by decide +kernel
theorem d_Model_nextUse_101 : decode b_Model_nextUse 101 = .ok (.getfield 128, 3) := by decide +kernel
theorem d_Model_nextUse_104 : decode b_Model_nextUse 104 = .ok (.dup2, 1) := by decide +kernel
theorem d_Model_nextUse_105 : decode b_Model_nextUse 105 = .ok (.iaload, 1) := by decide +kernel
theorem d_Model_nextUse_106 : decode b_Model_nextUse 106 = .ok (.iconst 1, 1) := by decide +kernel
theorem d_Model_nextUse_107 : decode b_Model_nextUse 107 = .ok (.iadd, 1) := by decide +kernel
theorem d_Model_nextUse_108 : decode b_Model_nextUse 108 = .ok (.iastore, 1) := by decide +kernel
theorem d_Model_nextUse_109 : decode b_Model_nextUse 109 = .ok (.aload_n 0, 1) := by decide +kernel
theorem d_Model_nextUse_110 : decode b_Model_nextUse 110 = .ok (.getfield 86, 3) := by decide +kernel
theorem d_Model_nextUse_113 : decode b_Model_nextUse 113 = .ok (.aload_n 0, 1) := by decide +kernel
theorem d_Model_nextUse_114 : decode b_Model_nextUse 114 = .ok (.getfield 128, 3) := by decide +kernel
theorem d_Model_nextUse_117 : decode b_Model_nextUse 117 = .ok (.iaload, 1) := by decide +kernel
theorem d_Model_nextUse_118 : decode b_Model_nextUse 118 = .ok (.bipush 12, 2) := by decide +kernel
theorem d_Model_nextUse_120 : decode b_Model_nextUse 120 = .ok (.if_icmp .ne 41, 3) := by decide +kernel
theorem d_Model_nextUse_123 : decode b_Model_nextUse 123 = .ok (.aload_n 0, 1) := by decide +kernel
theorem d_Model_nextUse_124 : decode b_Model_nextUse 124 = .ok (.dup, 1) := by decide +kernel
theorem d_Model_nextUse_125 : decode b_Model_nextUse 125 = .ok (.getfield 128, 3) := by decide +kernel
theorem d_Model_nextUse_128 : decode b_Model_nextUse 128 = .ok (.iconst 1, 1) := by decide +kernel
theorem d_Model_nextUse_129 : decode b_Model_nextUse 129 = .ok (.isub, 1) := by decide +kernel
theorem d_Model_nextUse_130 : decode b_Model_nextUse 130 = .ok (.putfield 128, 3) := by decide +kernel
theorem d_Model_nextUse_133 : decode b_Model_nextUse 133 = .ok (.aload_n 0, 1) := by decide +kernel
theorem d_Model_nextUse_134 : decode b_Model_nextUse 134 = .ok (.getfield 128, 3) := by decide +kernel
theorem d_Model_nextUse_137 : decode b_Model_nextUse 137 = .ok (.ifCond .lt (-59), 3) := by decide +kernel
theorem d_Model_nextUse_140 : decode b_Model_nextUse 140 = .ok (.aload_n 0, 1) := by decide +kernel
theorem d_Model_nextUse_141 : decode b_Model_nextUse 141 = .ok (.getfield 68, 3) := by decide +kernel
theorem d_Model_nextUse_144 : decode b_Model_nextUse 144 = .ok (.aload_n 0, 1) := by decide +kernel
theorem d_Model_nextUse_145 : decode b_Model_nextUse 145 = .ok (.getfield 86, 3) := by decide +kernel
theorem d_Model_nextUse_148 : decode b_Model_nextUse 148 = .ok (.aload_n 0, 1) := by decide +kernel
theorem d_Model_nextUse_149 : decode b_Model_nextUse 149 = .ok (.getfield 128, 3) := by decide +kernel
theorem d_Model_nextUse_152 : decode b_Model_nextUse 152 = .ok (.iaload, 1) := by decide +kernel
theorem d_Model_nextUse_153 : decode b_Model_nextUse 153 = .ok (.dup2, 1) := by decide +kernel
theorem d_Model_nextUse_154 : decode b_Model_nextUse 154 = .ok (.iaload, 1) := by decide +kernel
theorem d_Model_nextUse_155 : decode b_Model_nextUse 155 = .ok (.iconst 1, 1) := by decide +kernel
theorem d_Model_nextUse_156 : decode b_Model_nextUse 156 = .ok (.iadd, 1) := by decide +kernel
theorem d_Model_nextUse_157 : decode b_Model_nextUse 157 = .ok (.iastore, 1) := by decide +kernel
theorem d_Model_nextUse_158 : decode b_Model_nextUse 158 = .ok (.goto (-80), 3) := by decide +kernel
theorem d_Model_nextUse_161 : decode b_Model_nextUse 161 = .ok (.aload_n 0, 1) := by decide +kernel
theorem d_Model_nextUse_162 : decode b_Model_nextUse 162 = .ok (.iload_n 2, 1) := by decide +kernel
theorem d_Model_nextUse_163 : decode b_Model_nextUse 163 = .ok (.aload_n 0, 1) := by decide +kernel
theorem d_Model_nextUse_164 : decode b_Model_nextUse 164 = .ok (.getfield 128, 3) := by decide +kernel
theorem d_Model_nextUse_167 : decode b_Model_nextUse 167 = .ok (.invokevirtual 118, 3) := by decide +kernel
theorem d_Model_nextUse_170 : decode b_Model_nextUse 170 = .ok (.aload_n 0, 1) := by decide +kernel
theorem d_Model_nextUse_171 : decode b_Model_nextUse 171 = .ok (.getfield 86, 3) := by decide +kernel
theorem d_Model_nextUse_174 : decode b_Model_nextUse 174 = .ok (.aload_n 0, 1) := by decide +kernel
theorem d_Model_nextUse_175 : decode b_Model_nextUse 175 = .ok (.getfield 128, 3) := by decide +kernel
theorem d_Model_nextUse_178 : decode b_Model_nextUse 178 = .ok (.iaload, 1) := by decide +kernel
theorem d_Model_nextUse_179 : decode b_Model_nextUse 179 = .ok (.ishr, 1) := by decide +kernel
theorem d_Model_nextUse_180 : decode b_Model_nextUse 180 = .ok (.iconst 1, 1) := by decide +kernel
theorem d_Model_nextUse_181 : decode b_Model_nextUse 181 = .ok (.iand, 1) := by decide +kernel
theorem d_Model_nextUse_182 : decode b_Model_nextUse 182 = .ok (.iconst 1, 1) := by decide +kernel
theorem d_Model_nextUse_183 : decode b_Model_nextUse 183 = .ok (.if_icmp .ne (-105), 3) := by decide +kernel
theorem d_Model_nextUse_186 : decode b_Model_nextUse 186 = .ok (.aload_n 0, 1) := by decide +kernel
theorem d_Model_nextUse_187 : decode b_Model_nextUse 187 = .ok (.getfield 68, 3) := by decide +kernel
theorem d_Model_nextUse_190 : decode b_Model_nextUse 190 = .ok (.aload_n 0, 1) := by decide +kernel
theorem d_Model_nextUse_191 : decode b_Model_nextUse 191 = .ok (.getfield 86, 3) := by decide +kernel
theorem d_Model_nextUse_194 : decode b_Model_nextUse 194 = .ok (.aload_n 0, 1) := by decide +kernel
theorem d_Model_nextUse_195 : decode b_Model_nextUse 195 = .ok (.getfield 128, 3) := by decide +kernel
theorem d_Model_nextUse_198 : decode b_Model_nextUse 198 = .ok (.iaload, 1) := by decide +kernel
theorem d_Model_nextUse_199 : decode b_Model_nextUse 199 = .ok (.iaload, 1) := by decide +kernel
theorem d_Model_nextUse_200 : decode b_Model_nextUse 200 = .ok (.ifCond .le (-122), 3) := by decide +kernel
theorem d_Model_nextUse_203 : decode b_Model_nextUse 203 = .ok (.aload_n 0, 1) := by decide +kernel
theorem d_Model_nextUse_204 : decode b_Model_nextUse 204 = .ok (.getfield 68, 3) := by decide +kernel
theorem d_Model_nextUse_207 : decode b_Model_nextUse 207 = .ok (.aload_n 0, 1) := by decide +kernel
theorem d_Model_nextUse_208 : decode b_Model_nextUse 208 = .ok (.getfield 86, 3) := by decide +kernel
theorem d_Model_nextUse_211 : decode b_Model_nextUse 211 = .ok (.aload_n 0, 1) := by decide +kernel
theorem d_Model_nextUse_212 : decode b_Model_nextUse 212 = .ok (.getfield 128, 3) := by decide +kernel
theorem d_Model_nextUse_215 : decode b_Model_nextUse 215 = .ok (.iaload, 1) := by decide +kernel
theorem d_Model_nextUse_216 : decode b_Model_nextUse 216 = .ok (.dup2, 1) := by decide +kernel
theorem d_Model_nextUse_217 : decode b_Model_nextUse 217 = .ok (.iaload, 1) := by decide +kernel
theorem d_Model_nextUse_218 : decode b_Model_nextUse 218 = .ok (.iconst 1, 1) := by decide +kernel
theorem d_Model_nextUse_219 : decode b_Model_nextUse 219 = .ok (.isub, 1) := by decide +kernel
theorem d_Model_nextUse_220 : decode b_Model_nextUse 220 = .ok (.iastore, 1) := by decide +kernel
theorem d_Model_nextUse_221 : decode b_Model_nextUse 221 = .ok (.aload_n 0, 1) := by decide +kernel
theorem d_Model_nextUse_222 : decode b_Model_nextUse 222 = .ok (.dup, 1) := by decide +kernel
theorem d_Model_nextUse_223 : decode b_Model_nextUse 223 = .ok (.getfield 128, 3) := by decide +kernel
theorem d_Model_nextUse_226 : decode b_Model_nextUse 226 = .ok (.iconst 1, 1) := by decide +kernel
theorem d_Model_nextUse_227 : decode b_Model_nextUse 227 = .ok (.iadd, 1) := by decide +kernel
theorem d_Model_nextUse_228 : decode b_Model_nextUse 228 = .ok (.putfield 128, 3) := by decide +kernel
theorem d_Model_nextUse_231 : decode b_Model_nextUse 231 = .ok (.aload_n 0, 1) := by decide +kernel
theorem d_Model_nextUse_232 : decode b_Model_nextUse 232 = .ok (.getfield 128, 3) := by decide +kernel
theorem d_Model_nextUse_235 : decode b_Model_nextUse 235 = .ok (.aload_n 0, 1) := by decide +kernel
theorem d_Model_nextUse_236 : decode b_Model_nextUse 236 = .ok (.getfield 131, 3) := by decide +kernel
theorem d_Model_nextUse_239 : decode b_Model_nextUse 239 = .ok (.if_icmp .ge (-161), 3) := by decide +kernel
theorem d_Model_nextUse_242 : decode b_Model_nextUse 242 = .ok (.aload_n 0, 1) := by decide +kernel
theorem d_Model_nextUse_243 : decode b_Model_nextUse 243 = .ok (.getfield 86, 3) := by decide +kernel
theorem d_Model_nextUse_246 : decode b_Model_nextUse 246 = .ok (.aload_n 0, 1) := by decide +kernel
theorem d_Model_nextUse_247 : decode b_Model_nextUse 247 = .ok (.getfield 128, 3) := by decide +kernel
theorem d_Model_nextUse_250 : decode b_Model_nextUse 250 = .ok (.aload_n 0, 1) := by decide +kernel
theorem d_Model_nextUse_251 : decode b_Model_nextUse 251 = .ok (.getfield 16, 3) := by decide +kernel
theorem d_Model_nextUse_254 : decode b_Model_nextUse 254 = .ok (.iload_n 2, 1) := by decide +kernel
theorem d_Model_nextUse_255 : decode b_Model_nextUse 255 = .ok (.iaload, 1) := by decide +kernel
theorem d_Model_nextUse_256 : decode b_Model_nextUse 256 = .ok (.iconst 2, 1) := by decide +kernel
theorem d_Model_nextUse_257 : decode b_Model_nextUse 257 = .ok (.if_icmp .ne 7, 3) := by decide +kernel
theorem d_Model_nextUse_260 : decode b_Model_nextUse 260 = .ok (.iconst (-1), 1) := by decide +kernel
theorem d_Model_nextUse_261 : decode b_Model_nextUse 261 = .ok (.goto 16, 3) := by decide +kernel
theorem d_Model_nextUse_264 : decode b_Model_nextUse 264 = .ok (.aload_n 0, 1) := by decide +kernel
theorem d_Model_nextUse_265 : decode b_Model_nextUse 265 = .ok (.getfield 86, 3) := by decide +kernel
theorem d_Model_nextUse_268 : decode b_Model_nextUse 268 = .ok (.aload_n 0, 1) := by decide +kernel
theorem d_Model_nextUse_269 : decode b_Model_nextUse 269 = .ok (.getfield 128, 3) := by decide +kernel
theorem d_Model_nextUse_272 : decode b_Model_nextUse 272 = .ok (.iconst 1, 1) := by decide +kernel
theorem d_Model_nextUse_273 : decode b_Model_nextUse 273 = .ok (.isub, 1) := by decide +kernel
theorem d_Model_nextUse_274 : decode b_Model_nextUse 274 = .ok (.iaload, 1) := by decide +kernel
theorem d_Model_nextUse_275 : decode b_Model_nextUse 275 = .ok (.iconst 1, 1) := by decide +kernel
theorem d_Model_nextUse_276 : decode b_Model_nextUse 276 = .ok (.isub, 1) := by decide +kernel
theorem d_Model_nextUse_277 : decode b_Model_nextUse 277 = .ok (.iastore, 1) := by decide +kernel
theorem d_Model_nextUse_278 : decode b_Model_nextUse 278 = .ok (.goto (-200), 3) := by decide +kernel
theorem d_Model_nextUse_281 : decode b_Model_nextUse 281 = .ok (.aload_n 0, 1) := by decide +kernel
theorem d_Model_nextUse_282 : decode b_Model_nextUse 282 = .ok (.getfield 128, 3) := by decide +kernel
theorem d_Model_nextUse_285 : decode b_Model_nextUse 285 = .ok (.aload_n 0, 1) := by decide +kernel
theorem d_Model_nextUse_286 : decode b_Model_nextUse 286 = .ok (.getfield 131, 3) := by decide +kernel
theorem d_Model_nextUse_289 : decode b_Model_nextUse 289 = .ok (.if_icmp .ne 7, 3) := by decide +kernel
