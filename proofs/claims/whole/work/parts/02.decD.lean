theorem dX6_in_0 : decode cX6_in 0 = .ok (.lload_n 0, 1) := by decide +kernel
theorem dX6_in_1 : decode cX6_in 1 = .ok (.lload_n 2, 1) := by decide +kernel
theorem dX6_in_2 : decode cX6_in 2 = .ok (.lcmp, 1) := by decide +kernel
theorem dX6_in_3 : decode cX6_in 3 = .ok (.ifCond .lt 14, 3) := by decide +kernel
theorem dX6_in_6 : decode cX6_in 6 = .ok (.lload_n 0, 1) := by decide +kernel
theorem dX6_in_7 : decode cX6_in 7 = .ok (.lload 4, 2) := by decide +kernel
theorem dX6_in_9 : decode cX6_in 9 = .ok (.lcmp, 1) := by decide +kernel
theorem dX6_in_10 : decode cX6_in 10 = .ok (.ifCond .gt 7, 3) := by decide +kernel
theorem dX6_in_13 : decode cX6_in 13 = .ok (.iconst 1, 1) := by decide +kernel
theorem dX6_in_14 : decode cX6_in 14 = .ok (.goto 4, 3) := by decide +kernel
theorem dX6_in_17 : decode cX6_in 17 = .ok (.iconst 0, 1) := by decide +kernel
theorem dX6_in_18 : decode cX6_in 18 = .ok (.ireturn, 1) := by decide +kernel
theorem dX6_within_0 : decode cX6_within 0 = .ok (.iload_n 0, 1) := by decide +kernel
theorem dX6_within_1 : decode cX6_within 1 = .ok (.iload_n 1, 1) := by decide +kernel
theorem dX6_within_2 : decode cX6_within 2 = .ok (.if_icmp .ge 7, 3) := by decide +kernel
theorem dX6_within_5 : decode cX6_within 5 = .ok (.iload_n 1, 1) := by decide +kernel
theorem dX6_within_6 : decode cX6_within 6 = .ok (.goto 13, 3) := by decide +kernel
theorem dX6_within_9 : decode cX6_within 9 = .ok (.iload_n 0, 1) := by decide +kernel
theorem dX6_within_10 : decode cX6_within 10 = .ok (.iload_n 2, 1) := by decide +kernel
theorem dX6_within_11 : decode cX6_within 11 = .ok (.if_icmp .le 7, 3) := by decide +kernel
theorem dX6_within_14 : decode cX6_within 14 = .ok (.iload_n 2, 1) := by decide +kernel
theorem dX6_within_15 : decode cX6_within 15 = .ok (.goto 4, 3) := by decide +kernel
theorem dX6_within_18 : decode cX6_within 18 = .ok (.iload_n 0, 1) := by decide +kernel
theorem dX6_within_19 : decode cX6_within 19 = .ok (.ireturn, 1) := by decide +kernel
theorem dX6_init_0 : decode cX6_init 0 = .ok (.aload_n 0, 1) := by decide +kernel
theorem dX6_init_1 : decode cX6_init 1 = .ok (.invokespecial 7, 3) := by decide +kernel
theorem dX6_init_4 : decode cX6_init 4 = .ok (.aload_n 0, 1) := by decide +kernel
theorem dX6_init_5 : decode cX6_init 5 = .ok (.sipush 960, 3) := by decide +kernel
theorem dX6_init_8 : decode cX6_init 8 = .ok (.newarray .int, 2) := by decide +kernel
theorem dX6_init_10 : decode cX6_init 10 = .ok (.putfield 13, 3) := by decide +kernel
theorem dX6_init_13 : decode cX6_init 13 = .ok (.aload_n 0, 1) := by decide +kernel
theorem dX6_init_14 : decode cX6_init 14 = .ok (.bipush 6, 2) := by decide +kernel
theorem dX6_init_16 : decode cX6_init 16 = .ok (.newarray .int, 2) := by decide +kernel
theorem dX6_init_18 : decode cX6_init 18 = .ok (.putfield 17, 3) := by decide +kernel
theorem dX6_init_21 : decode cX6_init 21 = .ok (.aload_n 0, 1) := by decide +kernel
theorem dX6_init_22 : decode cX6_init 22 = .ok (.sipush 160, 3) := by decide +kernel
theorem dX6_init_25 : decode cX6_init 25 = .ok (.newarray .int, 2) := by decide +kernel
theorem dX6_init_27 : decode cX6_init 27 = .ok (.putfield 20, 3) := by decide +kernel
theorem dX6_init_30 : decode cX6_init 30 = .ok (.aload_n 0, 1) := by decide +kernel
theorem dX6_init_31 : decode cX6_init 31 = .ok (.bipush 8, 2) := by decide +kernel
theorem dX6_init_33 : decode cX6_init 33 = .ok (.putfield 23, 3) := by decide +kernel
theorem dX6_init_36 : decode cX6_init 36 = .ok (.aload_n 0, 1) := by decide +kernel
theorem dX6_init_37 : decode cX6_init 37 = .ok (.iconst 1, 1) := by decide +kernel
theorem dX6_init_38 : decode cX6_init 38 = .ok (.putfield 26, 3) := by decide +kernel
theorem dX6_init_41 : decode cX6_init 41 = .ok (.aload_n 0, 1) := by decide +kernel
theorem dX6_init_42 : decode cX6_init 42 = .ok (.iconst 5, 1) := by decide +kernel
theorem dX6_init_43 : decode cX6_init 43 = .ok (.newarray .int, 2) := by decide +kernel
theorem dX6_init_45 : decode cX6_init 45 = .ok (.putfield 29, 3) := by decide +kernel
theorem dX6_init_48 : decode cX6_init 48 = .ok (.aload_n 0, 1) := by decide +kernel
theorem dX6_init_49 : decode cX6_init 49 = .ok (.iconst 5, 1) := by decide +kernel
theorem dX6_init_50 : decode cX6_init 50 = .ok (.newarray .int, 2) := by decide +kernel
theorem dX6_init_52 : decode cX6_init 52 = .ok (.putfield 32, 3) := by decide +kernel
theorem dX6_init_55 : decode cX6_init 55 = .ok (.aload_n 0, 1) := by decide +kernel
theorem dX6_init_56 : decode cX6_init 56 = .ok (.iconst 5, 1) := by decide +kernel
theorem dX6_init_57 : decode cX6_init 57 = .ok (.newarray .int, 2) := by decide +kernel
theorem dX6_init_59 : decode cX6_init 59 = .ok (.putfield 35, 3) := by decide +kernel
theorem dX6_init_62 : decode cX6_init 62 = .ok (.aload_n 0, 1) := by decide +kernel
theorem dX6_init_63 : decode cX6_init 63 = .ok (.iconst 5, 1) := by decide +kernel
theorem dX6_init_64 : decode cX6_init 64 = .ok (.newarray .int, 2) := by decide +kernel
theorem dX6_init_66 : decode cX6_init 66 = .ok (.putfield 38, 3) := by decide +kernel
theorem dX6_init_69 : decode cX6_init 69 = .ok (.aload_n 0, 1) := by decide +kernel
theorem dX6_init_70 : decode cX6_init 70 = .ok (.iconst (-1), 1) := by decide +kernel
theorem dX6_init_71 : decode cX6_init 71 = .ok (.putfield 41, 3) := by decide +kernel
theorem dX6_init_74 : decode cX6_init 74 = .ok (.aload_n 0, 1) := by decide +kernel
theorem dX6_init_75 : decode cX6_init 75 = .ok (.iconst 5, 1) := by decide +kernel
theorem dX6_init_76 : decode cX6_init 76 = .ok (.newarray .int, 2) := by decide +kernel
theorem dX6_init_78 : decode cX6_init 78 = .ok (.putfield 44, 3) := by decide +kernel
theorem dX6_init_81 : decode cX6_init 81 = .ok (.aload_n 0, 1) := by decide +kernel
theorem dX6_init_82 : decode cX6_init 82 = .ok (.iconst 5, 1) := by decide +kernel
theorem dX6_init_83 : decode cX6_init 83 = .ok (.newarray .int, 2) := by decide +kernel
theorem dX6_init_85 : decode cX6_init 85 = .ok (.putfield 47, 3) := by decide +kernel
theorem dX6_init_88 : decode cX6_init 88 = .ok (.aload_n 0, 1) := by decide +kernel
theorem dX6_init_89 : decode cX6_init 89 = .ok (.iconst 5, 1) := by decide +kernel
theorem dX6_init_90 : decode cX6_init 90 = .ok (.newarray .int, 2) := by decide +kernel
theorem dX6_init_92 : decode cX6_init 92 = .ok (.putfield 50, 3) := by decide +kernel
theorem dX6_init_95 : decode cX6_init 95 = .ok (.aload_n 0, 1) := by decide +kernel
theorem dX6_init_96 : decode cX6_init 96 = .ok (.bipush 12, 2) := by decide +kernel
theorem dX6_init_98 : decode cX6_init 98 = .ok (.newarray .int, 2) := by decide +kernel
theorem dX6_init_100 : decode cX6_init 100 = .ok (.putfield 53, 3) := by decide +kernel
theorem dX6_init_103 : decode cX6_init 103 = .ok (.aload_n 0, 1) := by decide +kernel
theorem dX6_init_104 : decode cX6_init 104 = .ok (.bipush 12, 2) := by decide +kernel
theorem dX6_init_106 : decode cX6_init 106 = .ok (.newarray .int, 2) := by decide +kernel
theorem dX6_init_108 : decode cX6_init 108 = .ok (.putfield 56, 3) := by decide +kernel
theorem dX6_init_111 : decode cX6_init 111 = .ok (.aload_n 0, 1) := by decide +kernel
theorem dX6_init_112 : decode cX6_init 112 = .ok (.bipush 12, 2) := by decide +kernel
theorem dX6_init_114 : decode cX6_init 114 = .ok (.newarray .int, 2) := by decide +kernel
theorem dX6_init_116 : decode cX6_init 116 = .ok (.putfield 59, 3) := by decide +kernel
theorem dX6_init_119 : decode cX6_init 119 = .ok (.aload_n 0, 1) := by decide +kernel
theorem dX6_init_120 : decode cX6_init 120 = .ok (.bipush 12, 2) := by decide +kernel
theorem dX6_init_122 : decode cX6_init 122 = .ok (.newarray .int, 2) := by decide +kernel
theorem dX6_init_124 : decode cX6_init 124 = .ok (.putfield 62, 3) := by decide +kernel
theorem dX6_init_127 : decode cX6_init 127 = .ok (.aload_n 0, 1) := by decide +kernel
theorem dX6_init_128 : decode cX6_init 128 = .ok (.bipush 15, 2) := by decide +kernel
theorem dX6_init_130 : decode cX6_init 130 = .ok (.newarray .int, 2) := by decide +kernel
theorem dX6_init_132 : decode cX6_init 132 = .ok (.putfield 65, 3) := by decide +kernel
theorem dX6_init_135 : decode cX6_init 135 = .ok (.aload_n 0, 1) := by decide +kernel
theorem dX6_init_136 : decode cX6_init 136 = .ok (.iconst (-1), 1) := by decide +kernel
theorem dX6_init_137 : decode cX6_init 137 = .ok (.putfield 68, 3) := by decide +kernel
theorem dX6_init_140 : decode cX6_init 140 = .ok (.aload_n 0, 1) := by decide +kernel
theorem dX6_init_141 : decode cX6_init 141 = .ok (.iconst 4, 1) := by decide +kernel
theorem dX6_init_142 : decode cX6_init 142 = .ok (.newarray .boolean, 2) := by decide +kernel
theorem dX6_init_144 : decode cX6_init 144 = .ok (.putfield 71, 3) := by decide +kernel
theorem dX6_init_147 : decode cX6_init 147 = .ok (.aload_n 0, 1) := by decide +kernel
theorem dX6_init_148 : decode cX6_init 148 = .ok (.iconst 4, 1) := by decide +kernel
theorem dX6_init_149 : decode cX6_init 149 = .ok (.newarray .int, 2) := by decide +kernel
theorem dX6_init_151 : decode cX6_init 151 = .ok (.putfield 75, 3) := by decide +kernel
theorem dX6_init_154 : decode cX6_init 154 = .ok (.aload_n 0, 1) := by decide +kernel
theorem dX6_init_155 : decode cX6_init 155 = .ok (.iconst 4, 1) := by decide +kernel
theorem dX6_init_156 : decode cX6_init 156 = .ok (.newarray .int, 2) := by decide +kernel
theorem dX6_init_158 : decode cX6_init 158 = .ok (.putfield 78, 3) := by decide +kernel
theorem dX6_init_161 : decode cX6_init 161 = .ok (.aload_n 0, 1) := by decide +kernel
theorem dX6_init_162 : decode cX6_init 162 = .ok (.sipush 160, 3) := by decide +kernel
theorem dX6_init_165 : decode cX6_init 165 = .ok (.newarray .int, 2) := by decide +kernel
theorem dX6_init_167 : decode cX6_init 167 = .ok (.putfield 81, 3) := by decide +kernel
theorem dX6_init_170 : decode cX6_init 170 = .ok (.aload_n 0, 1) := by decide +kernel
theorem dX6_init_171 : decode cX6_init 171 = .ok (.iconst 0, 1) := by decide +kernel
theorem dX6_init_172 : decode cX6_init 172 = .ok (.bipush 116, 2) := by decide +kernel
theorem dX6_init_174 : decode cX6_init 174 = .ok (.bipush 97, 2) := by decide +kernel
theorem dX6_init_176 : decode cX6_init 176 = .ok (.bipush 107, 2) := by decide +kernel
theorem dX6_init_178 : decode cX6_init 178 = .ok (.bipush 101, 2) := by decide +kernel
theorem dX6_init_180 : decode cX6_init 180 = .ok (.bipush 115, 2) := by decide +kernel
theorem dX6_init_182 : decode cX6_init 182 = .ok (.bipush 32, 2) := by decide +kernel
theorem dX6_init_184 : decode cX6_init 184 = .ok (.bipush 52, 2) := by decide +kernel
theorem dX6_init_186 : decode cX6_init 186 = .ok (.bipush 32, 2) := by decide +kernel
theorem dX6_init_188 : decode cX6_init 188 = .ok (.invokevirtual 84, 3) := by decide +kernel
theorem dX6_init_191 : decode cX6_init 191 = .ok (.aload_n 0, 1) := by decide +kernel
theorem dX6_init_192 : decode cX6_init 192 = .ok (.bipush 8, 2) := by decide +kernel
theorem dX6_init_194 : decode cX6_init 194 = .ok (.bipush 59, 2) := by decide +kernel
theorem dX6_init_196 : decode cX6_init 196 = .ok (.bipush 32, 2) := by decide +kernel
theorem dX6_init_198 : decode cX6_init 198 = .ok (.bipush 104, 2) := by decide +kernel
theorem dX6_init_200 : decode cX6_init 200 = .ok (.bipush 117, 2) := by decide +kernel
theorem dX6_init_202 : decode cX6_init 202 = .ok (.bipush 110, 2) := by decide +kernel
theorem dX6_init_204 : decode cX6_init 204 = .ok (.bipush 103, 2) := by decide +kernel
theorem dX6_init_206 : decode cX6_init 206 = .ok (.bipush 101, 2) := by decide +kernel
theorem dX6_init_208 : decode cX6_init 208 = .ok (.bipush 114, 2) := by decide +kernel
theorem dX6_init_210 : decode cX6_init 210 = .ok (.invokevirtual 84, 3) := by decide +kernel
theorem dX6_init_213 : decode cX6_init 213 = .ok (.aload_n 0, 1) := by decide +kernel
theorem dX6_init_214 : decode cX6_init 214 = .ok (.bipush 16, 2) := by decide +kernel
theorem dX6_init_216 : decode cX6_init 216 = .ok (.bipush 32, 2) := by decide +kernel
theorem dX6_init_218 : decode cX6_init 218 = .ok (.bipush 49, 2) := by decide +kernel
theorem dX6_init_220 : decode cX6_init 220 = .ok (.bipush 32, 2) := by decide +kernel
theorem dX6_init_222 : decode cX6_init 222 = .ok (.bipush 59, 2) := by decide +kernel
theorem dX6_init_224 : decode cX6_init 224 = .ok (.bipush 32, 2) := by decide +kernel
theorem dX6_init_226 : decode cX6_init 226 = .ok (.bipush 119, 2) := by decide +kernel
theorem dX6_init_228 : decode cX6_init 228 = .ok (.bipush 111, 2) := by decide +kernel
theorem dX6_init_230 : decode cX6_init 230 = .ok (.bipush 114, 2) := by decide +kernel
theorem dX6_init_232 : decode cX6_init 232 = .ok (.invokevirtual 84, 3) := by decide +kernel
theorem dX6_init_235 : decode cX6_init 235 = .ok (.aload_n 0, 1) := by decide +kernel
theorem dX6_init_236 : decode cX6_init 236 = .ok (.bipush 24, 2) := by decide +kernel
theorem dX6_init_238 : decode cX6_init 238 = .ok (.bipush 116, 2) := by decide +kernel
theorem dX6_init_240 : decode cX6_init 240 = .ok (.bipush 104, 2) := by decide +kernel
theorem dX6_init_242 : decode cX6_init 242 = .ok (.bipush 32, 2) := by decide +kernel
theorem dX6_init_244 : decode cX6_init 244 = .ok (.bipush 49, 2) := by decide +kernel
theorem dX6_init_246 : decode cX6_init 246 = .ok (.bipush 48, 2) := by decide +kernel
theorem dX6_init_248 : decode cX6_init 248 = .ok (.bipush 32, 2) := by decide +kernel
theorem dX6_init_250 : decode cX6_init 250 = .ok (.bipush 45, 2) := by decide +kernel
theorem dX6_init_252 : decode cX6_init 252 = .ok (.bipush 32, 2) := by decide +kernel
theorem dX6_init_254 : decode cX6_init 254 = .ok (.invokevirtual 84, 3) := by decide +kernel
theorem dX6_init_257 : decode cX6_init 257 = .ok (.aload_n 0, 1) := by decide +kernel
theorem dX6_init_258 : decode cX6_init 258 = .ok (.bipush 32, 2) := by decide +kernel
theorem dX6_init_260 : decode cX6_init 260 = .ok (.bipush 108, 2) := by decide +kernel
theorem dX6_init_262 : decode cX6_init 262 = .ok (.bipush 97, 2) := by decide +kernel
theorem dX6_init_264 : decode cX6_init 264 = .ok (.bipush 116, 2) := by decide +kernel
theorem dX6_init_266 : decode cX6_init 266 = .ok (.bipush 101, 2) := by decide +kernel
theorem dX6_init_268 : decode cX6_init 268 = .ok (.bipush 32, 2) := by decide +kernel
theorem dX6_init_270 : decode cX6_init 270 = .ok (.bipush 59, 2) := by decide +kernel
theorem dX6_init_272 : decode cX6_init 272 = .ok (.bipush 32, 2) := by decide +kernel
theorem dX6_init_274 : decode cX6_init 274 = .ok (.bipush 32, 2) := by decide +kernel
theorem dX6_init_276 : decode cX6_init 276 = .ok (.invokevirtual 84, 3) := by decide +kernel
theorem dX6_init_279 : decode cX6_init 279 = .ok (.aload_n 0, 1) := by decide +kernel
theorem dX6_init_280 : decode cX6_init 280 = .ok (.getfield 17, 3) := by decide +kernel
theorem dX6_init_283 : decode cX6_init 283 = .ok (.iconst 0, 1) := by decide +kernel
theorem dX6_init_284 : decode cX6_init 284 = .ok (.bipush 40, 2) := by decide +kernel
theorem dX6_init_286 : decode cX6_init 286 = .ok (.iastore, 1) := by decide +kernel
theorem dX6_init_287 : decode cX6_init 287 = .ok (.aload_n 0, 1) := by decide +kernel
theorem dX6_init_288 : decode cX6_init 288 = .ok (.iconst 1, 1) := by decide +kernel
theorem dX6_init_289 : decode cX6_init 289 = .ok (.putfield 88, 3) := by decide +kernel
theorem dX6_init_292 : decode cX6_init 292 = .ok (.return_, 1) := by decide +kernel
theorem dX6_spell_0 : decode cX6_spell 0 = .ok (.aload_n 0, 1) := by decide +kernel
theorem dX6_spell_1 : decode cX6_spell 1 = .ok (.getfield 13, 3) := by decide +kernel
theorem dX6_spell_4 : decode cX6_spell 4 = .ok (.iload_n 1, 1) := by decide +kernel
theorem dX6_spell_5 : decode cX6_spell 5 = .ok (.iload_n 2, 1) := by decide +kernel
theorem dX6_spell_6 : decode cX6_spell 6 = .ok (.iastore, 1) := by decide +kernel
theorem dX6_spell_7 : decode cX6_spell 7 = .ok (.aload_n 0, 1) := by decide +kernel
theorem dX6_spell_8 : decode cX6_spell 8 = .ok (.getfield 13, 3) := by decide +kernel
theorem dX6_spell_11 : decode cX6_spell 11 = .ok (.iload_n 1, 1) := by decide +kernel
theorem dX6_spell_12 : decode cX6_spell 12 = .ok (.iconst 1, 1) := by decide +kernel
theorem dX6_spell_13 : decode cX6_spell 13 = .ok (.iadd, 1) := by decide +kernel
theorem dX6_spell_14 : decode cX6_spell 14 = .ok (.iload_n 3, 1) := by decide +kernel
theorem dX6_spell_15 : decode cX6_spell 15 = .ok (.iastore, 1) := by decide +kernel
theorem dX6_spell_16 : decode cX6_spell 16 = .ok (.aload_n 0, 1) := by decide +kernel
theorem dX6_spell_17 : decode cX6_spell 17 = .ok (.getfield 13, 3) := by decide +kernel
theorem dX6_spell_20 : decode cX6_spell 20 = .ok (.iload_n 1, 1) := by decide +kernel
theorem dX6_spell_21 : decode cX6_spell 21 = .ok (.iconst 2, 1) := by decide +kernel
theorem dX6_spell_22 : decode cX6_spell 22 = .ok (.iadd, 1) := by decide +kernel
theorem dX6_spell_23 : decode cX6_spell 23 = .ok (.iload 4, 2) := by decide +kernel
theorem dX6_spell_25 : decode cX6_spell 25 = .ok (.iastore, 1) := by decide +kernel
theorem dX6_spell_26 : decode cX6_spell 26 = .ok (.aload_n 0, 1) := by decide +kernel
theorem dX6_spell_27 : decode cX6_spell 27 = .ok (.getfield 13, 3) := by decide +kernel
theorem dX6_spell_30 : decode cX6_spell 30 = .ok (.iload_n 1, 1) := by decide +kernel
theorem dX6_spell_31 : decode cX6_spell 31 = .ok (.iconst 3, 1) := by decide +kernel
theorem dX6_spell_32 : decode cX6_spell 32 = .ok (.iadd, 1) := by decide +kernel
theorem dX6_spell_33 : decode cX6_spell 33 = .ok (.iload 5, 2) := by decide +kernel
theorem dX6_spell_35 : decode cX6_spell 35 = .ok (.iastore, 1) := by decide +kernel
theorem dX6_spell_36 : decode cX6_spell 36 = .ok (.aload_n 0, 1) := by decide +kernel
theorem dX6_spell_37 : decode cX6_spell 37 = .ok (.getfield 13, 3) := by decide +kernel
theorem dX6_spell_40 : decode cX6_spell 40 = .ok (.iload_n 1, 1) := by decide +kernel
theorem dX6_spell_41 : decode cX6_spell 41 = .ok (.iconst 4, 1) := by decide +kernel
theorem dX6_spell_42 : decode cX6_spell 42 = .ok (.iadd, 1) := by decide +kernel
theorem dX6_spell_43 : decode cX6_spell 43 = .ok (.iload 6, 2) := by decide +kernel
theorem dX6_spell_45 : decode cX6_spell 45 = .ok (.iastore, 1) := by decide +kernel
theorem dX6_spell_46 : decode cX6_spell 46 = .ok (.aload_n 0, 1) := by decide +kernel
theorem dX6_spell_47 : decode cX6_spell 47 = .ok (.getfield 13, 3) := by decide +kernel
theorem dX6_spell_50 : decode cX6_spell 50 = .ok (.iload_n 1, 1) := by decide +kernel
theorem dX6_spell_51 : decode cX6_spell 51 = .ok (.iconst 5, 1) := by decide +kernel
theorem dX6_spell_52 : decode cX6_spell 52 = .ok (.iadd, 1) := by decide +kernel
theorem dX6_spell_53 : decode cX6_spell 53 = .ok (.iload 7, 2) := by decide +kernel
theorem dX6_spell_55 : decode cX6_spell 55 = .ok (.iastore, 1) := by decide +kernel
theorem dX6_spell_56 : decode cX6_spell 56 = .ok (.aload_n 0, 1) := by decide +kernel
theorem dX6_spell_57 : decode cX6_spell 57 = .ok (.getfield 13, 3) := by decide +kernel
theorem dX6_spell_60 : decode cX6_spell 60 = .ok (.iload_n 1, 1) := by decide +kernel
theorem dX6_spell_61 : decode cX6_spell 61 = .ok (.bipush 6, 2) := by decide +kernel
theorem dX6_spell_63 : decode cX6_spell 63 = .ok (.iadd, 1) := by decide +kernel
theorem dX6_spell_64 : decode cX6_spell 64 = .ok (.iload 8, 2) := by decide +kernel
theorem dX6_spell_66 : decode cX6_spell 66 = .ok (.iastore, 1) := by decide +kernel
theorem dX6_spell_67 : decode cX6_spell 67 = .ok (.aload_n 0, 1) := by decide +kernel
theorem dX6_spell_68 : decode cX6_spell 68 = .ok (.getfield 13, 3) := by decide +kernel
theorem dX6_spell_71 : decode cX6_spell 71 = .ok (.iload_n 1, 1) := by decide +kernel
theorem dX6_spell_72 : decode cX6_spell 72 = .ok (.bipush 7, 2) := by decide +kernel
theorem dX6_spell_74 : decode cX6_spell 74 = .ok (.iadd, 1) := by decide +kernel
theorem dX6_spell_75 : decode cX6_spell 75 = .ok (.iload 9, 2) := by decide +kernel
theorem dX6_spell_77 : decode cX6_spell 77 = .ok (.iastore, 1) := by decide +kernel
theorem dX6_spell_78 : decode cX6_spell 78 = .ok (.return_, 1) := by decide +kernel
theorem dX6_isEater_0 : decode cX6_isEater 0 = .ok (.iload_n 1, 1) := by decide +kernel
theorem dX6_isEater_1 : decode cX6_isEater 1 = .ok (.i2l, 1) := by decide +kernel
theorem dX6_isEater_2 : decode cX6_isEater 2 = .ok (.lconst 0, 1) := by decide +kernel
theorem dX6_isEater_3 : decode cX6_isEater 3 = .ok (.aload_n 0, 1) := by decide +kernel
theorem dX6_isEater_4 : decode cX6_isEater 4 = .ok (.getfield 91, 3) := by decide +kernel
theorem dX6_isEater_7 : decode cX6_isEater 7 = .ok (.iconst 1, 1) := by decide +kernel
theorem dX6_isEater_8 : decode cX6_isEater 8 = .ok (.isub, 1) := by decide +kernel
theorem dX6_isEater_9 : decode cX6_isEater 9 = .ok (.i2l, 1) := by decide +kernel
theorem dX6_isEater_10 : decode cX6_isEater 10 = .ok (.invokestatic 94, 3) := by decide +kernel
theorem dX6_isEater_13 : decode cX6_isEater 13 = .ok (.ireturn, 1) := by decide +kernel
theorem dX6_isCake_0 : decode cX6_isCake 0 = .ok (.iload_n 1, 1) := by decide +kernel
theorem dX6_isCake_1 : decode cX6_isCake 1 = .ok (.i2l, 1) := by decide +kernel
theorem dX6_isCake_2 : decode cX6_isCake 2 = .ok (.lconst 0, 1) := by decide +kernel
theorem dX6_isCake_3 : decode cX6_isCake 3 = .ok (.aload_n 0, 1) := by decide +kernel
theorem dX6_isCake_4 : decode cX6_isCake 4 = .ok (.getfield 23, 3) := by decide +kernel
theorem dX6_isCake_7 : decode cX6_isCake 7 = .ok (.iconst 1, 1) := by decide +kernel
theorem dX6_isCake_8 : decode cX6_isCake 8 = .ok (.isub, 1) := by decide +kernel
theorem dX6_isCake_9 : decode cX6_isCake 9 = .ok (.i2l, 1) := by decide +kernel
theorem dX6_isCake_10 : decode cX6_isCake 10 = .ok (.invokestatic 94, 3) := by decide +kernel
theorem dX6_isCake_13 : decode cX6_isCake 13 = .ok (.ireturn, 1) := by decide +kernel
theorem dX6_set_0 : decode cX6_set 0 = .ok (.iload_n 1, 1) := by decide +kernel
theorem dX6_set_1 : decode cX6_set 1 = .ok (.i2l, 1) := by decide +kernel
theorem dX6_set_2 : decode cX6_set 2 = .ok (.lconst 0, 1) := by decide +kernel
theorem dX6_set_3 : decode cX6_set 3 = .ok (.ldc2_w 98, 3) := by decide +kernel
theorem dX6_set_6 : decode cX6_set 6 = .ok (.invokestatic 94, 3) := by decide +kernel
theorem dX6_set_9 : decode cX6_set 9 = .ok (.ifCond .eq 16, 3) := by decide +kernel
theorem dX6_set_12 : decode cX6_set 12 = .ok (.iload_n 1, 1) := by decide +kernel
theorem dX6_set_13 : decode cX6_set 13 = .ok (.iconst 1, 1) := by decide +kernel
theorem dX6_set_14 : decode cX6_set 14 = .ok (.if_icmp .le 14, 3) := by decide +kernel
theorem dX6_set_17 : decode cX6_set 17 = .ok (.aload_n 0, 1) := by decide +kernel
theorem dX6_set_18 : decode cX6_set 18 = .ok (.iload_n 2, 1) := by decide +kernel
theorem dX6_set_19 : decode cX6_set 19 = .ok (.invokevirtual 100, 3) := by decide +kernel
theorem dX6_set_22 : decode cX6_set 22 = .ok (.ifCond .ne 6, 3) := by decide +kernel
theorem dX6_set_25 : decode cX6_set 25 = .ok (.bipush (-2), 2) := by decide +kernel
theorem dX6_set_27 : decode cX6_set 27 = .ok (.ireturn, 1) := by decide +kernel
theorem dX6_set_28 : decode cX6_set 28 = .ok (.iload_n 3, 1) := by decide +kernel
theorem dX6_set_29 : decode cX6_set 29 = .ok (.i2l, 1) := by decide +kernel
theorem dX6_set_30 : decode cX6_set 30 = .ok (.iload_n 1, 1) := by decide +kernel
theorem dX6_set_31 : decode cX6_set 31 = .ok (.iconst 1, 1) := by decide +kernel
theorem dX6_set_32 : decode cX6_set 32 = .ok (.if_icmp .eq 8, 3) := by decide +kernel
theorem dX6_set_35 : decode cX6_set 35 = .ok (.iload_n 1, 1) := by decide +kernel
theorem dX6_set_36 : decode cX6_set 36 = .ok (.iconst 4, 1) := by decide +kernel
theorem dX6_set_37 : decode cX6_set 37 = .ok (.if_icmp .ne 7, 3) := by decide +kernel
theorem dX6_set_40 : decode cX6_set 40 = .ok (.lconst 1, 1) := by decide +kernel
theorem dX6_set_41 : decode cX6_set 41 = .ok (.goto 4, 3) := by decide +kernel
theorem dX6_set_44 : decode cX6_set 44 = .ok (.lconst 0, 1) := by decide +kernel
theorem dX6_set_45 : decode cX6_set 45 = .ok (.iload_n 1, 1) := by decide +kernel
theorem dX6_set_46 : decode cX6_set 46 = .ok (.ifCond .eq 8, 3) := by decide +kernel
theorem dX6_set_49 : decode cX6_set 49 = .ok (.iload_n 1, 1) := by decide +kernel
theorem dX6_set_50 : decode cX6_set 50 = .ok (.iconst 3, 1) := by decide +kernel
theorem dX6_set_51 : decode cX6_set 51 = .ok (.if_icmp .ne 9, 3) := by decide +kernel
theorem dX6_set_54 : decode cX6_set 54 = .ok (.ldc2_w 104, 3) := by decide +kernel
theorem dX6_set_57 : decode cX6_set 57 = .ok (.goto 28, 3) := by decide +kernel
theorem dX6_set_60 : decode cX6_set 60 = .ok (.iload_n 1, 1) := by decide +kernel
theorem dX6_set_61 : decode cX6_set 61 = .ok (.iconst 1, 1) := by decide +kernel
theorem dX6_set_62 : decode cX6_set 62 = .ok (.if_icmp .ne 9, 3) := by decide +kernel
theorem dX6_set_65 : decode cX6_set 65 = .ok (.ldc2_w 106, 3) := by decide +kernel
theorem dX6_set_68 : decode cX6_set 68 = .ok (.goto 17, 3) := by decide +kernel
theorem dX6_set_71 : decode cX6_set 71 = .ok (.iload_n 1, 1) := by decide +kernel
theorem dX6_set_72 : decode cX6_set 72 = .ok (.iconst 2, 1) := by decide +kernel
theorem dX6_set_73 : decode cX6_set 73 = .ok (.if_icmp .ne 9, 3) := by decide +kernel
theorem dX6_set_76 : decode cX6_set 76 = .ok (.ldc2_w 108, 3) := by decide +kernel
theorem dX6_set_79 : decode cX6_set 79 = .ok (.goto 6, 3) := by decide +kernel
theorem dX6_set_82 : decode cX6_set 82 = .ok (.ldc2_w 110, 3) := by decide +kernel
theorem dX6_set_85 : decode cX6_set 85 = .ok (.invokestatic 94, 3) := by decide +kernel
theorem dX6_set_88 : decode cX6_set 88 = .ok (.ifCond .ne 6, 3) := by decide +kernel
theorem dX6_set_91 : decode cX6_set 91 = .ok (.bipush (-2), 2) := by decide +kernel
theorem dX6_set_93 : decode cX6_set 93 = .ok (.ireturn, 1) := by decide +kernel
theorem dX6_set_94 : decode cX6_set 94 = .ok (.iload_n 1, 1) := by decide +kernel
theorem dX6_set_95 : decode cX6_set 95 = .ok (.ifCond .ne 10, 3) := by decide +kernel
theorem dX6_set_98 : decode cX6_set 98 = .ok (.aload_n 0, 1) := by decide +kernel
theorem dX6_set_99 : decode cX6_set 99 = .ok (.getfield 23, 3) := by decide +kernel
theorem dX6_set_102 : decode cX6_set 102 = .ok (.goto 49, 3) := by decide +kernel
theorem dX6_set_105 : decode cX6_set 105 = .ok (.iload_n 1, 1) := by decide +kernel
theorem dX6_set_106 : decode cX6_set 106 = .ok (.iconst 1, 1) := by decide +kernel
theorem dX6_set_107 : decode cX6_set 107 = .ok (.if_icmp .ne 10, 3) := by decide +kernel
theorem dX6_set_110 : decode cX6_set 110 = .ok (.aload_n 0, 1) := by decide +kernel
theorem dX6_set_111 : decode cX6_set 111 = .ok (.getfield 26, 3) := by decide +kernel
theorem dX6_set_114 : decode cX6_set 114 = .ok (.goto 37, 3) := by decide +kernel
theorem dX6_set_117 : decode cX6_set 117 = .ok (.iload_n 1, 1) := by decide +kernel
theorem dX6_set_118 : decode cX6_set 118 = .ok (.iconst 2, 1) := by decide +kernel
theorem dX6_set_119 : decode cX6_set 119 = .ok (.if_icmp .ne 12, 3) := by decide +kernel
theorem dX6_set_122 : decode cX6_set 122 = .ok (.aload_n 0, 1) := by decide +kernel
theorem dX6_set_123 : decode cX6_set 123 = .ok (.getfield 32, 3) := by decide +kernel
theorem dX6_set_126 : decode cX6_set 126 = .ok (.iload_n 2, 1) := by decide +kernel
theorem dX6_set_127 : decode cX6_set 127 = .ok (.iaload, 1) := by decide +kernel
theorem dX6_set_128 : decode cX6_set 128 = .ok (.goto 23, 3) := by decide +kernel
theorem dX6_set_131 : decode cX6_set 131 = .ok (.iload_n 1, 1) := by decide +kernel
theorem dX6_set_132 : decode cX6_set 132 = .ok (.iconst 3, 1) := by decide +kernel
theorem dX6_set_133 : decode cX6_set 133 = .ok (.if_icmp .ne 12, 3) := by decide +kernel
theorem dX6_set_136 : decode cX6_set 136 = .ok (.aload_n 0, 1) := by decide +kernel
theorem dX6_set_137 : decode cX6_set 137 = .ok (.getfield 35, 3) := by decide +kernel
theorem dX6_set_140 : decode cX6_set 140 = .ok (.iload_n 2, 1) := by decide +kernel
theorem dX6_set_141 : decode cX6_set 141 = .ok (.iaload, 1) := by decide +kernel
theorem dX6_set_142 : decode cX6_set 142 = .ok (.goto 9, 3) := by decide +kernel
theorem dX6_set_145 : decode cX6_set 145 = .ok (.aload_n 0, 1) := by decide +kernel
theorem dX6_set_146 : decode cX6_set 146 = .ok (.getfield 38, 3) := by decide +kernel
theorem dX6_set_149 : decode cX6_set 149 = .ok (.iload_n 2, 1) := by decide +kernel
theorem dX6_set_150 : decode cX6_set 150 = .ok (.iaload, 1) := by decide +kernel
theorem dX6_set_151 : decode cX6_set 151 = .ok (.istore 4, 2) := by decide +kernel
theorem dX6_set_153 : decode cX6_set 153 = .ok (.iload_n 1, 1) := by decide +kernel
theorem dX6_set_154 : decode cX6_set 154 = .ok (.ifCond .ne 11, 3) := by decide +kernel
theorem dX6_set_157 : decode cX6_set 157 = .ok (.aload_n 0, 1) := by decide +kernel
theorem dX6_set_158 : decode cX6_set 158 = .ok (.iload_n 3, 1) := by decide +kernel
theorem dX6_set_159 : decode cX6_set 159 = .ok (.putfield 23, 3) := by decide +kernel
theorem dX6_set_162 : decode cX6_set 162 = .ok (.goto 53, 3) := by decide +kernel
theorem dX6_set_165 : decode cX6_set 165 = .ok (.iload_n 1, 1) := by decide +kernel
theorem dX6_set_166 : decode cX6_set 166 = .ok (.iconst 1, 1) := by decide +kernel
theorem dX6_set_167 : decode cX6_set 167 = .ok (.if_icmp .ne 11, 3) := by decide +kernel
theorem dX6_set_170 : decode cX6_set 170 = .ok (.aload_n 0, 1) := by decide +kernel
theorem dX6_set_171 : decode cX6_set 171 = .ok (.iload_n 3, 1) := by decide +kernel
theorem dX6_set_172 : decode cX6_set 172 = .ok (.putfield 26, 3) := by decide +kernel
theorem dX6_set_175 : decode cX6_set 175 = .ok (.goto 40, 3) := by decide +kernel
theorem dX6_set_178 : decode cX6_set 178 = .ok (.iload_n 1, 1) := by decide +kernel
theorem dX6_set_179 : decode cX6_set 179 = .ok (.iconst 2, 1) := by decide +kernel
theorem dX6_set_180 : decode cX6_set 180 = .ok (.if_icmp .ne 13, 3) := by decide +kernel
theorem dX6_set_183 : decode cX6_set 183 = .ok (.aload_n 0, 1) := by decide +kernel
theorem dX6_set_184 : decode cX6_set 184 = .ok (.getfield 32, 3) := by decide +kernel
theorem dX6_set_187 : decode cX6_set 187 = .ok (.iload_n 2, 1) := by decide +kernel
theorem dX6_set_188 : decode cX6_set 188 = .ok (.iload_n 3, 1) := by decide +kernel
theorem dX6_set_189 : decode cX6_set 189 = .ok (.iastore, 1) := by decide +kernel
theorem dX6_set_190 : decode cX6_set 190 = .ok (.goto 25, 3) := by decide +kernel
theorem dX6_set_193 : decode cX6_set 193 = .ok (.iload_n 1, 1) := by decide +kernel
theorem dX6_set_194 : decode cX6_set 194 = .ok (.iconst 3, 1) := by decide +kernel
theorem dX6_set_195 : decode cX6_set 195 = .ok (.if_icmp .ne 13, 3) := by decide +kernel
theorem dX6_set_198 : decode cX6_set 198 = .ok (.aload_n 0, 1) := by decide +kernel
theorem dX6_set_199 : decode cX6_set 199 = .ok (.getfield 35, 3) := by decide +kernel
theorem dX6_set_202 : decode cX6_set 202 = .ok (.iload_n 2, 1) := by decide +kernel
theorem dX6_set_203 : decode cX6_set 203 = .ok (.iload_n 3, 1) := by decide +kernel
theorem dX6_set_204 : decode cX6_set 204 = .ok (.iastore, 1) := by decide +kernel
theorem dX6_set_205 : decode cX6_set 205 = .ok (.goto 10, 3) := by decide +kernel
theorem dX6_set_208 : decode cX6_set 208 = .ok (.aload_n 0, 1) := by decide +kernel
theorem dX6_set_209 : decode cX6_set 209 = .ok (.getfield 38, 3) := by decide +kernel
theorem dX6_set_212 : decode cX6_set 212 = .ok (.iload_n 2, 1) := by decide +kernel
theorem dX6_set_213 : decode cX6_set 213 = .ok (.iload_n 3, 1) := by decide +kernel
theorem dX6_set_214 : decode cX6_set 214 = .ok (.iastore, 1) := by decide +kernel
theorem dX6_set_215 : decode cX6_set 215 = .ok (.iload 4, 2) := by decide +kernel
theorem dX6_set_217 : decode cX6_set 217 = .ok (.ireturn, 1) := by decide +kernel
theorem dX6_eater_0 : decode cX6_eater 0 = .ok (.iload_n 1, 1) := by decide +kernel
theorem dX6_eater_1 : decode cX6_eater 1 = .ok (.i2l, 1) := by decide +kernel
theorem dX6_eater_2 : decode cX6_eater 2 = .ok (.lconst 0, 1) := by decide +kernel
theorem dX6_eater_3 : decode cX6_eater 3 = .ok (.ldc2_w 112, 3) := by decide +kernel
theorem dX6_eater_6 : decode cX6_eater 6 = .ok (.invokestatic 94, 3) := by decide +kernel
theorem dX6_eater_9 : decode cX6_eater 9 = .ok (.ifCond .eq 36, 3) := by decide +kernel
theorem dX6_eater_12 : decode cX6_eater 12 = .ok (.iload_n 2, 1) := by decide +kernel
theorem dX6_eater_13 : decode cX6_eater 13 = .ok (.i2l, 1) := by decide +kernel
theorem dX6_eater_14 : decode cX6_eater 14 = .ok (.lconst 0, 1) := by decide +kernel
theorem dX6_eater_15 : decode cX6_eater 15 = .ok (.ldc2_w 114, 3) := by decide +kernel
theorem dX6_eater_18 : decode cX6_eater 18 = .ok (.invokestatic 94, 3) := by decide +kernel
theorem dX6_eater_21 : decode cX6_eater 21 = .ok (.ifCond .eq 24, 3) := by decide +kernel
theorem dX6_eater_24 : decode cX6_eater 24 = .ok (.iload_n 2, 1) := by decide +kernel
theorem dX6_eater_25 : decode cX6_eater 25 = .ok (.bipush 100, 2) := by decide +kernel
theorem dX6_eater_27 : decode cX6_eater 27 = .ok (.irem, 1) := by decide +kernel
theorem dX6_eater_28 : decode cX6_eater 28 = .ok (.bipush 12, 2) := by decide +kernel
theorem dX6_eater_30 : decode cX6_eater 30 = .ok (.if_icmp .gt 15, 3) := by decide +kernel
theorem dX6_eater_33 : decode cX6_eater 33 = .ok (.iload_n 3, 1) := by decide +kernel
theorem dX6_eater_34 : decode cX6_eater 34 = .ok (.i2l, 1) := by decide +kernel
theorem dX6_eater_35 : decode cX6_eater 35 = .ok (.lconst 1, 1) := by decide +kernel
theorem dX6_eater_36 : decode cX6_eater 36 = .ok (.ldc2_w 110, 3) := by decide +kernel
theorem dX6_eater_39 : decode cX6_eater 39 = .ok (.invokestatic 94, 3) := by decide +kernel
theorem dX6_eater_42 : decode cX6_eater 42 = .ok (.ifCond .ne 6, 3) := by decide +kernel
theorem dX6_eater_45 : decode cX6_eater 45 = .ok (.bipush (-2), 2) := by decide +kernel
theorem dX6_eater_47 : decode cX6_eater 47 = .ok (.ireturn, 1) := by decide +kernel
theorem dX6_eater_48 : decode cX6_eater 48 = .ok (.aload_n 0, 1) := by decide +kernel
theorem dX6_eater_49 : decode cX6_eater 49 = .ok (.getfield 91, 3) := by decide +kernel
theorem dX6_eater_52 : decode cX6_eater 52 = .ok (.iconst 5, 1) := by decide +kernel
theorem dX6_eater_53 : decode cX6_eater 53 = .ok (.if_icmp .ne 6, 3) := by decide +kernel
theorem dX6_eater_56 : decode cX6_eater 56 = .ok (.bipush (-4), 2) := by decide +kernel
theorem dX6_eater_58 : decode cX6_eater 58 = .ok (.ireturn, 1) := by decide +kernel
theorem dX6_eater_59 : decode cX6_eater 59 = .ok (.aload_n 0, 1) := by decide +kernel
theorem dX6_eater_60 : decode cX6_eater 60 = .ok (.getfield 29, 3) := by decide +kernel
theorem dX6_eater_63 : decode cX6_eater 63 = .ok (.aload_n 0, 1) := by decide +kernel
theorem dX6_eater_64 : decode cX6_eater 64 = .ok (.getfield 91, 3) := by decide +kernel
theorem dX6_eater_67 : decode cX6_eater 67 = .ok (.iload_n 1, 1) := by decide +kernel
theorem dX6_eater_68 : decode cX6_eater 68 = .ok (.iastore, 1) := by decide +kernel
theorem dX6_eater_69 : decode cX6_eater 69 = .ok (.aload_n 0, 1) := by decide +kernel
theorem dX6_eater_70 : decode cX6_eater 70 = .ok (.getfield 32, 3) := by decide +kernel
theorem dX6_eater_73 : decode cX6_eater 73 = .ok (.aload_n 0, 1) := by decide +kernel
theorem dX6_eater_74 : decode cX6_eater 74 = .ok (.getfield 91, 3) := by decide +kernel
theorem dX6_eater_77 : decode cX6_eater 77 = .ok (.iload_n 2, 1) := by decide +kernel
theorem dX6_eater_78 : decode cX6_eater 78 = .ok (.bipush 100, 2) := by decide +kernel
theorem dX6_eater_80 : decode cX6_eater 80 = .ok (.idiv, 1) := by decide +kernel
theorem dX6_eater_81 : decode cX6_eater 81 = .ok (.iastore, 1) := by decide +kernel
theorem dX6_eater_82 : decode cX6_eater 82 = .ok (.aload_n 0, 1) := by decide +kernel
theorem dX6_eater_83 : decode cX6_eater 83 = .ok (.getfield 35, 3) := by decide +kernel
theorem dX6_eater_86 : decode cX6_eater 86 = .ok (.aload_n 0, 1) := by decide +kernel
theorem dX6_eater_87 : decode cX6_eater 87 = .ok (.getfield 91, 3) := by decide +kernel
theorem dX6_eater_90 : decode cX6_eater 90 = .ok (.iload_n 2, 1) := by decide +kernel
theorem dX6_eater_91 : decode cX6_eater 91 = .ok (.bipush 100, 2) := by decide +kernel
theorem dX6_eater_93 : decode cX6_eater 93 = .ok (.irem, 1) := by decide +kernel
theorem dX6_eater_94 : decode cX6_eater 94 = .ok (.iastore, 1) := by decide +kernel
theorem dX6_eater_95 : decode cX6_eater 95 = .ok (.aload_n 0, 1) := by decide +kernel
theorem dX6_eater_96 : decode cX6_eater 96 = .ok (.getfield 38, 3) := by decide +kernel
theorem dX6_eater_99 : decode cX6_eater 99 = .ok (.aload_n 0, 1) := by decide +kernel
theorem dX6_eater_100 : decode cX6_eater 100 = .ok (.getfield 91, 3) := by decide +kernel
theorem dX6_eater_103 : decode cX6_eater 103 = .ok (.iload_n 3, 1) := by decide +kernel
theorem dX6_eater_104 : decode cX6_eater 104 = .ok (.iastore, 1) := by decide +kernel
theorem dX6_eater_105 : decode cX6_eater 105 = .ok (.aload_n 0, 1) := by decide +kernel
theorem dX6_eater_106 : decode cX6_eater 106 = .ok (.dup, 1) := by decide +kernel
theorem dX6_eater_107 : decode cX6_eater 107 = .ok (.getfield 91, 3) := by decide +kernel
theorem dX6_eater_110 : decode cX6_eater 110 = .ok (.iconst 1, 1) := by decide +kernel
theorem dX6_eater_111 : decode cX6_eater 111 = .ok (.iadd, 1) := by decide +kernel
theorem dX6_eater_112 : decode cX6_eater 112 = .ok (.putfield 91, 3) := by decide +kernel
theorem dX6_eater_115 : decode cX6_eater 115 = .ok (.aload_n 0, 1) := by decide +kernel
theorem dX6_eater_116 : decode cX6_eater 116 = .ok (.getfield 91, 3) := by decide +kernel
theorem dX6_eater_119 : decode cX6_eater 119 = .ok (.iconst 1, 1) := by decide +kernel
theorem dX6_eater_120 : decode cX6_eater 120 = .ok (.isub, 1) := by decide +kernel
theorem dX6_eater_121 : decode cX6_eater 121 = .ok (.ireturn, 1) := by decide +kernel
theorem dX6_eatsOf_0 : decode cX6_eatsOf 0 = .ok (.aload_n 0, 1) := by decide +kernel
theorem dX6_eatsOf_1 : decode cX6_eatsOf 1 = .ok (.getfield 29, 3) := by decide +kernel
theorem dX6_eatsOf_4 : decode cX6_eatsOf 4 = .ok (.iload_n 1, 1) := by decide +kernel
theorem dX6_eatsOf_5 : decode cX6_eatsOf 5 = .ok (.iaload, 1) := by decide +kernel
theorem dX6_eatsOf_6 : decode cX6_eatsOf 6 = .ok (.istore_n 2, 1) := by decide +kernel
theorem dX6_eatsOf_7 : decode cX6_eatsOf 7 = .ok (.aload_n 0, 1) := by decide +kernel
theorem dX6_eatsOf_8 : decode cX6_eatsOf 8 = .ok (.getfield 38, 3) := by decide +kernel
theorem dX6_eatsOf_11 : decode cX6_eatsOf 11 = .ok (.iload_n 1, 1) := by decide +kernel
theorem dX6_eatsOf_12 : decode cX6_eatsOf 12 = .ok (.iaload, 1) := by decide +kernel
theorem dX6_eatsOf_13 : decode cX6_eatsOf 13 = .ok (.istore_n 3, 1) := by decide +kernel
theorem dX6_eatsOf_14 : decode cX6_eatsOf 14 = .ok (.iload_n 2, 1) := by decide +kernel
theorem dX6_eatsOf_15 : decode cX6_eatsOf 15 = .ok (.iconst 1, 1) := by decide +kernel
theorem dX6_eatsOf_16 : decode cX6_eatsOf 16 = .ok (.if_icmp .ne 9, 3) := by decide +kernel
theorem dX6_eatsOf_19 : decode cX6_eatsOf 19 = .ok (.iload_n 3, 1) := by decide +kernel
theorem dX6_eatsOf_20 : decode cX6_eatsOf 20 = .ok (.iconst 2, 1) := by decide +kernel
theorem dX6_eatsOf_21 : decode cX6_eatsOf 21 = .ok (.idiv, 1) := by decide +kernel
theorem dX6_eatsOf_22 : decode cX6_eatsOf 22 = .ok (.goto 39, 3) := by decide +kernel
theorem dX6_eatsOf_25 : decode cX6_eatsOf 25 = .ok (.iload_n 2, 1) := by decide +kernel
theorem dX6_eatsOf_26 : decode cX6_eatsOf 26 = .ok (.iconst 3, 1) := by decide +kernel
theorem dX6_eatsOf_27 : decode cX6_eatsOf 27 = .ok (.if_icmp .ne 11, 3) := by decide +kernel
theorem dX6_eatsOf_30 : decode cX6_eatsOf 30 = .ok (.iload_n 3, 1) := by decide +kernel
theorem dX6_eatsOf_31 : decode cX6_eatsOf 31 = .ok (.iconst 2, 1) := by decide +kernel
theorem dX6_eatsOf_32 : decode cX6_eatsOf 32 = .ok (.idiv, 1) := by decide +kernel
theorem dX6_eatsOf_33 : decode cX6_eatsOf 33 = .ok (.iconst 1, 1) := by decide +kernel
theorem dX6_eatsOf_34 : decode cX6_eatsOf 34 = .ok (.isub, 1) := by decide +kernel
theorem dX6_eatsOf_35 : decode cX6_eatsOf 35 = .ok (.goto 26, 3) := by decide +kernel
theorem dX6_eatsOf_38 : decode cX6_eatsOf 38 = .ok (.iload_n 2, 1) := by decide +kernel
theorem dX6_eatsOf_39 : decode cX6_eatsOf 39 = .ok (.iconst 4, 1) := by decide +kernel
theorem dX6_eatsOf_40 : decode cX6_eatsOf 40 = .ok (.if_icmp .ne 9, 3) := by decide +kernel
theorem dX6_eatsOf_43 : decode cX6_eatsOf 43 = .ok (.iload_n 3, 1) := by decide +kernel
theorem dX6_eatsOf_44 : decode cX6_eatsOf 44 = .ok (.iconst 2, 1) := by decide +kernel
theorem dX6_eatsOf_45 : decode cX6_eatsOf 45 = .ok (.iadd, 1) := by decide +kernel
theorem dX6_eatsOf_46 : decode cX6_eatsOf 46 = .ok (.goto 15, 3) := by decide +kernel
theorem dX6_eatsOf_49 : decode cX6_eatsOf 49 = .ok (.iload_n 2, 1) := by decide +kernel
theorem dX6_eatsOf_50 : decode cX6_eatsOf 50 = .ok (.iconst 5, 1) := by decide +kernel
theorem dX6_eatsOf_51 : decode cX6_eatsOf 51 = .ok (.if_icmp .ne 9, 3) := by decide +kernel
theorem dX6_eatsOf_54 : decode cX6_eatsOf 54 = .ok (.iconst 2, 1) := by decide +kernel
theorem dX6_eatsOf_55 : decode cX6_eatsOf 55 = .ok (.iload_n 3, 1) := by decide +kernel
theorem dX6_eatsOf_56 : decode cX6_eatsOf 56 = .ok (.imul, 1) := by decide +kernel
theorem dX6_eatsOf_57 : decode cX6_eatsOf 57 = .ok (.goto 4, 3) := by decide +kernel
theorem dX6_eatsOf_60 : decode cX6_eatsOf 60 = .ok (.iload_n 3, 1) := by decide +kernel
theorem dX6_eatsOf_61 : decode cX6_eatsOf 61 = .ok (.istore 4, 2) := by decide +kernel
theorem dX6_eatsOf_63 : decode cX6_eatsOf 63 = .ok (.iload 4, 2) := by decide +kernel
theorem dX6_eatsOf_65 : decode cX6_eatsOf 65 = .ok (.iconst 1, 1) := by decide +kernel
theorem dX6_eatsOf_66 : decode cX6_eatsOf 66 = .ok (.if_icmp .ge 7, 3) := by decide +kernel
theorem dX6_eatsOf_69 : decode cX6_eatsOf 69 = .ok (.iconst 1, 1) := by decide +kernel
theorem dX6_eatsOf_70 : decode cX6_eatsOf 70 = .ok (.goto 5, 3) := by decide +kernel
theorem dX6_eatsOf_73 : decode cX6_eatsOf 73 = .ok (.iload 4, 2) := by decide +kernel
theorem dX6_eatsOf_75 : decode cX6_eatsOf 75 = .ok (.ireturn, 1) := by decide +kernel
theorem dX6_told_0 : decode cX6_told 0 = .ok (.aload_n 0, 1) := by decide +kernel
theorem dX6_told_1 : decode cX6_told 1 = .ok (.iload_n 1, 1) := by decide +kernel
theorem dX6_told_2 : decode cX6_told 2 = .ok (.invokevirtual 100, 3) := by decide +kernel
theorem dX6_told_5 : decode cX6_told 5 = .ok (.ifCond .eq 15, 3) := by decide +kernel
theorem dX6_told_8 : decode cX6_told 8 = .ok (.iload_n 2, 1) := by decide +kernel
theorem dX6_told_9 : decode cX6_told 9 = .ok (.i2l, 1) := by decide +kernel
theorem dX6_told_10 : decode cX6_told 10 = .ok (.lconst 0, 1) := by decide +kernel
theorem dX6_told_11 : decode cX6_told 11 = .ok (.ldc2_w 112, 3) := by decide +kernel
theorem dX6_told_14 : decode cX6_told 14 = .ok (.invokestatic 94, 3) := by decide +kernel
theorem dX6_told_17 : decode cX6_told 17 = .ok (.ifCond .ne 6, 3) := by decide +kernel
theorem dX6_told_20 : decode cX6_told 20 = .ok (.bipush (-2), 2) := by decide +kernel
theorem dX6_told_22 : decode cX6_told 22 = .ok (.ireturn, 1) := by decide +kernel
theorem dX6_told_23 : decode cX6_told 23 = .ok (.iload_n 2, 1) := by decide +kernel
theorem dX6_told_24 : decode cX6_told 24 = .ok (.iconst 5, 1) := by decide +kernel
theorem dX6_told_25 : decode cX6_told 25 = .ok (.if_icmp .ne 12, 3) := by decide +kernel
theorem dX6_told_28 : decode cX6_told 28 = .ok (.aload_n 0, 1) := by decide +kernel
theorem dX6_told_29 : decode cX6_told 29 = .ok (.iload_n 1, 1) := by decide +kernel
theorem dX6_told_30 : decode cX6_told 30 = .ok (.iconst 0, 1) := by decide +kernel
theorem dX6_told_31 : decode cX6_told 31 = .ok (.iconst 0, 1) := by decide +kernel
theorem dX6_told_32 : decode cX6_told 32 = .ok (.iconst 0, 1) := by decide +kernel
theorem dX6_told_33 : decode cX6_told 33 = .ok (.invokevirtual 116, 3) := by decide +kernel
theorem dX6_told_36 : decode cX6_told 36 = .ok (.ireturn, 1) := by decide +kernel
theorem dX6_told_37 : decode cX6_told 37 = .ok (.iload_n 2, 1) := by decide +kernel
theorem dX6_told_38 : decode cX6_told 38 = .ok (.ifCond .ne 12, 3) := by decide +kernel
theorem dX6_told_41 : decode cX6_told 41 = .ok (.aload_n 0, 1) := by decide +kernel
theorem dX6_told_42 : decode cX6_told 42 = .ok (.getfield 29, 3) := by decide +kernel
theorem dX6_told_45 : decode cX6_told 45 = .ok (.iload_n 1, 1) := by decide +kernel
theorem dX6_told_46 : decode cX6_told 46 = .ok (.iaload, 1) := by decide +kernel
theorem dX6_told_47 : decode cX6_told 47 = .ok (.goto 50, 3) := by decide +kernel
theorem dX6_told_50 : decode cX6_told 50 = .ok (.iload_n 2, 1) := by decide +kernel
theorem dX6_told_51 : decode cX6_told 51 = .ok (.iconst 1, 1) := by decide +kernel
theorem dX6_told_52 : decode cX6_told 52 = .ok (.if_icmp .ne 11, 3) := by decide +kernel
theorem dX6_told_55 : decode cX6_told 55 = .ok (.aload_n 0, 1) := by decide +kernel
theorem dX6_told_56 : decode cX6_told 56 = .ok (.iload_n 1, 1) := by decide +kernel
theorem dX6_told_57 : decode cX6_told 57 = .ok (.invokevirtual 120, 3) := by decide +kernel
theorem dX6_told_60 : decode cX6_told 60 = .ok (.goto 37, 3) := by decide +kernel
theorem dX6_told_63 : decode cX6_told 63 = .ok (.iload_n 2, 1) := by decide +kernel
theorem dX6_told_64 : decode cX6_told 64 = .ok (.iconst 2, 1) := by decide +kernel
theorem dX6_told_65 : decode cX6_told 65 = .ok (.if_icmp .ne 12, 3) := by decide +kernel
theorem dX6_told_68 : decode cX6_told 68 = .ok (.aload_n 0, 1) := by decide +kernel
theorem dX6_told_69 : decode cX6_told 69 = .ok (.getfield 32, 3) := by decide +kernel
theorem dX6_told_72 : decode cX6_told 72 = .ok (.iload_n 1, 1) := by decide +kernel
theorem dX6_told_73 : decode cX6_told 73 = .ok (.iaload, 1) := by decide +kernel
theorem dX6_told_74 : decode cX6_told 74 = .ok (.goto 23, 3) := by decide +kernel
theorem dX6_told_77 : decode cX6_told 77 = .ok (.iload_n 2, 1) := by decide +kernel
theorem dX6_told_78 : decode cX6_told 78 = .ok (.iconst 3, 1) := by decide +kernel
theorem dX6_told_79 : decode cX6_told 79 = .ok (.if_icmp .ne 12, 3) := by decide +kernel
theorem dX6_told_82 : decode cX6_told 82 = .ok (.aload_n 0, 1) := by decide +kernel
theorem dX6_told_83 : decode cX6_told 83 = .ok (.getfield 35, 3) := by decide +kernel
theorem dX6_told_86 : decode cX6_told 86 = .ok (.iload_n 1, 1) := by decide +kernel
theorem dX6_told_87 : decode cX6_told 87 = .ok (.iaload, 1) := by decide +kernel
theorem dX6_told_88 : decode cX6_told 88 = .ok (.goto 9, 3) := by decide +kernel
theorem dX6_told_91 : decode cX6_told 91 = .ok (.aload_n 0, 1) := by decide +kernel
theorem dX6_told_92 : decode cX6_told 92 = .ok (.getfield 38, 3) := by decide +kernel
theorem dX6_told_95 : decode cX6_told 95 = .ok (.iload_n 1, 1) := by decide +kernel
theorem dX6_told_96 : decode cX6_told 96 = .ok (.iaload, 1) := by decide +kernel
theorem dX6_told_97 : decode cX6_told 97 = .ok (.ireturn, 1) := by decide +kernel
theorem dX6_feed_0 : decode cX6_feed 0 = .ok (.iload_n 1, 1) := by decide +kernel
theorem dX6_feed_1 : decode cX6_feed 1 = .ok (.i2l, 1) := by decide +kernel
theorem dX6_feed_2 : decode cX6_feed 2 = .ok (.lconst 0, 1) := by decide +kernel
theorem dX6_feed_3 : decode cX6_feed 3 = .ok (.ldc2_w 124, 3) := by decide +kernel
theorem dX6_feed_6 : decode cX6_feed 6 = .ok (.invokestatic 94, 3) := by decide +kernel
theorem dX6_feed_9 : decode cX6_feed 9 = .ok (.ifCond .ne 6, 3) := by decide +kernel
theorem dX6_feed_12 : decode cX6_feed 12 = .ok (.bipush (-2), 2) := by decide +kernel
theorem dX6_feed_14 : decode cX6_feed 14 = .ok (.ireturn, 1) := by decide +kernel
theorem dX6_feed_15 : decode cX6_feed 15 = .ok (.aload_n 0, 1) := by decide +kernel
theorem dX6_feed_16 : decode cX6_feed 16 = .ok (.getfield 126, 3) := by decide +kernel
theorem dX6_feed_19 : decode cX6_feed 19 = .ok (.sipush 160, 3) := by decide +kernel
theorem dX6_feed_22 : decode cX6_feed 22 = .ok (.if_icmp .ne 6, 3) := by decide +kernel
theorem dX6_feed_25 : decode cX6_feed 25 = .ok (.bipush (-4), 2) := by decide +kernel
theorem dX6_feed_27 : decode cX6_feed 27 = .ok (.ireturn, 1) := by decide +kernel
theorem dX6_feed_28 : decode cX6_feed 28 = .ok (.aload_n 0, 1) := by decide +kernel
theorem dX6_feed_29 : decode cX6_feed 29 = .ok (.getfield 20, 3) := by decide +kernel
theorem dX6_feed_32 : decode cX6_feed 32 = .ok (.aload_n 0, 1) := by decide +kernel
theorem dX6_feed_33 : decode cX6_feed 33 = .ok (.getfield 126, 3) := by decide +kernel
theorem dX6_feed_36 : decode cX6_feed 36 = .ok (.iload_n 1, 1) := by decide +kernel
theorem dX6_feed_37 : decode cX6_feed 37 = .ok (.iastore, 1) := by decide +kernel
theorem dX6_feed_38 : decode cX6_feed 38 = .ok (.aload_n 0, 1) := by decide +kernel
theorem dX6_feed_39 : decode cX6_feed 39 = .ok (.dup, 1) := by decide +kernel
theorem dX6_feed_40 : decode cX6_feed 40 = .ok (.getfield 126, 3) := by decide +kernel
theorem dX6_feed_43 : decode cX6_feed 43 = .ok (.iconst 1, 1) := by decide +kernel
theorem dX6_feed_44 : decode cX6_feed 44 = .ok (.iadd, 1) := by decide +kernel
theorem dX6_feed_45 : decode cX6_feed 45 = .ok (.putfield 126, 3) := by decide +kernel
theorem dX6_feed_48 : decode cX6_feed 48 = .ok (.aload_n 0, 1) := by decide +kernel
theorem dX6_feed_49 : decode cX6_feed 49 = .ok (.getfield 126, 3) := by decide +kernel
theorem dX6_feed_52 : decode cX6_feed 52 = .ok (.ireturn, 1) := by decide +kernel
theorem dX6_byteAt_0 : decode cX6_byteAt 0 = .ok (.iload_n 1, 1) := by decide +kernel
theorem dX6_byteAt_1 : decode cX6_byteAt 1 = .ok (.aload_n 0, 1) := by decide +kernel
theorem dX6_byteAt_2 : decode cX6_byteAt 2 = .ok (.getfield 129, 3) := by decide +kernel
theorem dX6_byteAt_5 : decode cX6_byteAt 5 = .ok (.if_icmp .ge 17, 3) := by decide +kernel
theorem dX6_byteAt_8 : decode cX6_byteAt 8 = .ok (.aload_n 0, 1) := by decide +kernel
theorem dX6_byteAt_9 : decode cX6_byteAt 9 = .ok (.getfield 13, 3) := by decide +kernel
theorem dX6_byteAt_12 : decode cX6_byteAt 12 = .ok (.aload_n 0, 1) := by decide +kernel
theorem dX6_byteAt_13 : decode cX6_byteAt 13 = .ok (.getfield 132, 3) := by decide +kernel
theorem dX6_byteAt_16 : decode cX6_byteAt 16 = .ok (.iload_n 1, 1) := by decide +kernel
theorem dX6_byteAt_17 : decode cX6_byteAt 17 = .ok (.iadd, 1) := by decide +kernel
theorem dX6_byteAt_18 : decode cX6_byteAt 18 = .ok (.iaload, 1) := by decide +kernel
theorem dX6_byteAt_19 : decode cX6_byteAt 19 = .ok (.goto 4, 3) := by decide +kernel
theorem dX6_byteAt_22 : decode cX6_byteAt 22 = .ok (.iconst (-1), 1) := by decide +kernel
theorem dX6_byteAt_23 : decode cX6_byteAt 23 = .ok (.ireturn, 1) := by decide +kernel
theorem dX6_next_0 : decode cX6_next 0 = .ok (.aload_n 0, 1) := by decide +kernel
theorem dX6_next_1 : decode cX6_next 1 = .ok (.aload_n 0, 1) := by decide +kernel
theorem dX6_next_2 : decode cX6_next 2 = .ok (.getfield 135, 3) := by decide +kernel
theorem dX6_next_5 : decode cX6_next 5 = .ok (.invokevirtual 138, 3) := by decide +kernel
theorem dX6_next_8 : decode cX6_next 8 = .ok (.bipush 32, 2) := by decide +kernel
theorem dX6_next_10 : decode cX6_next 10 = .ok (.if_icmp .eq 16, 3) := by decide +kernel
theorem dX6_next_13 : decode cX6_next 13 = .ok (.aload_n 0, 1) := by decide +kernel
theorem dX6_next_14 : decode cX6_next 14 = .ok (.aload_n 0, 1) := by decide +kernel
theorem dX6_next_15 : decode cX6_next 15 = .ok (.getfield 135, 3) := by decide +kernel
theorem dX6_next_18 : decode cX6_next 18 = .ok (.invokevirtual 138, 3) := by decide +kernel
theorem dX6_next_21 : decode cX6_next 21 = .ok (.bipush 10, 2) := by decide +kernel
theorem dX6_next_23 : decode cX6_next 23 = .ok (.if_icmp .ne 16, 3) := by decide +kernel
theorem dX6_next_26 : decode cX6_next 26 = .ok (.aload_n 0, 1) := by decide +kernel
theorem dX6_next_27 : decode cX6_next 27 = .ok (.dup, 1) := by decide +kernel
theorem dX6_next_28 : decode cX6_next 28 = .ok (.getfield 135, 3) := by decide +kernel
theorem dX6_next_31 : decode cX6_next 31 = .ok (.iconst 1, 1) := by decide +kernel
theorem dX6_next_32 : decode cX6_next 32 = .ok (.iadd, 1) := by decide +kernel
theorem dX6_next_33 : decode cX6_next 33 = .ok (.putfield 135, 3) := by decide +kernel
theorem dX6_next_36 : decode cX6_next 36 = .ok (.goto (-36), 3) := by decide +kernel
theorem dX6_next_39 : decode cX6_next 39 = .ok (.aload_n 0, 1) := by decide +kernel
theorem dX6_next_40 : decode cX6_next 40 = .ok (.aload_n 0, 1) := by decide +kernel
theorem dX6_next_41 : decode cX6_next 41 = .ok (.getfield 135, 3) := by decide +kernel
theorem dX6_next_44 : decode cX6_next 44 = .ok (.putfield 141, 3) := by decide +kernel
theorem dX6_next_47 : decode cX6_next 47 = .ok (.aload_n 0, 1) := by decide +kernel
theorem dX6_next_48 : decode cX6_next 48 = .ok (.aload_n 0, 1) := by decide +kernel
theorem dX6_next_49 : decode cX6_next 49 = .ok (.getfield 135, 3) := by decide +kernel
theorem dX6_next_52 : decode cX6_next 52 = .ok (.invokevirtual 138, 3) := by decide +kernel
theorem dX6_next_55 : decode cX6_next 55 = .ok (.istore_n 1, 1) := by decide +kernel
theorem dX6_next_56 : decode cX6_next 56 = .ok (.aload_n 0, 1) := by decide +kernel
theorem dX6_next_57 : decode cX6_next 57 = .ok (.iconst 4, 1) := by decide +kernel
theorem dX6_next_58 : decode cX6_next 58 = .ok (.putfield 144, 3) := by decide +kernel
theorem dX6_next_61 : decode cX6_next 61 = .ok (.iload_n 1, 1) := by decide +kernel
theorem dX6_next_62 : decode cX6_next 62 = .ok (.ifCond .ge 19, 3) := by decide +kernel
theorem dX6_next_65 : decode cX6_next 65 = .ok (.aload_n 0, 1) := by decide +kernel
theorem dX6_next_66 : decode cX6_next 66 = .ok (.iconst 0, 1) := by decide +kernel
theorem dX6_next_67 : decode cX6_next 67 = .ok (.putfield 144, 3) := by decide +kernel
theorem dX6_next_70 : decode cX6_next 70 = .ok (.aload_n 0, 1) := by decide +kernel
theorem dX6_next_71 : decode cX6_next 71 = .ok (.aload_n 0, 1) := by decide +kernel
theorem dX6_next_72 : decode cX6_next 72 = .ok (.getfield 129, 3) := by decide +kernel
theorem dX6_next_75 : decode cX6_next 75 = .ok (.putfield 141, 3) := by decide +kernel
theorem dX6_next_78 : decode cX6_next 78 = .ok (.goto 243, 3) := by decide +kernel
theorem dX6_next_81 : decode cX6_next 81 = .ok (.iload_n 1, 1) := by decide +kernel
theorem dX6_next_82 : decode cX6_next 82 = .ok (.i2l, 1) := by decide +kernel
theorem dX6_next_83 : decode cX6_next 83 = .ok (.ldc2_w 147, 3) := by decide +kernel
theorem dX6_next_86 : decode cX6_next 86 = .ok (.ldc2_w 149, 3) := by decide +kernel
theorem dX6_next_89 : decode cX6_next 89 = .ok (.invokestatic 94, 3) := by decide +kernel
theorem dX6_next_92 : decode cX6_next 92 = .ok (.ifCond .eq 42, 3) := by decide +kernel
theorem dX6_next_95 : decode cX6_next 95 = .ok (.aload_n 0, 1) := by decide +kernel
theorem dX6_next_96 : decode cX6_next 96 = .ok (.iconst 1, 1) := by decide +kernel
theorem dX6_next_97 : decode cX6_next 97 = .ok (.putfield 144, 3) := by decide +kernel
theorem dX6_next_100 : decode cX6_next 100 = .ok (.aload_n 0, 1) := by decide +kernel
theorem dX6_next_101 : decode cX6_next 101 = .ok (.aload_n 0, 1) := by decide +kernel
theorem dX6_next_102 : decode cX6_next 102 = .ok (.getfield 135, 3) := by decide +kernel
theorem dX6_next_105 : decode cX6_next 105 = .ok (.invokevirtual 138, 3) := by decide +kernel
theorem dX6_next_108 : decode cX6_next 108 = .ok (.i2l, 1) := by decide +kernel
theorem dX6_next_109 : decode cX6_next 109 = .ok (.ldc2_w 147, 3) := by decide +kernel
theorem dX6_next_112 : decode cX6_next 112 = .ok (.ldc2_w 149, 3) := by decide +kernel
theorem dX6_next_115 : decode cX6_next 115 = .ok (.invokestatic 94, 3) := by decide +kernel
theorem dX6_next_118 : decode cX6_next 118 = .ok (.ifCond .eq 203, 3) := by decide +kernel
theorem dX6_next_121 : decode cX6_next 121 = .ok (.aload_n 0, 1) := by decide +kernel
theorem dX6_next_122 : decode cX6_next 122 = .ok (.dup, 1) := by decide +kernel
theorem dX6_next_123 : decode cX6_next 123 = .ok (.getfield 135, 3) := by decide +kernel
theorem dX6_next_126 : decode cX6_next 126 = .ok (.iconst 1, 1) := by decide +kernel
theorem dX6_next_127 : decode cX6_next 127 = .ok (.iadd, 1) := by decide +kernel
theorem dX6_next_128 : decode cX6_next 128 = .ok (.putfield 135, 3) := by decide +kernel
theorem dX6_next_131 : decode cX6_next 131 = .ok (.goto (-31), 3) := by decide +kernel
theorem dX6_next_134 : decode cX6_next 134 = .ok (.iload_n 1, 1) := by decide +kernel
theorem dX6_next_135 : decode cX6_next 135 = .ok (.i2l, 1) := by decide +kernel
theorem dX6_next_136 : decode cX6_next 136 = .ok (.ldc2_w 151, 3) := by decide +kernel
theorem dX6_next_139 : decode cX6_next 139 = .ok (.ldc2_w 153, 3) := by decide +kernel
theorem dX6_next_142 : decode cX6_next 142 = .ok (.invokestatic 94, 3) := by decide +kernel
theorem dX6_next_145 : decode cX6_next 145 = .ok (.ifCond .eq 107, 3) := by decide +kernel
theorem dX6_next_148 : decode cX6_next 148 = .ok (.aload_n 0, 1) := by decide +kernel
theorem dX6_next_149 : decode cX6_next 149 = .ok (.iconst 2, 1) := by decide +kernel
theorem dX6_next_150 : decode cX6_next 150 = .ok (.putfield 144, 3) := by decide +kernel
theorem dX6_next_153 : decode cX6_next 153 = .ok (.aload_n 0, 1) := by decide +kernel
theorem dX6_next_154 : decode cX6_next 154 = .ok (.lconst 0, 1) := by decide +kernel
theorem dX6_next_155 : decode cX6_next 155 = .ok (.putfield 155, 3) := by decide +kernel
theorem dX6_next_158 : decode cX6_next 158 = .ok (.iconst 0, 1) := by decide +kernel
theorem dX6_next_159 : decode cX6_next 159 = .ok (.istore_n 2, 1) := by decide +kernel
theorem dX6_next_160 : decode cX6_next 160 = .ok (.aload_n 0, 1) := by decide +kernel
theorem dX6_next_161 : decode cX6_next 161 = .ok (.aload_n 0, 1) := by decide +kernel
theorem dX6_next_162 : decode cX6_next 162 = .ok (.getfield 135, 3) := by decide +kernel
theorem dX6_next_165 : decode cX6_next 165 = .ok (.invokevirtual 138, 3) := by decide +kernel
theorem dX6_next_168 : decode cX6_next 168 = .ok (.i2l, 1) := by decide +kernel
theorem dX6_next_169 : decode cX6_next 169 = .ok (.ldc2_w 151, 3) := by decide +kernel
theorem dX6_next_172 : decode cX6_next 172 = .ok (.ldc2_w 153, 3) := by decide +kernel
theorem dX6_next_175 : decode cX6_next 175 = .ok (.invokestatic 94, 3) := by decide +kernel
theorem dX6_next_178 : decode cX6_next 178 = .ok (.ifCond .eq 57, 3) := by decide +kernel
theorem dX6_next_181 : decode cX6_next 181 = .ok (.aload_n 0, 1) := by decide +kernel
theorem dX6_next_182 : decode cX6_next 182 = .ok (.iload_n 2, 1) := by decide +kernel
theorem dX6_next_183 : decode cX6_next 183 = .ok (.iconst 4, 1) := by decide +kernel
theorem dX6_next_184 : decode cX6_next 184 = .ok (.if_icmp .ge 28, 3) := by decide +kernel
theorem dX6_next_187 : decode cX6_next 187 = .ok (.ldc2_w 159, 3) := by decide +kernel
theorem dX6_next_190 : decode cX6_next 190 = .ok (.aload_n 0, 1) := by decide +kernel
theorem dX6_next_191 : decode cX6_next 191 = .ok (.getfield 155, 3) := by decide +kernel
theorem dX6_next_194 : decode cX6_next 194 = .ok (.lmul, 1) := by decide +kernel
theorem dX6_next_195 : decode cX6_next 195 = .ok (.aload_n 0, 1) := by decide +kernel
theorem dX6_next_196 : decode cX6_next 196 = .ok (.aload_n 0, 1) := by decide +kernel
theorem dX6_next_197 : decode cX6_next 197 = .ok (.getfield 135, 3) := by decide +kernel
theorem dX6_next_200 : decode cX6_next 200 = .ok (.invokevirtual 138, 3) := by decide +kernel
theorem dX6_next_203 : decode cX6_next 203 = .ok (.i2l, 1) := by decide +kernel
theorem dX6_next_204 : decode cX6_next 204 = .ok (.ladd, 1) := by decide +kernel
theorem dX6_next_205 : decode cX6_next 205 = .ok (.ldc2_w 151, 3) := by decide +kernel
theorem dX6_next_208 : decode cX6_next 208 = .ok (.lsub, 1) := by decide +kernel
theorem dX6_next_209 : decode cX6_next 209 = .ok (.goto 7, 3) := by decide +kernel
theorem dX6_next_212 : decode cX6_next 212 = .ok (.aload_n 0, 1) := by decide +kernel
theorem dX6_next_213 : decode cX6_next 213 = .ok (.getfield 155, 3) := by decide +kernel
theorem dX6_next_216 : decode cX6_next 216 = .ok (.putfield 155, 3) := by decide +kernel
theorem dX6_next_219 : decode cX6_next 219 = .ok (.iinc 2 1, 3) := by decide +kernel
theorem dX6_next_222 : decode cX6_next 222 = .ok (.aload_n 0, 1) := by decide +kernel
theorem dX6_next_223 : decode cX6_next 223 = .ok (.dup, 1) := by decide +kernel
theorem dX6_next_224 : decode cX6_next 224 = .ok (.getfield 135, 3) := by decide +kernel
theorem dX6_next_227 : decode cX6_next 227 = .ok (.iconst 1, 1) := by decide +kernel
theorem dX6_next_228 : decode cX6_next 228 = .ok (.iadd, 1) := by decide +kernel
theorem dX6_next_229 : decode cX6_next 229 = .ok (.putfield 135, 3) := by decide +kernel
theorem dX6_next_232 : decode cX6_next 232 = .ok (.goto (-72), 3) := by decide +kernel
theorem dX6_next_235 : decode cX6_next 235 = .ok (.aload_n 0, 1) := by decide +kernel
theorem dX6_next_236 : decode cX6_next 236 = .ok (.iload_n 2, 1) := by decide +kernel
theorem dX6_next_237 : decode cX6_next 237 = .ok (.iconst 4, 1) := by decide +kernel
theorem dX6_next_238 : decode cX6_next 238 = .ok (.if_icmp .le 7, 3) := by decide +kernel
theorem dX6_next_241 : decode cX6_next 241 = .ok (.iconst 4, 1) := by decide +kernel
theorem dX6_next_242 : decode cX6_next 242 = .ok (.goto 4, 3) := by decide +kernel
theorem dX6_next_245 : decode cX6_next 245 = .ok (.iconst 2, 1) := by decide +kernel
theorem dX6_next_246 : decode cX6_next 246 = .ok (.putfield 144, 3) := by decide +kernel
theorem dX6_next_249 : decode cX6_next 249 = .ok (.goto 72, 3) := by decide +kernel
theorem dX6_next_252 : decode cX6_next 252 = .ok (.iload_n 1, 1) := by decide +kernel
theorem dX6_next_253 : decode cX6_next 253 = .ok (.bipush 40, 2) := by decide +kernel
theorem dX6_next_255 : decode cX6_next 255 = .ok (.if_icmp .eq 45, 3) := by decide +kernel
theorem dX6_next_258 : decode cX6_next 258 = .ok (.iload_n 1, 1) := by decide +kernel
theorem dX6_next_259 : decode cX6_next 259 = .ok (.bipush 41, 2) := by decide +kernel
theorem dX6_next_261 : decode cX6_next 261 = .ok (.if_icmp .eq 39, 3) := by decide +kernel
theorem dX6_next_264 : decode cX6_next 264 = .ok (.iload_n 1, 1) := by decide +kernel
theorem dX6_next_265 : decode cX6_next 265 = .ok (.bipush 59, 2) := by decide +kernel
theorem dX6_next_267 : decode cX6_next 267 = .ok (.if_icmp .eq 33, 3) := by decide +kernel
theorem dX6_next_270 : decode cX6_next 270 = .ok (.iload_n 1, 1) := by decide +kernel
theorem dX6_next_271 : decode cX6_next 271 = .ok (.bipush 43, 2) := by decide +kernel
theorem dX6_next_273 : decode cX6_next 273 = .ok (.if_icmp .eq 27, 3) := by decide +kernel
theorem dX6_next_276 : decode cX6_next 276 = .ok (.iload_n 1, 1) := by decide +kernel
theorem dX6_next_277 : decode cX6_next 277 = .ok (.bipush 45, 2) := by decide +kernel
theorem dX6_next_279 : decode cX6_next 279 = .ok (.if_icmp .eq 21, 3) := by decide +kernel
theorem dX6_next_282 : decode cX6_next 282 = .ok (.iload_n 1, 1) := by decide +kernel
theorem dX6_next_283 : decode cX6_next 283 = .ok (.bipush 42, 2) := by decide +kernel
theorem dX6_next_285 : decode cX6_next 285 = .ok (.if_icmp .eq 15, 3) := by decide +kernel
theorem dX6_next_288 : decode cX6_next 288 = .ok (.iload_n 1, 1) := by decide +kernel
theorem dX6_next_289 : decode cX6_next 289 = .ok (.bipush 60, 2) := by decide +kernel
theorem dX6_next_291 : decode cX6_next 291 = .ok (.if_icmp .eq 9, 3) := by decide +kernel
theorem dX6_next_294 : decode cX6_next 294 = .ok (.iload_n 1, 1) := by decide +kernel
theorem dX6_next_295 : decode cX6_next 295 = .ok (.bipush 61, 2) := by decide +kernel
theorem dX6_next_297 : decode cX6_next 297 = .ok (.if_icmp .ne 24, 3) := by decide +kernel
theorem dX6_next_300 : decode cX6_next 300 = .ok (.aload_n 0, 1) := by decide +kernel
theorem dX6_next_301 : decode cX6_next 301 = .ok (.iconst 3, 1) := by decide +kernel
theorem dX6_next_302 : decode cX6_next 302 = .ok (.putfield 144, 3) := by decide +kernel
theorem dX6_next_305 : decode cX6_next 305 = .ok (.aload_n 0, 1) := by decide +kernel
theorem dX6_next_306 : decode cX6_next 306 = .ok (.iload_n 1, 1) := by decide +kernel
theorem dX6_next_307 : decode cX6_next 307 = .ok (.i2l, 1) := by decide +kernel
theorem dX6_next_308 : decode cX6_next 308 = .ok (.putfield 155, 3) := by decide +kernel
theorem dX6_next_311 : decode cX6_next 311 = .ok (.aload_n 0, 1) := by decide +kernel
theorem dX6_next_312 : decode cX6_next 312 = .ok (.dup, 1) := by decide +kernel
theorem dX6_next_313 : decode cX6_next 313 = .ok (.getfield 135, 3) := by decide +kernel
theorem dX6_next_316 : decode cX6_next 316 = .ok (.iconst 1, 1) := by decide +kernel
theorem dX6_next_317 : decode cX6_next 317 = .ok (.iadd, 1) := by decide +kernel
theorem dX6_next_318 : decode cX6_next 318 = .ok (.putfield 135, 3) := by decide +kernel
theorem dX6_next_321 : decode cX6_next 321 = .ok (.return_, 1) := by decide +kernel
theorem dX6_fail_0 : decode cX6_fail 0 = .ok (.aload_n 0, 1) := by decide +kernel
theorem dX6_fail_1 : decode cX6_fail 1 = .ok (.getfield 161, 3) := by decide +kernel
theorem dX6_fail_4 : decode cX6_fail 4 = .ok (.ifCond .ne 16, 3) := by decide +kernel
theorem dX6_fail_7 : decode cX6_fail 7 = .ok (.aload_n 0, 1) := by decide +kernel
theorem dX6_fail_8 : decode cX6_fail 8 = .ok (.iconst 1, 1) := by decide +kernel
theorem dX6_fail_9 : decode cX6_fail 9 = .ok (.putfield 161, 3) := by decide +kernel
theorem dX6_fail_12 : decode cX6_fail 12 = .ok (.aload_n 0, 1) := by decide +kernel
theorem dX6_fail_13 : decode cX6_fail 13 = .ok (.aload_n 0, 1) := by decide +kernel
theorem dX6_fail_14 : decode cX6_fail 14 = .ok (.getfield 141, 3) := by decide +kernel
theorem dX6_fail_17 : decode cX6_fail 17 = .ok (.putfield 165, 3) := by decide +kernel
theorem dX6_fail_20 : decode cX6_fail 20 = .ok (.return_, 1) := by decide +kernel
theorem dX6_isLetter_0 : decode cX6_isLetter 0 = .ok (.aload_n 0, 1) := by decide +kernel
theorem dX6_isLetter_1 : decode cX6_isLetter 1 = .ok (.getfield 141, 3) := by decide +kernel
theorem dX6_isLetter_4 : decode cX6_isLetter 4 = .ok (.iload_n 1, 1) := by decide +kernel
theorem dX6_isLetter_5 : decode cX6_isLetter 5 = .ok (.iadd, 1) := by decide +kernel
theorem dX6_isLetter_6 : decode cX6_isLetter 6 = .ok (.aload_n 0, 1) := by decide +kernel
theorem dX6_isLetter_7 : decode cX6_isLetter 7 = .ok (.getfield 135, 3) := by decide +kernel
theorem dX6_isLetter_10 : decode cX6_isLetter 10 = .ok (.if_icmp .ge 25, 3) := by decide +kernel
theorem dX6_isLetter_13 : decode cX6_isLetter 13 = .ok (.aload_n 0, 1) := by decide +kernel
theorem dX6_isLetter_14 : decode cX6_isLetter 14 = .ok (.aload_n 0, 1) := by decide +kernel
theorem dX6_isLetter_15 : decode cX6_isLetter 15 = .ok (.getfield 141, 3) := by decide +kernel
theorem dX6_isLetter_18 : decode cX6_isLetter 18 = .ok (.iload_n 1, 1) := by decide +kernel
theorem dX6_isLetter_19 : decode cX6_isLetter 19 = .ok (.iadd, 1) := by decide +kernel
theorem dX6_isLetter_20 : decode cX6_isLetter 20 = .ok (.invokevirtual 138, 3) := by decide +kernel
theorem dX6_isLetter_23 : decode cX6_isLetter 23 = .ok (.iload_n 2, 1) := by decide +kernel
theorem dX6_isLetter_24 : decode cX6_isLetter 24 = .ok (.if_icmp .ne 7, 3) := by decide +kernel
theorem dX6_isLetter_27 : decode cX6_isLetter 27 = .ok (.iconst 1, 1) := by decide +kernel
theorem dX6_isLetter_28 : decode cX6_isLetter 28 = .ok (.goto 16, 3) := by decide +kernel
theorem dX6_isLetter_31 : decode cX6_isLetter 31 = .ok (.iconst 0, 1) := by decide +kernel
theorem dX6_isLetter_32 : decode cX6_isLetter 32 = .ok (.goto 12, 3) := by decide +kernel
theorem dX6_isLetter_35 : decode cX6_isLetter 35 = .ok (.iload_n 2, 1) := by decide +kernel
theorem dX6_isLetter_36 : decode cX6_isLetter 36 = .ok (.ifCond .ne 7, 3) := by decide +kernel
theorem dX6_isLetter_39 : decode cX6_isLetter 39 = .ok (.iconst 1, 1) := by decide +kernel
theorem dX6_isLetter_40 : decode cX6_isLetter 40 = .ok (.goto 4, 3) := by decide +kernel
theorem dX6_isLetter_43 : decode cX6_isLetter 43 = .ok (.iconst 0, 1) := by decide +kernel
theorem dX6_isLetter_44 : decode cX6_isLetter 44 = .ok (.ireturn, 1) := by decide +kernel
theorem dX6_isWord_0 : decode cX6_isWord 0 = .ok (.aload_n 0, 1) := by decide +kernel
theorem dX6_isWord_1 : decode cX6_isWord 1 = .ok (.getfield 161, 3) := by decide +kernel
theorem dX6_isWord_4 : decode cX6_isWord 4 = .ok (.ifCond .ne 108, 3) := by decide +kernel
theorem dX6_isWord_7 : decode cX6_isWord 7 = .ok (.aload_n 0, 1) := by decide +kernel
theorem dX6_isWord_8 : decode cX6_isWord 8 = .ok (.getfield 144, 3) := by decide +kernel
theorem dX6_isWord_11 : decode cX6_isWord 11 = .ok (.iconst 1, 1) := by decide +kernel
theorem dX6_isWord_12 : decode cX6_isWord 12 = .ok (.if_icmp .ne 100, 3) := by decide +kernel
theorem dX6_isWord_15 : decode cX6_isWord 15 = .ok (.aload_n 0, 1) := by decide +kernel
theorem dX6_isWord_16 : decode cX6_isWord 16 = .ok (.getfield 135, 3) := by decide +kernel
theorem dX6_isWord_19 : decode cX6_isWord 19 = .ok (.aload_n 0, 1) := by decide +kernel
theorem dX6_isWord_20 : decode cX6_isWord 20 = .ok (.getfield 141, 3) := by decide +kernel
theorem dX6_isWord_23 : decode cX6_isWord 23 = .ok (.bipush 8, 2) := by decide +kernel
theorem dX6_isWord_25 : decode cX6_isWord 25 = .ok (.iadd, 1) := by decide +kernel
theorem dX6_isWord_26 : decode cX6_isWord 26 = .ok (.if_icmp .gt 86, 3) := by decide +kernel
theorem dX6_isWord_29 : decode cX6_isWord 29 = .ok (.aload_n 0, 1) := by decide +kernel
theorem dX6_isWord_30 : decode cX6_isWord 30 = .ok (.iconst 0, 1) := by decide +kernel
theorem dX6_isWord_31 : decode cX6_isWord 31 = .ok (.iload_n 1, 1) := by decide +kernel
theorem dX6_isWord_32 : decode cX6_isWord 32 = .ok (.invokevirtual 168, 3) := by decide +kernel
theorem dX6_isWord_35 : decode cX6_isWord 35 = .ok (.ifCond .eq 77, 3) := by decide +kernel
theorem dX6_isWord_38 : decode cX6_isWord 38 = .ok (.aload_n 0, 1) := by decide +kernel
theorem dX6_isWord_39 : decode cX6_isWord 39 = .ok (.iconst 1, 1) := by decide +kernel
theorem dX6_isWord_40 : decode cX6_isWord 40 = .ok (.iload_n 2, 1) := by decide +kernel
theorem dX6_isWord_41 : decode cX6_isWord 41 = .ok (.invokevirtual 168, 3) := by decide +kernel
theorem dX6_isWord_44 : decode cX6_isWord 44 = .ok (.ifCond .eq 68, 3) := by decide +kernel
theorem dX6_isWord_47 : decode cX6_isWord 47 = .ok (.aload_n 0, 1) := by decide +kernel
theorem dX6_isWord_48 : decode cX6_isWord 48 = .ok (.iconst 2, 1) := by decide +kernel
theorem dX6_isWord_49 : decode cX6_isWord 49 = .ok (.iload_n 3, 1) := by decide +kernel
theorem dX6_isWord_50 : decode cX6_isWord 50 = .ok (.invokevirtual 168, 3) := by decide +kernel
theorem dX6_isWord_53 : decode cX6_isWord 53 = .ok (.ifCond .eq 59, 3) := by decide +kernel
theorem dX6_isWord_56 : decode cX6_isWord 56 = .ok (.aload_n 0, 1) := by decide +kernel
theorem dX6_isWord_57 : decode cX6_isWord 57 = .ok (.iconst 3, 1) := by decide +kernel
theorem dX6_isWord_58 : decode cX6_isWord 58 = .ok (.iload 4, 2) := by decide +kernel
theorem dX6_isWord_60 : decode cX6_isWord 60 = .ok (.invokevirtual 168, 3) := by decide +kernel
theorem dX6_isWord_63 : decode cX6_isWord 63 = .ok (.ifCond .eq 49, 3) := by decide +kernel
theorem dX6_isWord_66 : decode cX6_isWord 66 = .ok (.aload_n 0, 1) := by decide +kernel
theorem dX6_isWord_67 : decode cX6_isWord 67 = .ok (.iconst 4, 1) := by decide +kernel
theorem dX6_isWord_68 : decode cX6_isWord 68 = .ok (.iload 5, 2) := by decide +kernel
theorem dX6_isWord_70 : decode cX6_isWord 70 = .ok (.invokevirtual 168, 3) := by decide +kernel
theorem dX6_isWord_73 : decode cX6_isWord 73 = .ok (.ifCond .eq 39, 3) := by decide +kernel
theorem dX6_isWord_76 : decode cX6_isWord 76 = .ok (.aload_n 0, 1) := by decide +kernel
theorem dX6_isWord_77 : decode cX6_isWord 77 = .ok (.iconst 5, 1) := by decide +kernel
theorem dX6_isWord_78 : decode cX6_isWord 78 = .ok (.iload 6, 2) := by decide +kernel
theorem dX6_isWord_80 : decode cX6_isWord 80 = .ok (.invokevirtual 168, 3) := by decide +kernel
theorem dX6_isWord_83 : decode cX6_isWord 83 = .ok (.ifCond .eq 29, 3) := by decide +kernel
theorem dX6_isWord_86 : decode cX6_isWord 86 = .ok (.aload_n 0, 1) := by decide +kernel
theorem dX6_isWord_87 : decode cX6_isWord 87 = .ok (.bipush 6, 2) := by decide +kernel
theorem dX6_isWord_89 : decode cX6_isWord 89 = .ok (.iload 7, 2) := by decide +kernel
theorem dX6_isWord_91 : decode cX6_isWord 91 = .ok (.invokevirtual 168, 3) := by decide +kernel
theorem dX6_isWord_94 : decode cX6_isWord 94 = .ok (.ifCond .eq 18, 3) := by decide +kernel
theorem dX6_isWord_97 : decode cX6_isWord 97 = .ok (.aload_n 0, 1) := by decide +kernel
theorem dX6_isWord_98 : decode cX6_isWord 98 = .ok (.bipush 7, 2) := by decide +kernel
theorem dX6_isWord_100 : decode cX6_isWord 100 = .ok (.iload 8, 2) := by decide +kernel
theorem dX6_isWord_102 : decode cX6_isWord 102 = .ok (.invokevirtual 168, 3) := by decide +kernel
theorem dX6_isWord_105 : decode cX6_isWord 105 = .ok (.ifCond .eq 7, 3) := by decide +kernel
theorem dX6_isWord_108 : decode cX6_isWord 108 = .ok (.iconst 1, 1) := by decide +kernel
theorem dX6_isWord_109 : decode cX6_isWord 109 = .ok (.goto 4, 3) := by decide +kernel
theorem dX6_isWord_112 : decode cX6_isWord 112 = .ok (.iconst 0, 1) := by decide +kernel
theorem dX6_isWord_113 : decode cX6_isWord 113 = .ok (.ireturn, 1) := by decide +kernel
theorem dX6_isSign_0 : decode cX6_isSign 0 = .ok (.aload_n 0, 1) := by decide +kernel
theorem dX6_isSign_1 : decode cX6_isSign 1 = .ok (.getfield 161, 3) := by decide +kernel
theorem dX6_isSign_4 : decode cX6_isSign 4 = .ok (.ifCond .ne 25, 3) := by decide +kernel
theorem dX6_isSign_7 : decode cX6_isSign 7 = .ok (.aload_n 0, 1) := by decide +kernel
theorem dX6_isSign_8 : decode cX6_isSign 8 = .ok (.getfield 144, 3) := by decide +kernel
theorem dX6_isSign_11 : decode cX6_isSign 11 = .ok (.iconst 3, 1) := by decide +kernel
theorem dX6_isSign_12 : decode cX6_isSign 12 = .ok (.if_icmp .ne 17, 3) := by decide +kernel
theorem dX6_isSign_15 : decode cX6_isSign 15 = .ok (.aload_n 0, 1) := by decide +kernel
theorem dX6_isSign_16 : decode cX6_isSign 16 = .ok (.getfield 155, 3) := by decide +kernel
theorem dX6_isSign_19 : decode cX6_isSign 19 = .ok (.iload_n 1, 1) := by decide +kernel
theorem dX6_isSign_20 : decode cX6_isSign 20 = .ok (.i2l, 1) := by decide +kernel
theorem dX6_isSign_21 : decode cX6_isSign 21 = .ok (.lcmp, 1) := by decide +kernel
theorem dX6_isSign_22 : decode cX6_isSign 22 = .ok (.ifCond .ne 7, 3) := by decide +kernel
theorem dX6_isSign_25 : decode cX6_isSign 25 = .ok (.iconst 1, 1) := by decide +kernel
theorem dX6_isSign_26 : decode cX6_isSign 26 = .ok (.goto 4, 3) := by decide +kernel
theorem dX6_isSign_29 : decode cX6_isSign 29 = .ok (.iconst 0, 1) := by decide +kernel
theorem dX6_isSign_30 : decode cX6_isSign 30 = .ok (.ireturn, 1) := by decide +kernel
theorem dX6_opens_0 : decode cX6_opens 0 = .ok (.aload_n 0, 1) := by decide +kernel
theorem dX6_opens_1 : decode cX6_opens 1 = .ok (.getfield 172, 3) := by decide +kernel
theorem dX6_opens_4 : decode cX6_opens 4 = .ok (.iconst 5, 1) := by decide +kernel
theorem dX6_opens_5 : decode cX6_opens 5 = .ok (.if_icmp .ne 9, 3) := by decide +kernel
theorem dX6_opens_8 : decode cX6_opens 8 = .ok (.aload_n 0, 1) := by decide +kernel
theorem dX6_opens_9 : decode cX6_opens 9 = .ok (.invokevirtual 175, 3) := by decide +kernel
theorem dX6_opens_12 : decode cX6_opens 12 = .ok (.iconst 0, 1) := by decide +kernel
theorem dX6_opens_13 : decode cX6_opens 13 = .ok (.ireturn, 1) := by decide +kernel
theorem dX6_opens_14 : decode cX6_opens 14 = .ok (.aload_n 0, 1) := by decide +kernel
theorem dX6_opens_15 : decode cX6_opens 15 = .ok (.dup, 1) := by decide +kernel
theorem dX6_opens_16 : decode cX6_opens 16 = .ok (.getfield 172, 3) := by decide +kernel
theorem dX6_opens_19 : decode cX6_opens 19 = .ok (.iconst 1, 1) := by decide +kernel
theorem dX6_opens_20 : decode cX6_opens 20 = .ok (.iadd, 1) := by decide +kernel
theorem dX6_opens_21 : decode cX6_opens 21 = .ok (.putfield 172, 3) := by decide +kernel
theorem dX6_opens_24 : decode cX6_opens 24 = .ok (.aload_n 0, 1) := by decide +kernel
theorem dX6_opens_25 : decode cX6_opens 25 = .ok (.invokevirtual 178, 3) := by decide +kernel
theorem dX6_opens_28 : decode cX6_opens 28 = .ok (.iconst 1, 1) := by decide +kernel
theorem dX6_opens_29 : decode cX6_opens 29 = .ok (.ireturn, 1) := by decide +kernel
theorem dX6_name_0 : decode cX6_name 0 = .ok (.aload_n 0, 1) := by decide +kernel
theorem dX6_name_1 : decode cX6_name 1 = .ok (.bipush 99, 2) := by decide +kernel
theorem dX6_name_3 : decode cX6_name 3 = .ok (.bipush 97, 2) := by decide +kernel
theorem dX6_name_5 : decode cX6_name 5 = .ok (.bipush 107, 2) := by decide +kernel
theorem dX6_name_7 : decode cX6_name 7 = .ok (.bipush 101, 2) := by decide +kernel
theorem dX6_name_9 : decode cX6_name 9 = .ok (.iconst 0, 1) := by decide +kernel
theorem dX6_name_10 : decode cX6_name 10 = .ok (.iconst 0, 1) := by decide +kernel
theorem dX6_name_11 : decode cX6_name 11 = .ok (.iconst 0, 1) := by decide +kernel
theorem dX6_name_12 : decode cX6_name 12 = .ok (.iconst 0, 1) := by decide +kernel
theorem dX6_name_13 : decode cX6_name 13 = .ok (.invokevirtual 181, 3) := by decide +kernel
theorem dX6_name_16 : decode cX6_name 16 = .ok (.ifCond .eq 8, 3) := by decide +kernel
theorem dX6_name_19 : decode cX6_name 19 = .ok (.aload_n 0, 1) := by decide +kernel
theorem dX6_name_20 : decode cX6_name 20 = .ok (.getfield 185, 3) := by decide +kernel
theorem dX6_name_23 : decode cX6_name 23 = .ok (.ireturn, 1) := by decide +kernel
theorem dX6_name_24 : decode cX6_name 24 = .ok (.aload_n 0, 1) := by decide +kernel
theorem dX6_name_25 : decode cX6_name 25 = .ok (.bipush 109, 2) := by decide +kernel
theorem dX6_name_27 : decode cX6_name 27 = .ok (.bipush 105, 2) := by decide +kernel
theorem dX6_name_29 : decode cX6_name 29 = .ok (.bipush 110, 2) := by decide +kernel
theorem dX6_name_31 : decode cX6_name 31 = .ok (.bipush 117, 2) := by decide +kernel
theorem dX6_name_33 : decode cX6_name 33 = .ok (.bipush 116, 2) := by decide +kernel
theorem dX6_name_35 : decode cX6_name 35 = .ok (.bipush 101, 2) := by decide +kernel
theorem dX6_name_37 : decode cX6_name 37 = .ok (.iconst 0, 1) := by decide +kernel
theorem dX6_name_38 : decode cX6_name 38 = .ok (.iconst 0, 1) := by decide +kernel
theorem dX6_name_39 : decode cX6_name 39 = .ok (.invokevirtual 181, 3) := by decide +kernel
theorem dX6_name_42 : decode cX6_name 42 = .ok (.ifCond .eq 8, 3) := by decide +kernel
theorem dX6_name_45 : decode cX6_name 45 = .ok (.aload_n 0, 1) := by decide +kernel
theorem dX6_name_46 : decode cX6_name 46 = .ok (.getfield 188, 3) := by decide +kernel
theorem dX6_name_49 : decode cX6_name 49 = .ok (.ireturn, 1) := by decide +kernel
theorem dX6_name_50 : decode cX6_name 50 = .ok (.aload_n 0, 1) := by decide +kernel
theorem dX6_name_51 : decode cX6_name 51 = .ok (.bipush 104, 2) := by decide +kernel
theorem dX6_name_53 : decode cX6_name 53 = .ok (.bipush 97, 2) := by decide +kernel
theorem dX6_name_55 : decode cX6_name 55 = .ok (.bipush 100, 2) := by decide +kernel
theorem dX6_name_57 : decode cX6_name 57 = .ok (.iconst 0, 1) := by decide +kernel
theorem dX6_name_58 : decode cX6_name 58 = .ok (.iconst 0, 1) := by decide +kernel
theorem dX6_name_59 : decode cX6_name 59 = .ok (.iconst 0, 1) := by decide +kernel
theorem dX6_name_60 : decode cX6_name 60 = .ok (.iconst 0, 1) := by decide +kernel
theorem dX6_name_61 : decode cX6_name 61 = .ok (.iconst 0, 1) := by decide +kernel
theorem dX6_name_62 : decode cX6_name 62 = .ok (.invokevirtual 181, 3) := by decide +kernel
theorem dX6_name_65 : decode cX6_name 65 = .ok (.ifCond .eq 8, 3) := by decide +kernel
theorem dX6_name_68 : decode cX6_name 68 = .ok (.aload_n 0, 1) := by decide +kernel
theorem dX6_name_69 : decode cX6_name 69 = .ok (.getfield 191, 3) := by decide +kernel
theorem dX6_name_72 : decode cX6_name 72 = .ok (.ireturn, 1) := by decide +kernel
theorem dX6_name_73 : decode cX6_name 73 = .ok (.aload_n 0, 1) := by decide +kernel
theorem dX6_name_74 : decode cX6_name 74 = .ok (.bipush 119, 2) := by decide +kernel
theorem dX6_name_76 : decode cX6_name 76 = .ok (.bipush 97, 2) := by decide +kernel
theorem dX6_name_78 : decode cX6_name 78 = .ok (.bipush 110, 2) := by decide +kernel
theorem dX6_name_80 : decode cX6_name 80 = .ok (.bipush 116, 2) := by decide +kernel
theorem dX6_name_82 : decode cX6_name 82 = .ok (.iconst 0, 1) := by decide +kernel
theorem dX6_name_83 : decode cX6_name 83 = .ok (.iconst 0, 1) := by decide +kernel
theorem dX6_name_84 : decode cX6_name 84 = .ok (.iconst 0, 1) := by decide +kernel
theorem dX6_name_85 : decode cX6_name 85 = .ok (.iconst 0, 1) := by decide +kernel
theorem dX6_name_86 : decode cX6_name 86 = .ok (.invokevirtual 181, 3) := by decide +kernel
theorem dX6_name_89 : decode cX6_name 89 = .ok (.ifCond .eq 8, 3) := by decide +kernel
theorem dX6_name_92 : decode cX6_name 92 = .ok (.aload_n 0, 1) := by decide +kernel
theorem dX6_name_93 : decode cX6_name 93 = .ok (.getfield 194, 3) := by decide +kernel
theorem dX6_name_96 : decode cX6_name 96 = .ok (.ireturn, 1) := by decide +kernel
theorem dX6_name_97 : decode cX6_name 97 = .ok (.aload_n 0, 1) := by decide +kernel
theorem dX6_name_98 : decode cX6_name 98 = .ok (.bipush 101, 2) := by decide +kernel
theorem dX6_name_100 : decode cX6_name 100 = .ok (.bipush 97, 2) := by decide +kernel
theorem dX6_name_102 : decode cX6_name 102 = .ok (.bipush 116, 2) := by decide +kernel
theorem dX6_name_104 : decode cX6_name 104 = .ok (.bipush 101, 2) := by decide +kernel
theorem dX6_name_106 : decode cX6_name 106 = .ok (.bipush 114, 2) := by decide +kernel
theorem dX6_name_108 : decode cX6_name 108 = .ok (.iconst 0, 1) := by decide +kernel
theorem dX6_name_109 : decode cX6_name 109 = .ok (.iconst 0, 1) := by decide +kernel
theorem dX6_name_110 : decode cX6_name 110 = .ok (.iconst 0, 1) := by decide +kernel
theorem dX6_name_111 : decode cX6_name 111 = .ok (.invokevirtual 181, 3) := by decide +kernel
theorem dX6_name_114 : decode cX6_name 114 = .ok (.ifCond .eq 8, 3) := by decide +kernel
theorem dX6_name_117 : decode cX6_name 117 = .ok (.aload_n 0, 1) := by decide +kernel
theorem dX6_name_118 : decode cX6_name 118 = .ok (.getfield 197, 3) := by decide +kernel
theorem dX6_name_121 : decode cX6_name 121 = .ok (.ireturn, 1) := by decide +kernel
theorem dX6_name_122 : decode cX6_name 122 = .ok (.aload_n 0, 1) := by decide +kernel
theorem dX6_name_123 : decode cX6_name 123 = .ok (.bipush 108, 2) := by decide +kernel
theorem dX6_name_125 : decode cX6_name 125 = .ok (.bipush 97, 2) := by decide +kernel
theorem dX6_name_127 : decode cX6_name 127 = .ok (.bipush 116, 2) := by decide +kernel
theorem dX6_name_129 : decode cX6_name 129 = .ok (.bipush 101, 2) := by decide +kernel
theorem dX6_name_131 : decode cX6_name 131 = .ok (.iconst 0, 1) := by decide +kernel
theorem dX6_name_132 : decode cX6_name 132 = .ok (.iconst 0, 1) := by decide +kernel
theorem dX6_name_133 : decode cX6_name 133 = .ok (.iconst 0, 1) := by decide +kernel
theorem dX6_name_134 : decode cX6_name 134 = .ok (.iconst 0, 1) := by decide +kernel
theorem dX6_name_135 : decode cX6_name 135 = .ok (.invokevirtual 181, 3) := by decide +kernel
theorem dX6_name_138 : decode cX6_name 138 = .ok (.ifCond .eq 8, 3) := by decide +kernel
theorem dX6_name_141 : decode cX6_name 141 = .ok (.aload_n 0, 1) := by decide +kernel
theorem dX6_name_142 : decode cX6_name 142 = .ok (.getfield 200, 3) := by decide +kernel
theorem dX6_name_145 : decode cX6_name 145 = .ok (.ireturn, 1) := by decide +kernel
theorem dX6_name_146 : decode cX6_name 146 = .ok (.aload_n 0, 1) := by decide +kernel
theorem dX6_name_147 : decode cX6_name 147 = .ok (.invokevirtual 175, 3) := by decide +kernel
theorem dX6_name_150 : decode cX6_name 150 = .ok (.iconst 0, 1) := by decide +kernel
theorem dX6_name_151 : decode cX6_name 151 = .ok (.ireturn, 1) := by decide +kernel
theorem dX6_atom_0 : decode cX6_atom 0 = .ok (.iconst 0, 1) := by decide +kernel
theorem dX6_atom_1 : decode cX6_atom 1 = .ok (.istore_n 1, 1) := by decide +kernel
theorem dX6_atom_2 : decode cX6_atom 2 = .ok (.aload_n 0, 1) := by decide +kernel
theorem dX6_atom_3 : decode cX6_atom 3 = .ok (.bipush 45, 2) := by decide +kernel
theorem dX6_atom_5 : decode cX6_atom 5 = .ok (.invokevirtual 203, 3) := by decide +kernel
theorem dX6_atom_8 : decode cX6_atom 8 = .ok (.ifCond .eq 29, 3) := by decide +kernel
theorem dX6_atom_11 : decode cX6_atom 11 = .ok (.aload_n 0, 1) := by decide +kernel
theorem dX6_atom_12 : decode cX6_atom 12 = .ok (.invokevirtual 206, 3) := by decide +kernel
theorem dX6_atom_15 : decode cX6_atom 15 = .ok (.ifCond .eq 146, 3) := by decide +kernel
theorem dX6_atom_18 : decode cX6_atom 18 = .ok (.aload_n 0, 1) := by decide +kernel
theorem dX6_atom_19 : decode cX6_atom 19 = .ok (.invokevirtual 210, 3) := by decide +kernel
theorem dX6_atom_22 : decode cX6_atom 22 = .ok (.ineg, 1) := by decide +kernel
theorem dX6_atom_23 : decode cX6_atom 23 = .ok (.istore_n 1, 1) := by decide +kernel
theorem dX6_atom_24 : decode cX6_atom 24 = .ok (.aload_n 0, 1) := by decide +kernel
theorem dX6_atom_25 : decode cX6_atom 25 = .ok (.dup, 1) := by decide +kernel
theorem dX6_atom_26 : decode cX6_atom 26 = .ok (.getfield 172, 3) := by decide +kernel
theorem dX6_atom_29 : decode cX6_atom 29 = .ok (.iconst 1, 1) := by decide +kernel
theorem dX6_atom_30 : decode cX6_atom 30 = .ok (.isub, 1) := by decide +kernel
theorem dX6_atom_31 : decode cX6_atom 31 = .ok (.putfield 172, 3) := by decide +kernel
theorem dX6_atom_34 : decode cX6_atom 34 = .ok (.goto 127, 3) := by decide +kernel
theorem dX6_atom_37 : decode cX6_atom 37 = .ok (.aload_n 0, 1) := by decide +kernel
theorem dX6_atom_38 : decode cX6_atom 38 = .ok (.bipush 40, 2) := by decide +kernel
theorem dX6_atom_40 : decode cX6_atom 40 = .ok (.invokevirtual 203, 3) := by decide +kernel
theorem dX6_atom_43 : decode cX6_atom 43 = .ok (.ifCond .eq 52, 3) := by decide +kernel
theorem dX6_atom_46 : decode cX6_atom 46 = .ok (.aload_n 0, 1) := by decide +kernel
theorem dX6_atom_47 : decode cX6_atom 47 = .ok (.invokevirtual 206, 3) := by decide +kernel
theorem dX6_atom_50 : decode cX6_atom 50 = .ok (.ifCond .eq 111, 3) := by decide +kernel
theorem dX6_atom_53 : decode cX6_atom 53 = .ok (.aload_n 0, 1) := by decide +kernel
theorem dX6_atom_54 : decode cX6_atom 54 = .ok (.invokevirtual 214, 3) := by decide +kernel
theorem dX6_atom_57 : decode cX6_atom 57 = .ok (.istore_n 1, 1) := by decide +kernel
theorem dX6_atom_58 : decode cX6_atom 58 = .ok (.aload_n 0, 1) := by decide +kernel
theorem dX6_atom_59 : decode cX6_atom 59 = .ok (.bipush 41, 2) := by decide +kernel
theorem dX6_atom_61 : decode cX6_atom 61 = .ok (.invokevirtual 203, 3) := by decide +kernel
theorem dX6_atom_64 : decode cX6_atom 64 = .ok (.ifCond .ne 7, 3) := by decide +kernel
theorem dX6_atom_67 : decode cX6_atom 67 = .ok (.aload_n 0, 1) := by decide +kernel
theorem dX6_atom_68 : decode cX6_atom 68 = .ok (.invokevirtual 175, 3) := by decide +kernel
theorem dX6_atom_71 : decode cX6_atom 71 = .ok (.aload_n 0, 1) := by decide +kernel
theorem dX6_atom_72 : decode cX6_atom 72 = .ok (.dup, 1) := by decide +kernel
theorem dX6_atom_73 : decode cX6_atom 73 = .ok (.getfield 172, 3) := by decide +kernel
theorem dX6_atom_76 : decode cX6_atom 76 = .ok (.iconst 1, 1) := by decide +kernel
theorem dX6_atom_77 : decode cX6_atom 77 = .ok (.isub, 1) := by decide +kernel
theorem dX6_atom_78 : decode cX6_atom 78 = .ok (.putfield 172, 3) := by decide +kernel
theorem dX6_atom_81 : decode cX6_atom 81 = .ok (.aload_n 0, 1) := by decide +kernel
theorem dX6_atom_82 : decode cX6_atom 82 = .ok (.getfield 161, 3) := by decide +kernel
theorem dX6_atom_85 : decode cX6_atom 85 = .ok (.ifCond .ne 76, 3) := by decide +kernel
theorem dX6_atom_88 : decode cX6_atom 88 = .ok (.aload_n 0, 1) := by decide +kernel
theorem dX6_atom_89 : decode cX6_atom 89 = .ok (.invokevirtual 178, 3) := by decide +kernel
theorem dX6_atom_92 : decode cX6_atom 92 = .ok (.goto 69, 3) := by decide +kernel
theorem dX6_atom_95 : decode cX6_atom 95 = .ok (.aload_n 0, 1) := by decide +kernel
theorem dX6_atom_96 : decode cX6_atom 96 = .ok (.getfield 161, 3) := by decide +kernel
theorem dX6_atom_99 : decode cX6_atom 99 = .ok (.ifCond .ne 24, 3) := by decide +kernel
theorem dX6_atom_102 : decode cX6_atom 102 = .ok (.aload_n 0, 1) := by decide +kernel
theorem dX6_atom_103 : decode cX6_atom 103 = .ok (.getfield 144, 3) := by decide +kernel
theorem dX6_atom_106 : decode cX6_atom 106 = .ok (.iconst 2, 1) := by decide +kernel
theorem dX6_atom_107 : decode cX6_atom 107 = .ok (.if_icmp .ne 16, 3) := by decide +kernel
theorem dX6_atom_110 : decode cX6_atom 110 = .ok (.aload_n 0, 1) := by decide +kernel
theorem dX6_atom_111 : decode cX6_atom 111 = .ok (.getfield 155, 3) := by decide +kernel
theorem dX6_atom_114 : decode cX6_atom 114 = .ok (.l2i, 1) := by decide +kernel
theorem dX6_atom_115 : decode cX6_atom 115 = .ok (.istore_n 1, 1) := by decide +kernel
theorem dX6_atom_116 : decode cX6_atom 116 = .ok (.aload_n 0, 1) := by decide +kernel
theorem dX6_atom_117 : decode cX6_atom 117 = .ok (.invokevirtual 178, 3) := by decide +kernel
theorem dX6_atom_120 : decode cX6_atom 120 = .ok (.goto 41, 3) := by decide +kernel
theorem dX6_atom_123 : decode cX6_atom 123 = .ok (.aload_n 0, 1) := by decide +kernel
theorem dX6_atom_124 : decode cX6_atom 124 = .ok (.getfield 161, 3) := by decide +kernel
theorem dX6_atom_127 : decode cX6_atom 127 = .ok (.ifCond .ne 30, 3) := by decide +kernel
theorem dX6_atom_130 : decode cX6_atom 130 = .ok (.aload_n 0, 1) := by decide +kernel
theorem dX6_atom_131 : decode cX6_atom 131 = .ok (.getfield 144, 3) := by decide +kernel
theorem dX6_atom_134 : decode cX6_atom 134 = .ok (.iconst 1, 1) := by decide +kernel
theorem dX6_atom_135 : decode cX6_atom 135 = .ok (.if_icmp .ne 22, 3) := by decide +kernel
theorem dX6_atom_138 : decode cX6_atom 138 = .ok (.aload_n 0, 1) := by decide +kernel
theorem dX6_atom_139 : decode cX6_atom 139 = .ok (.invokevirtual 217, 3) := by decide +kernel
theorem dX6_atom_142 : decode cX6_atom 142 = .ok (.istore_n 1, 1) := by decide +kernel
theorem dX6_atom_143 : decode cX6_atom 143 = .ok (.aload_n 0, 1) := by decide +kernel
theorem dX6_atom_144 : decode cX6_atom 144 = .ok (.getfield 161, 3) := by decide +kernel
theorem dX6_atom_147 : decode cX6_atom 147 = .ok (.ifCond .ne 14, 3) := by decide +kernel
theorem dX6_atom_150 : decode cX6_atom 150 = .ok (.aload_n 0, 1) := by decide +kernel
theorem dX6_atom_151 : decode cX6_atom 151 = .ok (.invokevirtual 178, 3) := by decide +kernel
theorem dX6_atom_154 : decode cX6_atom 154 = .ok (.goto 7, 3) := by decide +kernel
theorem dX6_atom_157 : decode cX6_atom 157 = .ok (.aload_n 0, 1) := by decide +kernel
theorem dX6_atom_158 : decode cX6_atom 158 = .ok (.invokevirtual 175, 3) := by decide +kernel
theorem dX6_atom_161 : decode cX6_atom 161 = .ok (.iload_n 1, 1) := by decide +kernel
theorem dX6_atom_162 : decode cX6_atom 162 = .ok (.ireturn, 1) := by decide +kernel
theorem dX6_term_0 : decode cX6_term 0 = .ok (.aload_n 0, 1) := by decide +kernel
theorem dX6_term_1 : decode cX6_term 1 = .ok (.invokevirtual 210, 3) := by decide +kernel
theorem dX6_term_4 : decode cX6_term 4 = .ok (.istore_n 1, 1) := by decide +kernel
theorem dX6_term_5 : decode cX6_term 5 = .ok (.aload_n 0, 1) := by decide +kernel
theorem dX6_term_6 : decode cX6_term 6 = .ok (.bipush 42, 2) := by decide +kernel
theorem dX6_term_8 : decode cX6_term 8 = .ok (.invokevirtual 203, 3) := by decide +kernel
theorem dX6_term_11 : decode cX6_term 11 = .ok (.ifCond .eq 17, 3) := by decide +kernel
theorem dX6_term_14 : decode cX6_term 14 = .ok (.aload_n 0, 1) := by decide +kernel
theorem dX6_term_15 : decode cX6_term 15 = .ok (.invokevirtual 178, 3) := by decide +kernel
theorem dX6_term_18 : decode cX6_term 18 = .ok (.iload_n 1, 1) := by decide +kernel
theorem dX6_term_19 : decode cX6_term 19 = .ok (.aload_n 0, 1) := by decide +kernel
theorem dX6_term_20 : decode cX6_term 20 = .ok (.invokevirtual 210, 3) := by decide +kernel
theorem dX6_term_23 : decode cX6_term 23 = .ok (.imul, 1) := by decide +kernel
theorem dX6_term_24 : decode cX6_term 24 = .ok (.istore_n 1, 1) := by decide +kernel
theorem dX6_term_25 : decode cX6_term 25 = .ok (.goto (-20), 3) := by decide +kernel
theorem dX6_term_28 : decode cX6_term 28 = .ok (.iload_n 1, 1) := by decide +kernel
theorem dX6_term_29 : decode cX6_term 29 = .ok (.ireturn, 1) := by decide +kernel
theorem dX6_added_0 : decode cX6_added 0 = .ok (.aload_n 0, 1) := by decide +kernel
theorem dX6_added_1 : decode cX6_added 1 = .ok (.invokevirtual 220, 3) := by decide +kernel
theorem dX6_added_4 : decode cX6_added 4 = .ok (.istore_n 1, 1) := by decide +kernel
theorem dX6_added_5 : decode cX6_added 5 = .ok (.aload_n 0, 1) := by decide +kernel
theorem dX6_added_6 : decode cX6_added 6 = .ok (.bipush 43, 2) := by decide +kernel
theorem dX6_added_8 : decode cX6_added 8 = .ok (.invokevirtual 203, 3) := by decide +kernel
theorem dX6_added_11 : decode cX6_added 11 = .ok (.ifCond .ne 12, 3) := by decide +kernel
theorem dX6_added_14 : decode cX6_added 14 = .ok (.aload_n 0, 1) := by decide +kernel
theorem dX6_added_15 : decode cX6_added 15 = .ok (.bipush 45, 2) := by decide +kernel
theorem dX6_added_17 : decode cX6_added 17 = .ok (.invokevirtual 203, 3) := by decide +kernel
theorem dX6_added_20 : decode cX6_added 20 = .ok (.ifCond .eq 46, 3) := by decide +kernel
theorem dX6_added_23 : decode cX6_added 23 = .ok (.aload_n 0, 1) := by decide +kernel
theorem dX6_added_24 : decode cX6_added 24 = .ok (.getfield 155, 3) := by decide +kernel
theorem dX6_added_27 : decode cX6_added 27 = .ok (.ldc2_w 223, 3) := by decide +kernel
theorem dX6_added_30 : decode cX6_added 30 = .ok (.lcmp, 1) := by decide +kernel
theorem dX6_added_31 : decode cX6_added 31 = .ok (.ifCond .ne 7, 3) := by decide +kernel
theorem dX6_added_34 : decode cX6_added 34 = .ok (.iconst 1, 1) := by decide +kernel
theorem dX6_added_35 : decode cX6_added 35 = .ok (.goto 4, 3) := by decide +kernel
theorem dX6_added_38 : decode cX6_added 38 = .ok (.iconst 0, 1) := by decide +kernel
theorem dX6_added_39 : decode cX6_added 39 = .ok (.istore_n 2, 1) := by decide +kernel
theorem dX6_added_40 : decode cX6_added 40 = .ok (.aload_n 0, 1) := by decide +kernel
theorem dX6_added_41 : decode cX6_added 41 = .ok (.invokevirtual 178, 3) := by decide +kernel
theorem dX6_added_44 : decode cX6_added 44 = .ok (.aload_n 0, 1) := by decide +kernel
theorem dX6_added_45 : decode cX6_added 45 = .ok (.invokevirtual 220, 3) := by decide +kernel
theorem dX6_added_48 : decode cX6_added 48 = .ok (.istore_n 3, 1) := by decide +kernel
theorem dX6_added_49 : decode cX6_added 49 = .ok (.iload_n 2, 1) := by decide +kernel
theorem dX6_added_50 : decode cX6_added 50 = .ok (.ifCond .eq 9, 3) := by decide +kernel
theorem dX6_added_53 : decode cX6_added 53 = .ok (.iload_n 1, 1) := by decide +kernel
theorem dX6_added_54 : decode cX6_added 54 = .ok (.iload_n 3, 1) := by decide +kernel
theorem dX6_added_55 : decode cX6_added 55 = .ok (.iadd, 1) := by decide +kernel
theorem dX6_added_56 : decode cX6_added 56 = .ok (.goto 6, 3) := by decide +kernel
theorem dX6_added_59 : decode cX6_added 59 = .ok (.iload_n 1, 1) := by decide +kernel
theorem dX6_added_60 : decode cX6_added 60 = .ok (.iload_n 3, 1) := by decide +kernel
theorem dX6_added_61 : decode cX6_added 61 = .ok (.isub, 1) := by decide +kernel
theorem dX6_added_62 : decode cX6_added 62 = .ok (.istore_n 1, 1) := by decide +kernel
theorem dX6_added_63 : decode cX6_added 63 = .ok (.goto (-58), 3) := by decide +kernel
theorem dX6_added_66 : decode cX6_added 66 = .ok (.iload_n 1, 1) := by decide +kernel
theorem dX6_added_67 : decode cX6_added 67 = .ok (.ireturn, 1) := by decide +kernel
theorem dX6_not_0 : decode cX6_not 0 = .ok (.aload_n 0, 1) := by decide +kernel
theorem dX6_not_1 : decode cX6_not 1 = .ok (.bipush 110, 2) := by decide +kernel
theorem dX6_not_3 : decode cX6_not 3 = .ok (.bipush 111, 2) := by decide +kernel
theorem dX6_not_5 : decode cX6_not 5 = .ok (.bipush 116, 2) := by decide +kernel
theorem dX6_not_7 : decode cX6_not 7 = .ok (.iconst 0, 1) := by decide +kernel
theorem dX6_not_8 : decode cX6_not 8 = .ok (.iconst 0, 1) := by decide +kernel
theorem dX6_not_9 : decode cX6_not 9 = .ok (.iconst 0, 1) := by decide +kernel
theorem dX6_not_10 : decode cX6_not 10 = .ok (.iconst 0, 1) := by decide +kernel
theorem dX6_not_11 : decode cX6_not 11 = .ok (.iconst 0, 1) := by decide +kernel
theorem dX6_not_12 : decode cX6_not 12 = .ok (.invokevirtual 181, 3) := by decide +kernel
theorem dX6_not_15 : decode cX6_not 15 = .ok (.ifCond .eq 37, 3) := by decide +kernel
theorem dX6_not_18 : decode cX6_not 18 = .ok (.aload_n 0, 1) := by decide +kernel
theorem dX6_not_19 : decode cX6_not 19 = .ok (.invokevirtual 206, 3) := by decide +kernel
theorem dX6_not_22 : decode cX6_not 22 = .ok (.ifCond .ne 5, 3) := by decide +kernel
theorem dX6_not_25 : decode cX6_not 25 = .ok (.iconst 0, 1) := by decide +kernel
theorem dX6_not_26 : decode cX6_not 26 = .ok (.ireturn, 1) := by decide +kernel
theorem dX6_not_27 : decode cX6_not 27 = .ok (.aload_n 0, 1) := by decide +kernel
theorem dX6_not_28 : decode cX6_not 28 = .ok (.invokevirtual 225, 3) := by decide +kernel
theorem dX6_not_31 : decode cX6_not 31 = .ok (.istore_n 1, 1) := by decide +kernel
theorem dX6_not_32 : decode cX6_not 32 = .ok (.aload_n 0, 1) := by decide +kernel
theorem dX6_not_33 : decode cX6_not 33 = .ok (.dup, 1) := by decide +kernel
theorem dX6_not_34 : decode cX6_not 34 = .ok (.getfield 172, 3) := by decide +kernel
theorem dX6_not_37 : decode cX6_not 37 = .ok (.iconst 1, 1) := by decide +kernel
theorem dX6_not_38 : decode cX6_not 38 = .ok (.isub, 1) := by decide +kernel
theorem dX6_not_39 : decode cX6_not 39 = .ok (.putfield 172, 3) := by decide +kernel
theorem dX6_not_42 : decode cX6_not 42 = .ok (.iload_n 1, 1) := by decide +kernel
theorem dX6_not_43 : decode cX6_not 43 = .ok (.ifCond .ne 7, 3) := by decide +kernel
theorem dX6_not_46 : decode cX6_not 46 = .ok (.iconst 1, 1) := by decide +kernel
theorem dX6_not_47 : decode cX6_not 47 = .ok (.goto 4, 3) := by decide +kernel
theorem dX6_not_50 : decode cX6_not 50 = .ok (.iconst 0, 1) := by decide +kernel
theorem dX6_not_51 : decode cX6_not 51 = .ok (.ireturn, 1) := by decide +kernel
theorem dX6_not_52 : decode cX6_not 52 = .ok (.aload_n 0, 1) := by decide +kernel
theorem dX6_not_53 : decode cX6_not 53 = .ok (.invokevirtual 228, 3) := by decide +kernel
theorem dX6_not_56 : decode cX6_not 56 = .ok (.istore_n 1, 1) := by decide +kernel
theorem dX6_not_57 : decode cX6_not 57 = .ok (.aload_n 0, 1) := by decide +kernel
theorem dX6_not_58 : decode cX6_not 58 = .ok (.bipush 60, 2) := by decide +kernel
theorem dX6_not_60 : decode cX6_not 60 = .ok (.invokevirtual 203, 3) := by decide +kernel
theorem dX6_not_63 : decode cX6_not 63 = .ok (.ifCond .ne 14, 3) := by decide +kernel
theorem dX6_not_66 : decode cX6_not 66 = .ok (.aload_n 0, 1) := by decide +kernel
theorem dX6_not_67 : decode cX6_not 67 = .ok (.bipush 61, 2) := by decide +kernel
theorem dX6_not_69 : decode cX6_not 69 = .ok (.invokevirtual 203, 3) := by decide +kernel
theorem dX6_not_72 : decode cX6_not 72 = .ok (.ifCond .ne 5, 3) := by decide +kernel
theorem dX6_not_75 : decode cX6_not 75 = .ok (.iload_n 1, 1) := by decide +kernel
theorem dX6_not_76 : decode cX6_not 76 = .ok (.ireturn, 1) := by decide +kernel
theorem dX6_not_77 : decode cX6_not 77 = .ok (.aload_n 0, 1) := by decide +kernel
theorem dX6_not_78 : decode cX6_not 78 = .ok (.getfield 155, 3) := by decide +kernel
theorem dX6_not_81 : decode cX6_not 81 = .ok (.ldc2_w 231, 3) := by decide +kernel
theorem dX6_not_84 : decode cX6_not 84 = .ok (.lcmp, 1) := by decide +kernel
theorem dX6_not_85 : decode cX6_not 85 = .ok (.ifCond .ne 7, 3) := by decide +kernel
theorem dX6_not_88 : decode cX6_not 88 = .ok (.iconst 1, 1) := by decide +kernel
theorem dX6_not_89 : decode cX6_not 89 = .ok (.goto 4, 3) := by decide +kernel
theorem dX6_not_92 : decode cX6_not 92 = .ok (.iconst 0, 1) := by decide +kernel
theorem dX6_not_93 : decode cX6_not 93 = .ok (.istore_n 2, 1) := by decide +kernel
theorem dX6_not_94 : decode cX6_not 94 = .ok (.aload_n 0, 1) := by decide +kernel
theorem dX6_not_95 : decode cX6_not 95 = .ok (.invokevirtual 178, 3) := by decide +kernel
theorem dX6_not_98 : decode cX6_not 98 = .ok (.aload_n 0, 1) := by decide +kernel
theorem dX6_not_99 : decode cX6_not 99 = .ok (.invokevirtual 228, 3) := by decide +kernel
theorem dX6_not_102 : decode cX6_not 102 = .ok (.istore_n 3, 1) := by decide +kernel
theorem dX6_not_103 : decode cX6_not 103 = .ok (.iload_n 2, 1) := by decide +kernel
theorem dX6_not_104 : decode cX6_not 104 = .ok (.ifCond .eq 11, 3) := by decide +kernel
theorem dX6_not_107 : decode cX6_not 107 = .ok (.iload_n 1, 1) := by decide +kernel
theorem dX6_not_108 : decode cX6_not 108 = .ok (.iload_n 3, 1) := by decide +kernel
theorem dX6_not_109 : decode cX6_not 109 = .ok (.if_icmp .ge 15, 3) := by decide +kernel
theorem dX6_not_112 : decode cX6_not 112 = .ok (.goto 8, 3) := by decide +kernel
theorem dX6_not_115 : decode cX6_not 115 = .ok (.iload_n 1, 1) := by decide +kernel
theorem dX6_not_116 : decode cX6_not 116 = .ok (.iload_n 3, 1) := by decide +kernel
theorem dX6_not_117 : decode cX6_not 117 = .ok (.if_icmp .ne 7, 3) := by decide +kernel
theorem dX6_not_120 : decode cX6_not 120 = .ok (.iconst 1, 1) := by decide +kernel
theorem dX6_not_121 : decode cX6_not 121 = .ok (.goto 4, 3) := by decide +kernel
theorem dX6_not_124 : decode cX6_not 124 = .ok (.iconst 0, 1) := by decide +kernel
theorem dX6_not_125 : decode cX6_not 125 = .ok (.ireturn, 1) := by decide +kernel
theorem dX6_both_0 : decode cX6_both 0 = .ok (.aload_n 0, 1) := by decide +kernel
theorem dX6_both_1 : decode cX6_both 1 = .ok (.invokevirtual 225, 3) := by decide +kernel
theorem dX6_both_4 : decode cX6_both 4 = .ok (.istore_n 1, 1) := by decide +kernel
theorem dX6_both_5 : decode cX6_both 5 = .ok (.aload_n 0, 1) := by decide +kernel
theorem dX6_both_6 : decode cX6_both 6 = .ok (.bipush 97, 2) := by decide +kernel
theorem dX6_both_8 : decode cX6_both 8 = .ok (.bipush 110, 2) := by decide +kernel
theorem dX6_both_10 : decode cX6_both 10 = .ok (.bipush 100, 2) := by decide +kernel
theorem dX6_both_12 : decode cX6_both 12 = .ok (.iconst 0, 1) := by decide +kernel
theorem dX6_both_13 : decode cX6_both 13 = .ok (.iconst 0, 1) := by decide +kernel
theorem dX6_both_14 : decode cX6_both 14 = .ok (.iconst 0, 1) := by decide +kernel
theorem dX6_both_15 : decode cX6_both 15 = .ok (.iconst 0, 1) := by decide +kernel
theorem dX6_both_16 : decode cX6_both 16 = .ok (.iconst 0, 1) := by decide +kernel
theorem dX6_both_17 : decode cX6_both 17 = .ok (.invokevirtual 181, 3) := by decide +kernel
theorem dX6_both_20 : decode cX6_both 20 = .ok (.ifCond .eq 29, 3) := by decide +kernel
theorem dX6_both_23 : decode cX6_both 23 = .ok (.aload_n 0, 1) := by decide +kernel
theorem dX6_both_24 : decode cX6_both 24 = .ok (.invokevirtual 178, 3) := by decide +kernel
theorem dX6_both_27 : decode cX6_both 27 = .ok (.aload_n 0, 1) := by decide +kernel
theorem dX6_both_28 : decode cX6_both 28 = .ok (.invokevirtual 225, 3) := by decide +kernel
theorem dX6_both_31 : decode cX6_both 31 = .ok (.istore_n 2, 1) := by decide +kernel
theorem dX6_both_32 : decode cX6_both 32 = .ok (.iload_n 1, 1) := by decide +kernel
theorem dX6_both_33 : decode cX6_both 33 = .ok (.ifCond .eq 11, 3) := by decide +kernel
theorem dX6_both_36 : decode cX6_both 36 = .ok (.iload_n 2, 1) := by decide +kernel
theorem dX6_both_37 : decode cX6_both 37 = .ok (.ifCond .eq 7, 3) := by decide +kernel
theorem dX6_both_40 : decode cX6_both 40 = .ok (.iconst 1, 1) := by decide +kernel
theorem dX6_both_41 : decode cX6_both 41 = .ok (.goto 4, 3) := by decide +kernel
theorem dX6_both_44 : decode cX6_both 44 = .ok (.iconst 0, 1) := by decide +kernel
theorem dX6_both_45 : decode cX6_both 45 = .ok (.istore_n 1, 1) := by decide +kernel
theorem dX6_both_46 : decode cX6_both 46 = .ok (.goto (-41), 3) := by decide +kernel
theorem dX6_both_49 : decode cX6_both 49 = .ok (.iload_n 1, 1) := by decide +kernel
theorem dX6_both_50 : decode cX6_both 50 = .ok (.ireturn, 1) := by decide +kernel
theorem dX6_either_0 : decode cX6_either 0 = .ok (.aload_n 0, 1) := by decide +kernel
theorem dX6_either_1 : decode cX6_either 1 = .ok (.invokevirtual 233, 3) := by decide +kernel
theorem dX6_either_4 : decode cX6_either 4 = .ok (.istore_n 1, 1) := by decide +kernel
theorem dX6_either_5 : decode cX6_either 5 = .ok (.aload_n 0, 1) := by decide +kernel
theorem dX6_either_6 : decode cX6_either 6 = .ok (.bipush 111, 2) := by decide +kernel
theorem dX6_either_8 : decode cX6_either 8 = .ok (.bipush 114, 2) := by decide +kernel
theorem dX6_either_10 : decode cX6_either 10 = .ok (.iconst 0, 1) := by decide +kernel
theorem dX6_either_11 : decode cX6_either 11 = .ok (.iconst 0, 1) := by decide +kernel
theorem dX6_either_12 : decode cX6_either 12 = .ok (.iconst 0, 1) := by decide +kernel
theorem dX6_either_13 : decode cX6_either 13 = .ok (.iconst 0, 1) := by decide +kernel
theorem dX6_either_14 : decode cX6_either 14 = .ok (.iconst 0, 1) := by decide +kernel
theorem dX6_either_15 : decode cX6_either 15 = .ok (.iconst 0, 1) := by decide +kernel
theorem dX6_either_16 : decode cX6_either 16 = .ok (.invokevirtual 181, 3) := by decide +kernel
theorem dX6_either_19 : decode cX6_either 19 = .ok (.ifCond .eq 29, 3) := by decide +kernel
theorem dX6_either_22 : decode cX6_either 22 = .ok (.aload_n 0, 1) := by decide +kernel
theorem dX6_either_23 : decode cX6_either 23 = .ok (.invokevirtual 178, 3) := by decide +kernel
theorem dX6_either_26 : decode cX6_either 26 = .ok (.aload_n 0, 1) := by decide +kernel
theorem dX6_either_27 : decode cX6_either 27 = .ok (.invokevirtual 233, 3) := by decide +kernel
theorem dX6_either_30 : decode cX6_either 30 = .ok (.istore_n 2, 1) := by decide +kernel
theorem dX6_either_31 : decode cX6_either 31 = .ok (.iload_n 1, 1) := by decide +kernel
theorem dX6_either_32 : decode cX6_either 32 = .ok (.ifCond .ne 7, 3) := by decide +kernel
theorem dX6_either_35 : decode cX6_either 35 = .ok (.iload_n 2, 1) := by decide +kernel
theorem dX6_either_36 : decode cX6_either 36 = .ok (.ifCond .eq 7, 3) := by decide +kernel
theorem dX6_either_39 : decode cX6_either 39 = .ok (.iconst 1, 1) := by decide +kernel
theorem dX6_either_40 : decode cX6_either 40 = .ok (.goto 4, 3) := by decide +kernel
theorem dX6_either_43 : decode cX6_either 43 = .ok (.iconst 0, 1) := by decide +kernel
theorem dX6_either_44 : decode cX6_either 44 = .ok (.istore_n 1, 1) := by decide +kernel
theorem dX6_either_45 : decode cX6_either 45 = .ok (.goto (-40), 3) := by decide +kernel
theorem dX6_either_48 : decode cX6_either 48 = .ok (.iload_n 1, 1) := by decide +kernel
theorem dX6_either_49 : decode cX6_either 49 = .ok (.ireturn, 1) := by decide +kernel
theorem dX6_part_0 : decode cX6_part 0 = .ok (.iload_n 1, 1) := by decide +kernel
theorem dX6_part_1 : decode cX6_part 1 = .ok (.ifCond .ne 7, 3) := by decide +kernel
theorem dX6_part_4 : decode cX6_part 4 = .ok (.aload_n 0, 1) := by decide +kernel
theorem dX6_part_5 : decode cX6_part 5 = .ok (.invokevirtual 175, 3) := by decide +kernel
theorem dX6_part_8 : decode cX6_part 8 = .ok (.aload_n 0, 1) := by decide +kernel
theorem dX6_part_9 : decode cX6_part 9 = .ok (.getfield 161, 3) := by decide +kernel
theorem dX6_part_12 : decode cX6_part 12 = .ok (.ifCond .ne 7, 3) := by decide +kernel
theorem dX6_part_15 : decode cX6_part 15 = .ok (.aload_n 0, 1) := by decide +kernel
theorem dX6_part_16 : decode cX6_part 16 = .ok (.invokevirtual 178, 3) := by decide +kernel
theorem dX6_part_19 : decode cX6_part 19 = .ok (.aload_n 0, 1) := by decide +kernel
theorem dX6_part_20 : decode cX6_part 20 = .ok (.getfield 161, 3) := by decide +kernel
theorem dX6_part_23 : decode cX6_part 23 = .ok (.ifCond .eq 7, 3) := by decide +kernel
theorem dX6_part_26 : decode cX6_part 26 = .ok (.iconst 0, 1) := by decide +kernel
theorem dX6_part_27 : decode cX6_part 27 = .ok (.goto 7, 3) := by decide +kernel
theorem dX6_part_30 : decode cX6_part 30 = .ok (.aload_n 0, 1) := by decide +kernel
theorem dX6_part_31 : decode cX6_part 31 = .ok (.invokevirtual 214, 3) := by decide +kernel
theorem dX6_part_34 : decode cX6_part 34 = .ok (.istore_n 2, 1) := by decide +kernel
theorem dX6_part_35 : decode cX6_part 35 = .ok (.aload_n 0, 1) := by decide +kernel
theorem dX6_part_36 : decode cX6_part 36 = .ok (.bipush 59, 2) := by decide +kernel
theorem dX6_part_38 : decode cX6_part 38 = .ok (.invokevirtual 203, 3) := by decide +kernel
theorem dX6_part_41 : decode cX6_part 41 = .ok (.ifCond .ne 7, 3) := by decide +kernel
theorem dX6_part_44 : decode cX6_part 44 = .ok (.aload_n 0, 1) := by decide +kernel
theorem dX6_part_45 : decode cX6_part 45 = .ok (.invokevirtual 175, 3) := by decide +kernel
theorem dX6_part_48 : decode cX6_part 48 = .ok (.aload_n 0, 1) := by decide +kernel
theorem dX6_part_49 : decode cX6_part 49 = .ok (.getfield 161, 3) := by decide +kernel
theorem dX6_part_52 : decode cX6_part 52 = .ok (.ifCond .ne 7, 3) := by decide +kernel
theorem dX6_part_55 : decode cX6_part 55 = .ok (.aload_n 0, 1) := by decide +kernel
theorem dX6_part_56 : decode cX6_part 56 = .ok (.invokevirtual 178, 3) := by decide +kernel
theorem dX6_part_59 : decode cX6_part 59 = .ok (.iload_n 2, 1) := by decide +kernel
theorem dX6_part_60 : decode cX6_part 60 = .ok (.ireturn, 1) := by decide +kernel
theorem dX6_read_0 : decode cX6_read 0 = .ok (.aload_n 0, 1) := by decide +kernel
theorem dX6_read_1 : decode cX6_read 1 = .ok (.sipush 160, 3) := by decide +kernel
theorem dX6_read_4 : decode cX6_read 4 = .ok (.iload_n 1, 1) := by decide +kernel
theorem dX6_read_5 : decode cX6_read 5 = .ok (.imul, 1) := by decide +kernel
theorem dX6_read_6 : decode cX6_read 6 = .ok (.putfield 132, 3) := by decide +kernel
theorem dX6_read_9 : decode cX6_read 9 = .ok (.aload_n 0, 1) := by decide +kernel
theorem dX6_read_10 : decode cX6_read 10 = .ok (.aload_n 0, 1) := by decide +kernel
theorem dX6_read_11 : decode cX6_read 11 = .ok (.getfield 17, 3) := by decide +kernel
theorem dX6_read_14 : decode cX6_read 14 = .ok (.iload_n 1, 1) := by decide +kernel
theorem dX6_read_15 : decode cX6_read 15 = .ok (.iaload, 1) := by decide +kernel
theorem dX6_read_16 : decode cX6_read 16 = .ok (.putfield 129, 3) := by decide +kernel
theorem dX6_read_19 : decode cX6_read 19 = .ok (.aload_n 0, 1) := by decide +kernel
theorem dX6_read_20 : decode cX6_read 20 = .ok (.iconst 0, 1) := by decide +kernel
theorem dX6_read_21 : decode cX6_read 21 = .ok (.putfield 135, 3) := by decide +kernel
theorem dX6_read_24 : decode cX6_read 24 = .ok (.aload_n 0, 1) := by decide +kernel
theorem dX6_read_25 : decode cX6_read 25 = .ok (.iconst 0, 1) := by decide +kernel
theorem dX6_read_26 : decode cX6_read 26 = .ok (.putfield 172, 3) := by decide +kernel
theorem dX6_read_29 : decode cX6_read 29 = .ok (.aload_n 0, 1) := by decide +kernel
theorem dX6_read_30 : decode cX6_read 30 = .ok (.iconst 0, 1) := by decide +kernel
theorem dX6_read_31 : decode cX6_read 31 = .ok (.putfield 161, 3) := by decide +kernel
theorem dX6_read_34 : decode cX6_read 34 = .ok (.aload_n 0, 1) := by decide +kernel
theorem dX6_read_35 : decode cX6_read 35 = .ok (.invokevirtual 178, 3) := by decide +kernel
theorem dX6_read_38 : decode cX6_read 38 = .ok (.aload_n 0, 1) := by decide +kernel
theorem dX6_read_39 : decode cX6_read 39 = .ok (.aload_n 0, 1) := by decide +kernel
theorem dX6_read_40 : decode cX6_read 40 = .ok (.bipush 116, 2) := by decide +kernel
theorem dX6_read_42 : decode cX6_read 42 = .ok (.bipush 97, 2) := by decide +kernel
theorem dX6_read_44 : decode cX6_read 44 = .ok (.bipush 107, 2) := by decide +kernel
theorem dX6_read_46 : decode cX6_read 46 = .ok (.bipush 101, 2) := by decide +kernel
theorem dX6_read_48 : decode cX6_read 48 = .ok (.bipush 115, 2) := by decide +kernel
theorem dX6_read_50 : decode cX6_read 50 = .ok (.iconst 0, 1) := by decide +kernel
theorem dX6_read_51 : decode cX6_read 51 = .ok (.iconst 0, 1) := by decide +kernel
theorem dX6_read_52 : decode cX6_read 52 = .ok (.iconst 0, 1) := by decide +kernel
theorem dX6_read_53 : decode cX6_read 53 = .ok (.invokevirtual 181, 3) := by decide +kernel
theorem dX6_read_56 : decode cX6_read 56 = .ok (.invokevirtual 236, 3) := by decide +kernel
theorem dX6_read_59 : decode cX6_read 59 = .ok (.istore_n 3, 1) := by decide +kernel
theorem dX6_read_60 : decode cX6_read 60 = .ok (.aload_n 0, 1) := by decide +kernel
theorem dX6_read_61 : decode cX6_read 61 = .ok (.getfield 161, 3) := by decide +kernel
theorem dX6_read_64 : decode cX6_read 64 = .ok (.ifCond .eq 7, 3) := by decide +kernel
theorem dX6_read_67 : decode cX6_read 67 = .ok (.iconst 0, 1) := by decide +kernel
theorem dX6_read_68 : decode cX6_read 68 = .ok (.goto 25, 3) := by decide +kernel
theorem dX6_read_71 : decode cX6_read 71 = .ok (.aload_n 0, 1) := by decide +kernel
theorem dX6_read_72 : decode cX6_read 72 = .ok (.aload_n 0, 1) := by decide +kernel
theorem dX6_read_73 : decode cX6_read 73 = .ok (.bipush 104, 2) := by decide +kernel
theorem dX6_read_75 : decode cX6_read 75 = .ok (.bipush 117, 2) := by decide +kernel
theorem dX6_read_77 : decode cX6_read 77 = .ok (.bipush 110, 2) := by decide +kernel
theorem dX6_read_79 : decode cX6_read 79 = .ok (.bipush 103, 2) := by decide +kernel
theorem dX6_read_81 : decode cX6_read 81 = .ok (.bipush 101, 2) := by decide +kernel
theorem dX6_read_83 : decode cX6_read 83 = .ok (.bipush 114, 2) := by decide +kernel
theorem dX6_read_85 : decode cX6_read 85 = .ok (.iconst 0, 1) := by decide +kernel
theorem dX6_read_86 : decode cX6_read 86 = .ok (.iconst 0, 1) := by decide +kernel
theorem dX6_read_87 : decode cX6_read 87 = .ok (.invokevirtual 181, 3) := by decide +kernel
theorem dX6_read_90 : decode cX6_read 90 = .ok (.invokevirtual 236, 3) := by decide +kernel
theorem dX6_read_93 : decode cX6_read 93 = .ok (.istore 4, 2) := by decide +kernel
theorem dX6_read_95 : decode cX6_read 95 = .ok (.aload_n 0, 1) := by decide +kernel
theorem dX6_read_96 : decode cX6_read 96 = .ok (.getfield 161, 3) := by decide +kernel
theorem dX6_read_99 : decode cX6_read 99 = .ok (.ifCond .eq 7, 3) := by decide +kernel
theorem dX6_read_102 : decode cX6_read 102 = .ok (.iconst 0, 1) := by decide +kernel
theorem dX6_read_103 : decode cX6_read 103 = .ok (.goto 24, 3) := by decide +kernel
theorem dX6_read_106 : decode cX6_read 106 = .ok (.aload_n 0, 1) := by decide +kernel
theorem dX6_read_107 : decode cX6_read 107 = .ok (.aload_n 0, 1) := by decide +kernel
theorem dX6_read_108 : decode cX6_read 108 = .ok (.bipush 119, 2) := by decide +kernel
theorem dX6_read_110 : decode cX6_read 110 = .ok (.bipush 111, 2) := by decide +kernel
theorem dX6_read_112 : decode cX6_read 112 = .ok (.bipush 114, 2) := by decide +kernel
theorem dX6_read_114 : decode cX6_read 114 = .ok (.bipush 116, 2) := by decide +kernel
theorem dX6_read_116 : decode cX6_read 116 = .ok (.bipush 104, 2) := by decide +kernel
theorem dX6_read_118 : decode cX6_read 118 = .ok (.iconst 0, 1) := by decide +kernel
theorem dX6_read_119 : decode cX6_read 119 = .ok (.iconst 0, 1) := by decide +kernel
theorem dX6_read_120 : decode cX6_read 120 = .ok (.iconst 0, 1) := by decide +kernel
theorem dX6_read_121 : decode cX6_read 121 = .ok (.invokevirtual 181, 3) := by decide +kernel
theorem dX6_read_124 : decode cX6_read 124 = .ok (.invokevirtual 236, 3) := by decide +kernel
theorem dX6_read_127 : decode cX6_read 127 = .ok (.istore 5, 2) := by decide +kernel
theorem dX6_read_129 : decode cX6_read 129 = .ok (.aload_n 0, 1) := by decide +kernel
theorem dX6_read_130 : decode cX6_read 130 = .ok (.getfield 161, 3) := by decide +kernel
theorem dX6_read_133 : decode cX6_read 133 = .ok (.ifCond .ne 14, 3) := by decide +kernel
theorem dX6_read_136 : decode cX6_read 136 = .ok (.aload_n 0, 1) := by decide +kernel
theorem dX6_read_137 : decode cX6_read 137 = .ok (.getfield 144, 3) := by decide +kernel
theorem dX6_read_140 : decode cX6_read 140 = .ok (.ifCond .eq 7, 3) := by decide +kernel
theorem dX6_read_143 : decode cX6_read 143 = .ok (.aload_n 0, 1) := by decide +kernel
theorem dX6_read_144 : decode cX6_read 144 = .ok (.invokevirtual 175, 3) := by decide +kernel
theorem dX6_read_147 : decode cX6_read 147 = .ok (.iload_n 2, 1) := by decide +kernel
theorem dX6_read_148 : decode cX6_read 148 = .ok (.ifCond .ne 7, 3) := by decide +kernel
theorem dX6_read_151 : decode cX6_read 151 = .ok (.iload_n 3, 1) := by decide +kernel
theorem dX6_read_152 : decode cX6_read 152 = .ok (.goto 15, 3) := by decide +kernel
theorem dX6_read_155 : decode cX6_read 155 = .ok (.iload_n 2, 1) := by decide +kernel
theorem dX6_read_156 : decode cX6_read 156 = .ok (.iconst 1, 1) := by decide +kernel
theorem dX6_read_157 : decode cX6_read 157 = .ok (.if_icmp .ne 8, 3) := by decide +kernel
theorem dX6_read_160 : decode cX6_read 160 = .ok (.iload 4, 2) := by decide +kernel
theorem dX6_read_162 : decode cX6_read 162 = .ok (.goto 5, 3) := by decide +kernel
theorem dX6_read_165 : decode cX6_read 165 = .ok (.iload 5, 2) := by decide +kernel
theorem dX6_read_167 : decode cX6_read 167 = .ok (.ireturn, 1) := by decide +kernel
theorem dX6_text_0 : decode cX6_text 0 = .ok (.aload_n 0, 1) := by decide +kernel
theorem dX6_text_1 : decode cX6_text 1 = .ok (.getfield 88, 3) := by decide +kernel
theorem dX6_text_4 : decode cX6_text 4 = .ok (.bipush 6, 2) := by decide +kernel
theorem dX6_text_6 : decode cX6_text 6 = .ok (.if_icmp .ne 6, 3) := by decide +kernel
theorem dX6_text_9 : decode cX6_text 9 = .ok (.bipush (-4), 2) := by decide +kernel
theorem dX6_text_11 : decode cX6_text 11 = .ok (.ireturn, 1) := by decide +kernel
theorem dX6_text_12 : decode cX6_text 12 = .ok (.iconst 0, 1) := by decide +kernel
theorem dX6_text_13 : decode cX6_text 13 = .ok (.istore_n 1, 1) := by decide +kernel
theorem dX6_text_14 : decode cX6_text 14 = .ok (.iload_n 1, 1) := by decide +kernel
theorem dX6_text_15 : decode cX6_text 15 = .ok (.aload_n 0, 1) := by decide +kernel
theorem dX6_text_16 : decode cX6_text 16 = .ok (.getfield 126, 3) := by decide +kernel
theorem dX6_text_19 : decode cX6_text 19 = .ok (.if_icmp .ge 30, 3) := by decide +kernel
theorem dX6_text_22 : decode cX6_text 22 = .ok (.aload_n 0, 1) := by decide +kernel
theorem dX6_text_23 : decode cX6_text 23 = .ok (.getfield 13, 3) := by decide +kernel
theorem dX6_text_26 : decode cX6_text 26 = .ok (.sipush 160, 3) := by decide +kernel
theorem dX6_text_29 : decode cX6_text 29 = .ok (.aload_n 0, 1) := by decide +kernel
theorem dX6_text_30 : decode cX6_text 30 = .ok (.getfield 88, 3) := by decide +kernel
theorem dX6_text_33 : decode cX6_text 33 = .ok (.imul, 1) := by decide +kernel
theorem dX6_text_34 : decode cX6_text 34 = .ok (.iload_n 1, 1) := by decide +kernel
theorem dX6_text_35 : decode cX6_text 35 = .ok (.iadd, 1) := by decide +kernel
theorem dX6_text_36 : decode cX6_text 36 = .ok (.aload_n 0, 1) := by decide +kernel
theorem dX6_text_37 : decode cX6_text 37 = .ok (.getfield 20, 3) := by decide +kernel
theorem dX6_text_40 : decode cX6_text 40 = .ok (.iload_n 1, 1) := by decide +kernel
theorem dX6_text_41 : decode cX6_text 41 = .ok (.iaload, 1) := by decide +kernel
theorem dX6_text_42 : decode cX6_text 42 = .ok (.iastore, 1) := by decide +kernel
theorem dX6_text_43 : decode cX6_text 43 = .ok (.iinc 1 1, 3) := by decide +kernel
theorem dX6_text_46 : decode cX6_text 46 = .ok (.goto (-32), 3) := by decide +kernel
theorem dX6_text_49 : decode cX6_text 49 = .ok (.aload_n 0, 1) := by decide +kernel
theorem dX6_text_50 : decode cX6_text 50 = .ok (.getfield 17, 3) := by decide +kernel
theorem dX6_text_53 : decode cX6_text 53 = .ok (.aload_n 0, 1) := by decide +kernel
theorem dX6_text_54 : decode cX6_text 54 = .ok (.getfield 88, 3) := by decide +kernel
theorem dX6_text_57 : decode cX6_text 57 = .ok (.aload_n 0, 1) := by decide +kernel
theorem dX6_text_58 : decode cX6_text 58 = .ok (.getfield 126, 3) := by decide +kernel
theorem dX6_text_61 : decode cX6_text 61 = .ok (.iastore, 1) := by decide +kernel
theorem dX6_text_62 : decode cX6_text 62 = .ok (.aload_n 0, 1) := by decide +kernel
theorem dX6_text_63 : decode cX6_text 63 = .ok (.iconst 0, 1) := by decide +kernel
theorem dX6_text_64 : decode cX6_text 64 = .ok (.putfield 126, 3) := by decide +kernel
theorem dX6_text_67 : decode cX6_text 67 = .ok (.aload_n 0, 1) := by decide +kernel
theorem dX6_text_68 : decode cX6_text 68 = .ok (.aload_n 0, 1) := by decide +kernel
theorem dX6_text_69 : decode cX6_text 69 = .ok (.getfield 88, 3) := by decide +kernel
theorem dX6_text_72 : decode cX6_text 72 = .ok (.iconst 0, 1) := by decide +kernel
theorem dX6_text_73 : decode cX6_text 73 = .ok (.invokevirtual 240, 3) := by decide +kernel
theorem dX6_text_76 : decode cX6_text 76 = .ok (.istore_n 1, 1) := by decide +kernel
theorem dX6_text_77 : decode cX6_text 77 = .ok (.aload_n 0, 1) := by decide +kernel
theorem dX6_text_78 : decode cX6_text 78 = .ok (.getfield 161, 3) := by decide +kernel
theorem dX6_text_81 : decode cX6_text 81 = .ok (.ifCond .eq 11, 3) := by decide +kernel
theorem dX6_text_84 : decode cX6_text 84 = .ok (.bipush (-100), 2) := by decide +kernel
theorem dX6_text_86 : decode cX6_text 86 = .ok (.aload_n 0, 1) := by decide +kernel
theorem dX6_text_87 : decode cX6_text 87 = .ok (.getfield 165, 3) := by decide +kernel
theorem dX6_text_90 : decode cX6_text 90 = .ok (.isub, 1) := by decide +kernel
theorem dX6_text_91 : decode cX6_text 91 = .ok (.ireturn, 1) := by decide +kernel
theorem dX6_text_92 : decode cX6_text 92 = .ok (.aload_n 0, 1) := by decide +kernel
theorem dX6_text_93 : decode cX6_text 93 = .ok (.dup, 1) := by decide +kernel
theorem dX6_text_94 : decode cX6_text 94 = .ok (.getfield 88, 3) := by decide +kernel
theorem dX6_text_97 : decode cX6_text 97 = .ok (.iconst 1, 1) := by decide +kernel
theorem dX6_text_98 : decode cX6_text 98 = .ok (.iadd, 1) := by decide +kernel
theorem dX6_text_99 : decode cX6_text 99 = .ok (.putfield 88, 3) := by decide +kernel
theorem dX6_text_102 : decode cX6_text 102 = .ok (.aload_n 0, 1) := by decide +kernel
theorem dX6_text_103 : decode cX6_text 103 = .ok (.getfield 88, 3) := by decide +kernel
theorem dX6_text_106 : decode cX6_text 106 = .ok (.iconst 1, 1) := by decide +kernel
theorem dX6_text_107 : decode cX6_text 107 = .ok (.isub, 1) := by decide +kernel
theorem dX6_text_108 : decode cX6_text 108 = .ok (.ireturn, 1) := by decide +kernel
theorem dX6_force_0 : decode cX6_force 0 = .ok (.iload_n 1, 1) := by decide +kernel
theorem dX6_force_1 : decode cX6_force 1 = .ok (.i2l, 1) := by decide +kernel
theorem dX6_force_2 : decode cX6_force 2 = .ok (.lconst 0, 1) := by decide +kernel
theorem dX6_force_3 : decode cX6_force 3 = .ok (.aload_n 0, 1) := by decide +kernel
theorem dX6_force_4 : decode cX6_force 4 = .ok (.getfield 88, 3) := by decide +kernel
theorem dX6_force_7 : decode cX6_force 7 = .ok (.iconst 1, 1) := by decide +kernel
theorem dX6_force_8 : decode cX6_force 8 = .ok (.isub, 1) := by decide +kernel
theorem dX6_force_9 : decode cX6_force 9 = .ok (.i2l, 1) := by decide +kernel
theorem dX6_force_10 : decode cX6_force 10 = .ok (.invokestatic 94, 3) := by decide +kernel
theorem dX6_force_13 : decode cX6_force 13 = .ok (.ifCond .ne 6, 3) := by decide +kernel
theorem dX6_force_16 : decode cX6_force 16 = .ok (.bipush (-2), 2) := by decide +kernel
theorem dX6_force_18 : decode cX6_force 18 = .ok (.ireturn, 1) := by decide +kernel
theorem dX6_force_19 : decode cX6_force 19 = .ok (.aload_n 0, 1) := by decide +kernel
theorem dX6_force_20 : decode cX6_force 20 = .ok (.getfield 244, 3) := by decide +kernel
theorem dX6_force_23 : decode cX6_force 23 = .ok (.istore_n 2, 1) := by decide +kernel
theorem dX6_force_24 : decode cX6_force 24 = .ok (.aload_n 0, 1) := by decide +kernel
theorem dX6_force_25 : decode cX6_force 25 = .ok (.iload_n 1, 1) := by decide +kernel
theorem dX6_force_26 : decode cX6_force 26 = .ok (.putfield 244, 3) := by decide +kernel
theorem dX6_force_29 : decode cX6_force 29 = .ok (.iload_n 2, 1) := by decide +kernel
theorem dX6_force_30 : decode cX6_force 30 = .ok (.ireturn, 1) := by decide +kernel
theorem dX6_takesOf_0 : decode cX6_takesOf 0 = .ok (.aload_n 0, 1) := by decide +kernel
theorem dX6_takesOf_1 : decode cX6_takesOf 1 = .ok (.iload_n 1, 1) := by decide +kernel
theorem dX6_takesOf_2 : decode cX6_takesOf 2 = .ok (.putfield 185, 3) := by decide +kernel
theorem dX6_takesOf_5 : decode cX6_takesOf 5 = .ok (.aload_n 0, 1) := by decide +kernel
theorem dX6_takesOf_6 : decode cX6_takesOf 6 = .ok (.iconst 0, 1) := by decide +kernel
theorem dX6_takesOf_7 : decode cX6_takesOf 7 = .ok (.putfield 188, 3) := by decide +kernel
theorem dX6_takesOf_10 : decode cX6_takesOf 10 = .ok (.aload_n 0, 1) := by decide +kernel
theorem dX6_takesOf_11 : decode cX6_takesOf 11 = .ok (.iconst 0, 1) := by decide +kernel
theorem dX6_takesOf_12 : decode cX6_takesOf 12 = .ok (.putfield 191, 3) := by decide +kernel
theorem dX6_takesOf_15 : decode cX6_takesOf 15 = .ok (.aload_n 0, 1) := by decide +kernel
theorem dX6_takesOf_16 : decode cX6_takesOf 16 = .ok (.iconst 0, 1) := by decide +kernel
theorem dX6_takesOf_17 : decode cX6_takesOf 17 = .ok (.putfield 194, 3) := by decide +kernel
theorem dX6_takesOf_20 : decode cX6_takesOf 20 = .ok (.aload_n 0, 1) := by decide +kernel
theorem dX6_takesOf_21 : decode cX6_takesOf 21 = .ok (.iconst 0, 1) := by decide +kernel
theorem dX6_takesOf_22 : decode cX6_takesOf 22 = .ok (.putfield 197, 3) := by decide +kernel
theorem dX6_takesOf_25 : decode cX6_takesOf 25 = .ok (.aload_n 0, 1) := by decide +kernel
theorem dX6_takesOf_26 : decode cX6_takesOf 26 = .ok (.iconst 0, 1) := by decide +kernel
theorem dX6_takesOf_27 : decode cX6_takesOf 27 = .ok (.putfield 200, 3) := by decide +kernel
theorem dX6_takesOf_30 : decode cX6_takesOf 30 = .ok (.aload_n 0, 1) := by decide +kernel
theorem dX6_takesOf_31 : decode cX6_takesOf 31 = .ok (.aload_n 0, 1) := by decide +kernel
theorem dX6_takesOf_32 : decode cX6_takesOf 32 = .ok (.getfield 244, 3) := by decide +kernel
theorem dX6_takesOf_35 : decode cX6_takesOf 35 = .ok (.iconst 0, 1) := by decide +kernel
theorem dX6_takesOf_36 : decode cX6_takesOf 36 = .ok (.invokevirtual 240, 3) := by decide +kernel
theorem dX6_takesOf_39 : decode cX6_takesOf 39 = .ok (.iconst 1, 1) := by decide +kernel
theorem dX6_takesOf_40 : decode cX6_takesOf 40 = .ok (.bipush 20, 2) := by decide +kernel
theorem dX6_takesOf_42 : decode cX6_takesOf 42 = .ok (.invokestatic 247, 3) := by decide +kernel
theorem dX6_takesOf_45 : decode cX6_takesOf 45 = .ok (.ireturn, 1) := by decide +kernel
theorem dX6_hungersOf_0 : decode cX6_hungersOf 0 = .ok (.aload_n 0, 1) := by decide +kernel
theorem dX6_hungersOf_1 : decode cX6_hungersOf 1 = .ok (.iconst 0, 1) := by decide +kernel
theorem dX6_hungersOf_2 : decode cX6_hungersOf 2 = .ok (.putfield 185, 3) := by decide +kernel
theorem dX6_hungersOf_5 : decode cX6_hungersOf 5 = .ok (.aload_n 0, 1) := by decide +kernel
theorem dX6_hungersOf_6 : decode cX6_hungersOf 6 = .ok (.iload_n 2, 1) := by decide +kernel
theorem dX6_hungersOf_7 : decode cX6_hungersOf 7 = .ok (.putfield 188, 3) := by decide +kernel
theorem dX6_hungersOf_10 : decode cX6_hungersOf 10 = .ok (.aload_n 0, 1) := by decide +kernel
theorem dX6_hungersOf_11 : decode cX6_hungersOf 11 = .ok (.iload_n 3, 1) := by decide +kernel
theorem dX6_hungersOf_12 : decode cX6_hungersOf 12 = .ok (.putfield 191, 3) := by decide +kernel
theorem dX6_hungersOf_15 : decode cX6_hungersOf 15 = .ok (.aload_n 0, 1) := by decide +kernel
theorem dX6_hungersOf_16 : decode cX6_hungersOf 16 = .ok (.aload_n 0, 1) := by decide +kernel
theorem dX6_hungersOf_17 : decode cX6_hungersOf 17 = .ok (.getfield 35, 3) := by decide +kernel
theorem dX6_hungersOf_20 : decode cX6_hungersOf 20 = .ok (.iload_n 1, 1) := by decide +kernel
theorem dX6_hungersOf_21 : decode cX6_hungersOf 21 = .ok (.iaload, 1) := by decide +kernel
theorem dX6_hungersOf_22 : decode cX6_hungersOf 22 = .ok (.putfield 194, 3) := by decide +kernel
theorem dX6_hungersOf_25 : decode cX6_hungersOf 25 = .ok (.aload_n 0, 1) := by decide +kernel
theorem dX6_hungersOf_26 : decode cX6_hungersOf 26 = .ok (.iload_n 1, 1) := by decide +kernel
theorem dX6_hungersOf_27 : decode cX6_hungersOf 27 = .ok (.putfield 197, 3) := by decide +kernel
theorem dX6_hungersOf_30 : decode cX6_hungersOf 30 = .ok (.aload_n 0, 1) := by decide +kernel
theorem dX6_hungersOf_31 : decode cX6_hungersOf 31 = .ok (.iconst 0, 1) := by decide +kernel
theorem dX6_hungersOf_32 : decode cX6_hungersOf 32 = .ok (.putfield 200, 3) := by decide +kernel
theorem dX6_hungersOf_35 : decode cX6_hungersOf 35 = .ok (.aload_n 0, 1) := by decide +kernel
theorem dX6_hungersOf_36 : decode cX6_hungersOf 36 = .ok (.aload_n 0, 1) := by decide +kernel
theorem dX6_hungersOf_37 : decode cX6_hungersOf 37 = .ok (.getfield 244, 3) := by decide +kernel
theorem dX6_hungersOf_40 : decode cX6_hungersOf 40 = .ok (.iconst 1, 1) := by decide +kernel
theorem dX6_hungersOf_41 : decode cX6_hungersOf 41 = .ok (.invokevirtual 240, 3) := by decide +kernel
theorem dX6_hungersOf_44 : decode cX6_hungersOf 44 = .ok (.iconst 0, 1) := by decide +kernel
theorem dX6_hungersOf_45 : decode cX6_hungersOf 45 = .ok (.bipush 99, 2) := by decide +kernel
theorem dX6_hungersOf_47 : decode cX6_hungersOf 47 = .ok (.invokestatic 247, 3) := by decide +kernel
theorem dX6_hungersOf_50 : decode cX6_hungersOf 50 = .ok (.istore 5, 2) := by decide +kernel
theorem dX6_hungersOf_52 : decode cX6_hungersOf 52 = .ok (.aload_n 0, 1) := by decide +kernel
theorem dX6_hungersOf_53 : decode cX6_hungersOf 53 = .ok (.getfield 29, 3) := by decide +kernel
theorem dX6_hungersOf_56 : decode cX6_hungersOf 56 = .ok (.iload_n 1, 1) := by decide +kernel
theorem dX6_hungersOf_57 : decode cX6_hungersOf 57 = .ok (.iaload, 1) := by decide +kernel
theorem dX6_hungersOf_58 : decode cX6_hungersOf 58 = .ok (.istore 6, 2) := by decide +kernel
theorem dX6_hungersOf_60 : decode cX6_hungersOf 60 = .ok (.iload 6, 2) := by decide +kernel
theorem dX6_hungersOf_62 : decode cX6_hungersOf 62 = .ok (.iconst 1, 1) := by decide +kernel
theorem dX6_hungersOf_63 : decode cX6_hungersOf 63 = .ok (.if_icmp .eq 9, 3) := by decide +kernel
theorem dX6_hungersOf_66 : decode cX6_hungersOf 66 = .ok (.iload 6, 2) := by decide +kernel
theorem dX6_hungersOf_68 : decode cX6_hungersOf 68 = .ok (.iconst 3, 1) := by decide +kernel
theorem dX6_hungersOf_69 : decode cX6_hungersOf 69 = .ok (.if_icmp .ne 34, 3) := by decide +kernel
theorem dX6_hungersOf_72 : decode cX6_hungersOf 72 = .ok (.iload 5, 2) := by decide +kernel
theorem dX6_hungersOf_74 : decode cX6_hungersOf 74 = .ok (.aload_n 0, 1) := by decide +kernel
theorem dX6_hungersOf_75 : decode cX6_hungersOf 75 = .ok (.getfield 32, 3) := by decide +kernel
theorem dX6_hungersOf_78 : decode cX6_hungersOf 78 = .ok (.iload_n 1, 1) := by decide +kernel
theorem dX6_hungersOf_79 : decode cX6_hungersOf 79 = .ok (.iaload, 1) := by decide +kernel
theorem dX6_hungersOf_80 : decode cX6_hungersOf 80 = .ok (.iadd, 1) := by decide +kernel
theorem dX6_hungersOf_81 : decode cX6_hungersOf 81 = .ok (.istore 7, 2) := by decide +kernel
theorem dX6_hungersOf_83 : decode cX6_hungersOf 83 = .ok (.iload 6, 2) := by decide +kernel
theorem dX6_hungersOf_85 : decode cX6_hungersOf 85 = .ok (.iconst 3, 1) := by decide +kernel
theorem dX6_hungersOf_86 : decode cX6_hungersOf 86 = .ok (.if_icmp .ne 14, 3) := by decide +kernel
theorem dX6_hungersOf_89 : decode cX6_hungersOf 89 = .ok (.iload_n 3, 1) := by decide +kernel
theorem dX6_hungersOf_90 : decode cX6_hungersOf 90 = .ok (.ifCond .ne 10, 3) := by decide +kernel
theorem dX6_hungersOf_93 : decode cX6_hungersOf 93 = .ok (.iconst 2, 1) := by decide +kernel
theorem dX6_hungersOf_94 : decode cX6_hungersOf 94 = .ok (.iload 7, 2) := by decide +kernel
theorem dX6_hungersOf_96 : decode cX6_hungersOf 96 = .ok (.imul, 1) := by decide +kernel
theorem dX6_hungersOf_97 : decode cX6_hungersOf 97 = .ok (.goto 5, 3) := by decide +kernel
theorem dX6_hungersOf_100 : decode cX6_hungersOf 100 = .ok (.iload 7, 2) := by decide +kernel
theorem dX6_hungersOf_102 : decode cX6_hungersOf 102 = .ok (.ireturn, 1) := by decide +kernel
theorem dX6_hungersOf_103 : decode cX6_hungersOf 103 = .ok (.iload 6, 2) := by decide +kernel
theorem dX6_hungersOf_105 : decode cX6_hungersOf 105 = .ok (.iconst 2, 1) := by decide +kernel
theorem dX6_hungersOf_106 : decode cX6_hungersOf 106 = .ok (.if_icmp .eq 9, 3) := by decide +kernel
theorem dX6_hungersOf_109 : decode cX6_hungersOf 109 = .ok (.iload 6, 2) := by decide +kernel
theorem dX6_hungersOf_111 : decode cX6_hungersOf 111 = .ok (.iconst 4, 1) := by decide +kernel
theorem dX6_hungersOf_112 : decode cX6_hungersOf 112 = .ok (.if_icmp .ne 33, 3) := by decide +kernel
theorem dX6_hungersOf_115 : decode cX6_hungersOf 115 = .ok (.iload_n 3, 1) := by decide +kernel
theorem dX6_hungersOf_116 : decode cX6_hungersOf 116 = .ok (.iload 4, 2) := by decide +kernel
theorem dX6_hungersOf_118 : decode cX6_hungersOf 118 = .ok (.if_icmp .le 7, 3) := by decide +kernel
theorem dX6_hungersOf_121 : decode cX6_hungersOf 121 = .ok (.iconst 0, 1) := by decide +kernel
theorem dX6_hungersOf_122 : decode cX6_hungersOf 122 = .ok (.goto 5, 3) := by decide +kernel
theorem dX6_hungersOf_125 : decode cX6_hungersOf 125 = .ok (.iload 5, 2) := by decide +kernel
theorem dX6_hungersOf_127 : decode cX6_hungersOf 127 = .ok (.istore 7, 2) := by decide +kernel
theorem dX6_hungersOf_129 : decode cX6_hungersOf 129 = .ok (.iload 6, 2) := by decide +kernel
theorem dX6_hungersOf_131 : decode cX6_hungersOf 131 = .ok (.iconst 4, 1) := by decide +kernel
theorem dX6_hungersOf_132 : decode cX6_hungersOf 132 = .ok (.if_icmp .ne 10, 3) := by decide +kernel
theorem dX6_hungersOf_135 : decode cX6_hungersOf 135 = .ok (.iload 7, 2) := by decide +kernel
theorem dX6_hungersOf_137 : decode cX6_hungersOf 137 = .ok (.iconst 2, 1) := by decide +kernel
theorem dX6_hungersOf_138 : decode cX6_hungersOf 138 = .ok (.idiv, 1) := by decide +kernel
theorem dX6_hungersOf_139 : decode cX6_hungersOf 139 = .ok (.goto 5, 3) := by decide +kernel
theorem dX6_hungersOf_142 : decode cX6_hungersOf 142 = .ok (.iload 7, 2) := by decide +kernel
theorem dX6_hungersOf_144 : decode cX6_hungersOf 144 = .ok (.ireturn, 1) := by decide +kernel
theorem dX6_hungersOf_145 : decode cX6_hungersOf 145 = .ok (.iload 6, 2) := by decide +kernel
theorem dX6_hungersOf_147 : decode cX6_hungersOf 147 = .ok (.iconst 5, 1) := by decide +kernel
theorem dX6_hungersOf_148 : decode cX6_hungersOf 148 = .ok (.if_icmp .ne 13, 3) := by decide +kernel
theorem dX6_hungersOf_151 : decode cX6_hungersOf 151 = .ok (.iload 5, 2) := by decide +kernel
theorem dX6_hungersOf_153 : decode cX6_hungersOf 153 = .ok (.iconst 5, 1) := by decide +kernel
theorem dX6_hungersOf_154 : decode cX6_hungersOf 154 = .ok (.if_icmp .le 7, 3) := by decide +kernel
theorem dX6_hungersOf_157 : decode cX6_hungersOf 157 = .ok (.iconst 5, 1) := by decide +kernel
theorem dX6_hungersOf_158 : decode cX6_hungersOf 158 = .ok (.goto 5, 3) := by decide +kernel
theorem dX6_hungersOf_161 : decode cX6_hungersOf 161 = .ok (.iload 5, 2) := by decide +kernel
theorem dX6_hungersOf_163 : decode cX6_hungersOf 163 = .ok (.ireturn, 1) := by decide +kernel
theorem dX6_worthOf_0 : decode cX6_worthOf 0 = .ok (.aload_n 0, 1) := by decide +kernel
theorem dX6_worthOf_1 : decode cX6_worthOf 1 = .ok (.iload_n 1, 1) := by decide +kernel
theorem dX6_worthOf_2 : decode cX6_worthOf 2 = .ok (.putfield 185, 3) := by decide +kernel
theorem dX6_worthOf_5 : decode cX6_worthOf 5 = .ok (.aload_n 0, 1) := by decide +kernel
theorem dX6_worthOf_6 : decode cX6_worthOf 6 = .ok (.iload_n 3, 1) := by decide +kernel
theorem dX6_worthOf_7 : decode cX6_worthOf 7 = .ok (.putfield 188, 3) := by decide +kernel
theorem dX6_worthOf_10 : decode cX6_worthOf 10 = .ok (.aload_n 0, 1) := by decide +kernel
theorem dX6_worthOf_11 : decode cX6_worthOf 11 = .ok (.iload 4, 2) := by decide +kernel
theorem dX6_worthOf_13 : decode cX6_worthOf 13 = .ok (.putfield 191, 3) := by decide +kernel
theorem dX6_worthOf_16 : decode cX6_worthOf 16 = .ok (.aload_n 0, 1) := by decide +kernel
theorem dX6_worthOf_17 : decode cX6_worthOf 17 = .ok (.aload_n 0, 1) := by decide +kernel
theorem dX6_worthOf_18 : decode cX6_worthOf 18 = .ok (.getfield 35, 3) := by decide +kernel
theorem dX6_worthOf_21 : decode cX6_worthOf 21 = .ok (.iload_n 2, 1) := by decide +kernel
theorem dX6_worthOf_22 : decode cX6_worthOf 22 = .ok (.iaload, 1) := by decide +kernel
theorem dX6_worthOf_23 : decode cX6_worthOf 23 = .ok (.putfield 194, 3) := by decide +kernel
theorem dX6_worthOf_26 : decode cX6_worthOf 26 = .ok (.aload_n 0, 1) := by decide +kernel
theorem dX6_worthOf_27 : decode cX6_worthOf 27 = .ok (.iload_n 2, 1) := by decide +kernel
theorem dX6_worthOf_28 : decode cX6_worthOf 28 = .ok (.putfield 197, 3) := by decide +kernel
theorem dX6_worthOf_31 : decode cX6_worthOf 31 = .ok (.aload_n 0, 1) := by decide +kernel
theorem dX6_worthOf_32 : decode cX6_worthOf 32 = .ok (.iload 5, 2) := by decide +kernel
theorem dX6_worthOf_34 : decode cX6_worthOf 34 = .ok (.putfield 200, 3) := by decide +kernel
theorem dX6_worthOf_37 : decode cX6_worthOf 37 = .ok (.aload_n 0, 1) := by decide +kernel
theorem dX6_worthOf_38 : decode cX6_worthOf 38 = .ok (.aload_n 0, 1) := by decide +kernel
theorem dX6_worthOf_39 : decode cX6_worthOf 39 = .ok (.getfield 244, 3) := by decide +kernel
theorem dX6_worthOf_42 : decode cX6_worthOf 42 = .ok (.iconst 2, 1) := by decide +kernel
theorem dX6_worthOf_43 : decode cX6_worthOf 43 = .ok (.invokevirtual 240, 3) := by decide +kernel
theorem dX6_worthOf_46 : decode cX6_worthOf 46 = .ok (.iconst 0, 1) := by decide +kernel
theorem dX6_worthOf_47 : decode cX6_worthOf 47 = .ok (.bipush 99, 2) := by decide +kernel
theorem dX6_worthOf_49 : decode cX6_worthOf 49 = .ok (.invokestatic 247, 3) := by decide +kernel
theorem dX6_worthOf_52 : decode cX6_worthOf 52 = .ok (.ireturn, 1) := by decide +kernel
theorem dX6_readyOf_0 : decode cX6_readyOf 0 = .ok (.iconst 0, 1) := by decide +kernel
theorem dX6_readyOf_1 : decode cX6_readyOf 1 = .ok (.istore_n 2, 1) := by decide +kernel
theorem dX6_readyOf_2 : decode cX6_readyOf 2 = .ok (.aload_n 0, 1) := by decide +kernel
theorem dX6_readyOf_3 : decode cX6_readyOf 3 = .ok (.getfield 26, 3) := by decide +kernel
theorem dX6_readyOf_6 : decode cX6_readyOf 6 = .ok (.iconst 2, 1) := by decide +kernel
theorem dX6_readyOf_7 : decode cX6_readyOf 7 = .ok (.if_icmp .ne 9, 3) := by decide +kernel
theorem dX6_readyOf_10 : decode cX6_readyOf 10 = .ok (.iload_n 1, 1) := by decide +kernel
theorem dX6_readyOf_11 : decode cX6_readyOf 11 = .ok (.iconst 2, 1) := by decide +kernel
theorem dX6_readyOf_12 : decode cX6_readyOf 12 = .ok (.irem, 1) := by decide +kernel
theorem dX6_readyOf_13 : decode cX6_readyOf 13 = .ok (.goto 4, 3) := by decide +kernel
theorem dX6_readyOf_16 : decode cX6_readyOf 16 = .ok (.iconst 0, 1) := by decide +kernel
theorem dX6_readyOf_17 : decode cX6_readyOf 17 = .ok (.istore_n 3, 1) := by decide +kernel
theorem dX6_readyOf_18 : decode cX6_readyOf 18 = .ok (.iload_n 3, 1) := by decide +kernel
theorem dX6_readyOf_19 : decode cX6_readyOf 19 = .ok (.iload_n 1, 1) := by decide +kernel
theorem dX6_readyOf_20 : decode cX6_readyOf 20 = .ok (.if_icmp .gt 21, 3) := by decide +kernel
theorem dX6_readyOf_23 : decode cX6_readyOf 23 = .ok (.iload_n 2, 1) := by decide +kernel
theorem dX6_readyOf_24 : decode cX6_readyOf 24 = .ok (.aload_n 0, 1) := by decide +kernel
theorem dX6_readyOf_25 : decode cX6_readyOf 25 = .ok (.iload_n 3, 1) := by decide +kernel
theorem dX6_readyOf_26 : decode cX6_readyOf 26 = .ok (.invokevirtual 251, 3) := by decide +kernel
theorem dX6_readyOf_29 : decode cX6_readyOf 29 = .ok (.iadd, 1) := by decide +kernel
theorem dX6_readyOf_30 : decode cX6_readyOf 30 = .ok (.istore_n 2, 1) := by decide +kernel
theorem dX6_readyOf_31 : decode cX6_readyOf 31 = .ok (.iload_n 3, 1) := by decide +kernel
theorem dX6_readyOf_32 : decode cX6_readyOf 32 = .ok (.aload_n 0, 1) := by decide +kernel
theorem dX6_readyOf_33 : decode cX6_readyOf 33 = .ok (.getfield 26, 3) := by decide +kernel
theorem dX6_readyOf_36 : decode cX6_readyOf 36 = .ok (.iadd, 1) := by decide +kernel
theorem dX6_readyOf_37 : decode cX6_readyOf 37 = .ok (.istore_n 3, 1) := by decide +kernel
theorem dX6_readyOf_38 : decode cX6_readyOf 38 = .ok (.goto (-20), 3) := by decide +kernel
theorem dX6_readyOf_41 : decode cX6_readyOf 41 = .ok (.iload_n 2, 1) := by decide +kernel
theorem dX6_readyOf_42 : decode cX6_readyOf 42 = .ok (.ireturn, 1) := by decide +kernel
theorem dX6_ready_0 : decode cX6_ready 0 = .ok (.aload_n 0, 1) := by decide +kernel
theorem dX6_ready_1 : decode cX6_ready 1 = .ok (.iload_n 1, 1) := by decide +kernel
theorem dX6_ready_2 : decode cX6_ready 2 = .ok (.invokevirtual 254, 3) := by decide +kernel
theorem dX6_ready_5 : decode cX6_ready 5 = .ok (.ifCond .eq 11, 3) := by decide +kernel
theorem dX6_ready_8 : decode cX6_ready 8 = .ok (.aload_n 0, 1) := by decide +kernel
theorem dX6_ready_9 : decode cX6_ready 9 = .ok (.iload_n 1, 1) := by decide +kernel
theorem dX6_ready_10 : decode cX6_ready 10 = .ok (.invokevirtual 257, 3) := by decide +kernel
theorem dX6_ready_13 : decode cX6_ready 13 = .ok (.goto 5, 3) := by decide +kernel
theorem dX6_ready_16 : decode cX6_ready 16 = .ok (.bipush (-2), 2) := by decide +kernel
theorem dX6_ready_18 : decode cX6_ready 18 = .ok (.ireturn, 1) := by decide +kernel
theorem dX6_leastHad_0 : decode cX6_leastHad 0 = .ok (.iconst (-1), 1) := by decide +kernel
theorem dX6_leastHad_1 : decode cX6_leastHad 1 = .ok (.istore_n 1, 1) := by decide +kernel
theorem dX6_leastHad_2 : decode cX6_leastHad 2 = .ok (.iconst 0, 1) := by decide +kernel
theorem dX6_leastHad_3 : decode cX6_leastHad 3 = .ok (.istore_n 2, 1) := by decide +kernel
theorem dX6_leastHad_4 : decode cX6_leastHad 4 = .ok (.iload_n 2, 1) := by decide +kernel
theorem dX6_leastHad_5 : decode cX6_leastHad 5 = .ok (.aload_n 0, 1) := by decide +kernel
theorem dX6_leastHad_6 : decode cX6_leastHad 6 = .ok (.getfield 91, 3) := by decide +kernel
theorem dX6_leastHad_9 : decode cX6_leastHad 9 = .ok (.if_icmp .ge 43, 3) := by decide +kernel
theorem dX6_leastHad_12 : decode cX6_leastHad 12 = .ok (.iload_n 2, 1) := by decide +kernel
theorem dX6_leastHad_13 : decode cX6_leastHad 13 = .ok (.aload_n 0, 1) := by decide +kernel
theorem dX6_leastHad_14 : decode cX6_leastHad 14 = .ok (.getfield 41, 3) := by decide +kernel
theorem dX6_leastHad_17 : decode cX6_leastHad 17 = .ok (.if_icmp .eq 27, 3) := by decide +kernel
theorem dX6_leastHad_20 : decode cX6_leastHad 20 = .ok (.iload_n 1, 1) := by decide +kernel
theorem dX6_leastHad_21 : decode cX6_leastHad 21 = .ok (.iconst (-1), 1) := by decide +kernel
theorem dX6_leastHad_22 : decode cX6_leastHad 22 = .ok (.if_icmp .eq 13, 3) := by decide +kernel
theorem dX6_leastHad_25 : decode cX6_leastHad 25 = .ok (.aload_n 0, 1) := by decide +kernel
theorem dX6_leastHad_26 : decode cX6_leastHad 26 = .ok (.getfield 44, 3) := by decide +kernel
theorem dX6_leastHad_29 : decode cX6_leastHad 29 = .ok (.iload_n 2, 1) := by decide +kernel
theorem dX6_leastHad_30 : decode cX6_leastHad 30 = .ok (.iaload, 1) := by decide +kernel
theorem dX6_leastHad_31 : decode cX6_leastHad 31 = .ok (.iload_n 1, 1) := by decide +kernel
theorem dX6_leastHad_32 : decode cX6_leastHad 32 = .ok (.if_icmp .ge 12, 3) := by decide +kernel
theorem dX6_leastHad_35 : decode cX6_leastHad 35 = .ok (.aload_n 0, 1) := by decide +kernel
theorem dX6_leastHad_36 : decode cX6_leastHad 36 = .ok (.getfield 44, 3) := by decide +kernel
theorem dX6_leastHad_39 : decode cX6_leastHad 39 = .ok (.iload_n 2, 1) := by decide +kernel
theorem dX6_leastHad_40 : decode cX6_leastHad 40 = .ok (.iaload, 1) := by decide +kernel
theorem dX6_leastHad_41 : decode cX6_leastHad 41 = .ok (.goto 4, 3) := by decide +kernel
theorem dX6_leastHad_44 : decode cX6_leastHad 44 = .ok (.iload_n 1, 1) := by decide +kernel
theorem dX6_leastHad_45 : decode cX6_leastHad 45 = .ok (.istore_n 1, 1) := by decide +kernel
theorem dX6_leastHad_46 : decode cX6_leastHad 46 = .ok (.iinc 2 1, 3) := by decide +kernel
theorem dX6_leastHad_49 : decode cX6_leastHad 49 = .ok (.goto (-45), 3) := by decide +kernel
theorem dX6_leastHad_52 : decode cX6_leastHad 52 = .ok (.iload_n 1, 1) := by decide +kernel
theorem dX6_leastHad_53 : decode cX6_leastHad 53 = .ok (.ireturn, 1) := by decide +kernel
theorem dX6_mostHad_0 : decode cX6_mostHad 0 = .ok (.iconst 0, 1) := by decide +kernel
theorem dX6_mostHad_1 : decode cX6_mostHad 1 = .ok (.istore_n 1, 1) := by decide +kernel
theorem dX6_mostHad_2 : decode cX6_mostHad 2 = .ok (.iconst 0, 1) := by decide +kernel
theorem dX6_mostHad_3 : decode cX6_mostHad 3 = .ok (.istore_n 2, 1) := by decide +kernel
theorem dX6_mostHad_4 : decode cX6_mostHad 4 = .ok (.iload_n 2, 1) := by decide +kernel
theorem dX6_mostHad_5 : decode cX6_mostHad 5 = .ok (.aload_n 0, 1) := by decide +kernel
theorem dX6_mostHad_6 : decode cX6_mostHad 6 = .ok (.getfield 91, 3) := by decide +kernel
theorem dX6_mostHad_9 : decode cX6_mostHad 9 = .ok (.if_icmp .ge 38, 3) := by decide +kernel
theorem dX6_mostHad_12 : decode cX6_mostHad 12 = .ok (.iload_n 2, 1) := by decide +kernel
theorem dX6_mostHad_13 : decode cX6_mostHad 13 = .ok (.aload_n 0, 1) := by decide +kernel
theorem dX6_mostHad_14 : decode cX6_mostHad 14 = .ok (.getfield 41, 3) := by decide +kernel
theorem dX6_mostHad_17 : decode cX6_mostHad 17 = .ok (.if_icmp .eq 22, 3) := by decide +kernel
theorem dX6_mostHad_20 : decode cX6_mostHad 20 = .ok (.aload_n 0, 1) := by decide +kernel
theorem dX6_mostHad_21 : decode cX6_mostHad 21 = .ok (.getfield 44, 3) := by decide +kernel
theorem dX6_mostHad_24 : decode cX6_mostHad 24 = .ok (.iload_n 2, 1) := by decide +kernel
theorem dX6_mostHad_25 : decode cX6_mostHad 25 = .ok (.iaload, 1) := by decide +kernel
theorem dX6_mostHad_26 : decode cX6_mostHad 26 = .ok (.iload_n 1, 1) := by decide +kernel
theorem dX6_mostHad_27 : decode cX6_mostHad 27 = .ok (.if_icmp .le 12, 3) := by decide +kernel
theorem dX6_mostHad_30 : decode cX6_mostHad 30 = .ok (.aload_n 0, 1) := by decide +kernel
theorem dX6_mostHad_31 : decode cX6_mostHad 31 = .ok (.getfield 44, 3) := by decide +kernel
theorem dX6_mostHad_34 : decode cX6_mostHad 34 = .ok (.iload_n 2, 1) := by decide +kernel
theorem dX6_mostHad_35 : decode cX6_mostHad 35 = .ok (.iaload, 1) := by decide +kernel
theorem dX6_mostHad_36 : decode cX6_mostHad 36 = .ok (.goto 4, 3) := by decide +kernel
theorem dX6_mostHad_39 : decode cX6_mostHad 39 = .ok (.iload_n 1, 1) := by decide +kernel
theorem dX6_mostHad_40 : decode cX6_mostHad 40 = .ok (.istore_n 1, 1) := by decide +kernel
theorem dX6_mostHad_41 : decode cX6_mostHad 41 = .ok (.iinc 2 1, 3) := by decide +kernel
theorem dX6_mostHad_44 : decode cX6_mostHad 44 = .ok (.goto (-40), 3) := by decide +kernel
theorem dX6_mostHad_47 : decode cX6_mostHad 47 = .ok (.iload_n 1, 1) := by decide +kernel
theorem dX6_mostHad_48 : decode cX6_mostHad 48 = .ok (.ireturn, 1) := by decide +kernel
theorem dX6_hungriest_0 : decode cX6_hungriest 0 = .ok (.aload_n 0, 1) := by decide +kernel
theorem dX6_hungriest_1 : decode cX6_hungriest 1 = .ok (.invokevirtual 260, 3) := by decide +kernel
theorem dX6_hungriest_4 : decode cX6_hungriest 4 = .ok (.istore_n 2, 1) := by decide +kernel
theorem dX6_hungriest_5 : decode cX6_hungriest 5 = .ok (.iconst (-1), 1) := by decide +kernel
theorem dX6_hungriest_6 : decode cX6_hungriest 6 = .ok (.istore_n 3, 1) := by decide +kernel
theorem dX6_hungriest_7 : decode cX6_hungriest 7 = .ok (.iconst 0, 1) := by decide +kernel
theorem dX6_hungriest_8 : decode cX6_hungriest 8 = .ok (.istore 4, 2) := by decide +kernel
theorem dX6_hungriest_10 : decode cX6_hungriest 10 = .ok (.iconst 0, 1) := by decide +kernel
theorem dX6_hungriest_11 : decode cX6_hungriest 11 = .ok (.istore 5, 2) := by decide +kernel
theorem dX6_hungriest_13 : decode cX6_hungriest 13 = .ok (.iload 5, 2) := by decide +kernel
theorem dX6_hungriest_15 : decode cX6_hungriest 15 = .ok (.aload_n 0, 1) := by decide +kernel
theorem dX6_hungriest_16 : decode cX6_hungriest 16 = .ok (.getfield 91, 3) := by decide +kernel
theorem dX6_hungriest_19 : decode cX6_hungriest 19 = .ok (.if_icmp .ge 71, 3) := by decide +kernel
theorem dX6_hungriest_22 : decode cX6_hungriest 22 = .ok (.iload 5, 2) := by decide +kernel
theorem dX6_hungriest_24 : decode cX6_hungriest 24 = .ok (.aload_n 0, 1) := by decide +kernel
theorem dX6_hungriest_25 : decode cX6_hungriest 25 = .ok (.getfield 41, 3) := by decide +kernel
theorem dX6_hungriest_28 : decode cX6_hungriest 28 = .ok (.if_icmp .eq 56, 3) := by decide +kernel
theorem dX6_hungriest_31 : decode cX6_hungriest 31 = .ok (.aload_n 0, 1) := by decide +kernel
theorem dX6_hungriest_32 : decode cX6_hungriest 32 = .ok (.getfield 44, 3) := by decide +kernel
theorem dX6_hungriest_35 : decode cX6_hungriest 35 = .ok (.iload 5, 2) := by decide +kernel
theorem dX6_hungriest_37 : decode cX6_hungriest 37 = .ok (.iaload, 1) := by decide +kernel
theorem dX6_hungriest_38 : decode cX6_hungriest 38 = .ok (.aload_n 0, 1) := by decide +kernel
theorem dX6_hungriest_39 : decode cX6_hungriest 39 = .ok (.getfield 35, 3) := by decide +kernel
theorem dX6_hungriest_42 : decode cX6_hungriest 42 = .ok (.iload 5, 2) := by decide +kernel
theorem dX6_hungriest_44 : decode cX6_hungriest 44 = .ok (.iaload, 1) := by decide +kernel
theorem dX6_hungriest_45 : decode cX6_hungriest 45 = .ok (.if_icmp .ge 39, 3) := by decide +kernel
theorem dX6_hungriest_48 : decode cX6_hungriest 48 = .ok (.aload_n 0, 1) := by decide +kernel
theorem dX6_hungriest_49 : decode cX6_hungriest 49 = .ok (.iload 5, 2) := by decide +kernel
theorem dX6_hungriest_51 : decode cX6_hungriest 51 = .ok (.iload_n 1, 1) := by decide +kernel
theorem dX6_hungriest_52 : decode cX6_hungriest 52 = .ok (.aload_n 0, 1) := by decide +kernel
theorem dX6_hungriest_53 : decode cX6_hungriest 53 = .ok (.getfield 44, 3) := by decide +kernel
theorem dX6_hungriest_56 : decode cX6_hungriest 56 = .ok (.iload 5, 2) := by decide +kernel
theorem dX6_hungriest_58 : decode cX6_hungriest 58 = .ok (.iaload, 1) := by decide +kernel
theorem dX6_hungriest_59 : decode cX6_hungriest 59 = .ok (.iload_n 2, 1) := by decide +kernel
theorem dX6_hungriest_60 : decode cX6_hungriest 60 = .ok (.invokevirtual 116, 3) := by decide +kernel
theorem dX6_hungriest_63 : decode cX6_hungriest 63 = .ok (.istore 6, 2) := by decide +kernel
theorem dX6_hungriest_65 : decode cX6_hungriest 65 = .ok (.iload_n 3, 1) := by decide +kernel
theorem dX6_hungriest_66 : decode cX6_hungriest 66 = .ok (.iconst (-1), 1) := by decide +kernel
theorem dX6_hungriest_67 : decode cX6_hungriest 67 = .ok (.if_icmp .eq 10, 3) := by decide +kernel
theorem dX6_hungriest_70 : decode cX6_hungriest 70 = .ok (.iload 6, 2) := by decide +kernel
theorem dX6_hungriest_72 : decode cX6_hungriest 72 = .ok (.iload 4, 2) := by decide +kernel
theorem dX6_hungriest_74 : decode cX6_hungriest 74 = .ok (.if_icmp .le 10, 3) := by decide +kernel
theorem dX6_hungriest_77 : decode cX6_hungriest 77 = .ok (.iload 5, 2) := by decide +kernel
theorem dX6_hungriest_79 : decode cX6_hungriest 79 = .ok (.istore_n 3, 1) := by decide +kernel
theorem dX6_hungriest_80 : decode cX6_hungriest 80 = .ok (.iload 6, 2) := by decide +kernel
theorem dX6_hungriest_82 : decode cX6_hungriest 82 = .ok (.istore 4, 2) := by decide +kernel
theorem dX6_hungriest_84 : decode cX6_hungriest 84 = .ok (.iinc 5 1, 3) := by decide +kernel
theorem dX6_hungriest_87 : decode cX6_hungriest 87 = .ok (.goto (-74), 3) := by decide +kernel
theorem dX6_hungriest_90 : decode cX6_hungriest 90 = .ok (.iload_n 3, 1) := by decide +kernel
theorem dX6_hungriest_91 : decode cX6_hungriest 91 = .ok (.ireturn, 1) := by decide +kernel
theorem dX6_whoHas_0 : decode cX6_whoHas 0 = .ok (.iconst 0, 1) := by decide +kernel
theorem dX6_whoHas_1 : decode cX6_whoHas 1 = .ok (.istore_n 1, 1) := by decide +kernel
theorem dX6_whoHas_2 : decode cX6_whoHas 2 = .ok (.iload_n 1, 1) := by decide +kernel
theorem dX6_whoHas_3 : decode cX6_whoHas 3 = .ok (.aload_n 0, 1) := by decide +kernel
theorem dX6_whoHas_4 : decode cX6_whoHas 4 = .ok (.getfield 91, 3) := by decide +kernel
theorem dX6_whoHas_7 : decode cX6_whoHas 7 = .ok (.if_icmp .ge 32, 3) := by decide +kernel
theorem dX6_whoHas_10 : decode cX6_whoHas 10 = .ok (.iload_n 1, 1) := by decide +kernel
theorem dX6_whoHas_11 : decode cX6_whoHas 11 = .ok (.aload_n 0, 1) := by decide +kernel
theorem dX6_whoHas_12 : decode cX6_whoHas 12 = .ok (.getfield 41, 3) := by decide +kernel
theorem dX6_whoHas_15 : decode cX6_whoHas 15 = .ok (.if_icmp .eq 18, 3) := by decide +kernel
theorem dX6_whoHas_18 : decode cX6_whoHas 18 = .ok (.aload_n 0, 1) := by decide +kernel
theorem dX6_whoHas_19 : decode cX6_whoHas 19 = .ok (.getfield 44, 3) := by decide +kernel
theorem dX6_whoHas_22 : decode cX6_whoHas 22 = .ok (.iload_n 1, 1) := by decide +kernel
theorem dX6_whoHas_23 : decode cX6_whoHas 23 = .ok (.iaload, 1) := by decide +kernel
theorem dX6_whoHas_24 : decode cX6_whoHas 24 = .ok (.aload_n 0, 1) := by decide +kernel
theorem dX6_whoHas_25 : decode cX6_whoHas 25 = .ok (.invokevirtual 260, 3) := by decide +kernel
theorem dX6_whoHas_28 : decode cX6_whoHas 28 = .ok (.if_icmp .ne 5, 3) := by decide +kernel
theorem dX6_whoHas_31 : decode cX6_whoHas 31 = .ok (.iload_n 1, 1) := by decide +kernel
theorem dX6_whoHas_32 : decode cX6_whoHas 32 = .ok (.ireturn, 1) := by decide +kernel
theorem dX6_whoHas_33 : decode cX6_whoHas 33 = .ok (.iinc 1 1, 3) := by decide +kernel
theorem dX6_whoHas_36 : decode cX6_whoHas 36 = .ok (.goto (-34), 3) := by decide +kernel
theorem dX6_whoHas_39 : decode cX6_whoHas 39 = .ok (.iconst (-1), 1) := by decide +kernel
theorem dX6_whoHas_40 : decode cX6_whoHas 40 = .ok (.ireturn, 1) := by decide +kernel
theorem dX6_towards_0 : decode cX6_towards 0 = .ok (.aload_n 0, 1) := by decide +kernel
theorem dX6_towards_1 : decode cX6_towards 1 = .ok (.getfield 91, 3) := by decide +kernel
theorem dX6_towards_4 : decode cX6_towards 4 = .ok (.ifCond .ne 5, 3) := by decide +kernel
theorem dX6_towards_7 : decode cX6_towards 7 = .ok (.iconst (-1), 1) := by decide +kernel
theorem dX6_towards_8 : decode cX6_towards 8 = .ok (.ireturn, 1) := by decide +kernel
theorem dX6_towards_9 : decode cX6_towards 9 = .ok (.iload_n 2, 1) := by decide +kernel
theorem dX6_towards_10 : decode cX6_towards 10 = .ok (.ifCond .ne 46, 3) := by decide +kernel
theorem dX6_towards_13 : decode cX6_towards 13 = .ok (.iload_n 1, 1) := by decide +kernel
theorem dX6_towards_14 : decode cX6_towards 14 = .ok (.aload_n 0, 1) := by decide +kernel
theorem dX6_towards_15 : decode cX6_towards 15 = .ok (.getfield 78, 3) := by decide +kernel
theorem dX6_towards_18 : decode cX6_towards 18 = .ok (.iload_n 3, 1) := by decide +kernel
theorem dX6_towards_19 : decode cX6_towards 19 = .ok (.iaload, 1) := by decide +kernel
theorem dX6_towards_20 : decode cX6_towards 20 = .ok (.if_icmp .ge 17, 3) := by decide +kernel
theorem dX6_towards_23 : decode cX6_towards 23 = .ok (.aload_n 0, 1) := by decide +kernel
theorem dX6_towards_24 : decode cX6_towards 24 = .ok (.getfield 81, 3) := by decide +kernel
theorem dX6_towards_27 : decode cX6_towards 27 = .ok (.bipush 40, 2) := by decide +kernel
theorem dX6_towards_29 : decode cX6_towards 29 = .ok (.iload_n 3, 1) := by decide +kernel
theorem dX6_towards_30 : decode cX6_towards 30 = .ok (.imul, 1) := by decide +kernel
theorem dX6_towards_31 : decode cX6_towards 31 = .ok (.iload_n 1, 1) := by decide +kernel
theorem dX6_towards_32 : decode cX6_towards 32 = .ok (.iadd, 1) := by decide +kernel
theorem dX6_towards_33 : decode cX6_towards 33 = .ok (.iaload, 1) := by decide +kernel
theorem dX6_towards_34 : decode cX6_towards 34 = .ok (.goto 4, 3) := by decide +kernel
theorem dX6_towards_37 : decode cX6_towards 37 = .ok (.iconst (-1), 1) := by decide +kernel
theorem dX6_towards_38 : decode cX6_towards 38 = .ok (.istore 5, 2) := by decide +kernel
theorem dX6_towards_40 : decode cX6_towards 40 = .ok (.aload_n 0, 1) := by decide +kernel
theorem dX6_towards_41 : decode cX6_towards 41 = .ok (.iload 5, 2) := by decide +kernel
theorem dX6_towards_43 : decode cX6_towards 43 = .ok (.invokevirtual 100, 3) := by decide +kernel
theorem dX6_towards_46 : decode cX6_towards 46 = .ok (.ifCond .eq 8, 3) := by decide +kernel
theorem dX6_towards_49 : decode cX6_towards 49 = .ok (.iload 5, 2) := by decide +kernel
theorem dX6_towards_51 : decode cX6_towards 51 = .ok (.goto 4, 3) := by decide +kernel
theorem dX6_towards_54 : decode cX6_towards 54 = .ok (.iconst (-1), 1) := by decide +kernel
theorem dX6_towards_55 : decode cX6_towards 55 = .ok (.ireturn, 1) := by decide +kernel
theorem dX6_towards_56 : decode cX6_towards 56 = .ok (.iload_n 2, 1) := by decide +kernel
theorem dX6_towards_57 : decode cX6_towards 57 = .ok (.iconst 4, 1) := by decide +kernel
theorem dX6_towards_58 : decode cX6_towards 58 = .ok (.if_icmp .ne 15, 3) := by decide +kernel
theorem dX6_towards_61 : decode cX6_towards 61 = .ok (.iload_n 1, 1) := by decide +kernel
theorem dX6_towards_62 : decode cX6_towards 62 = .ok (.iload_n 3, 1) := by decide +kernel
theorem dX6_towards_63 : decode cX6_towards 63 = .ok (.if_icmp .ge 10, 3) := by decide +kernel
theorem dX6_towards_66 : decode cX6_towards 66 = .ok (.aload_n 0, 1) := by decide +kernel
theorem dX6_towards_67 : decode cX6_towards 67 = .ok (.getfield 59, 3) := by decide +kernel
theorem dX6_towards_70 : decode cX6_towards 70 = .ok (.iload_n 1, 1) := by decide +kernel
theorem dX6_towards_71 : decode cX6_towards 71 = .ok (.iaload, 1) := by decide +kernel
theorem dX6_towards_72 : decode cX6_towards 72 = .ok (.ireturn, 1) := by decide +kernel
theorem dX6_towards_73 : decode cX6_towards 73 = .ok (.iload_n 2, 1) := by decide +kernel
theorem dX6_towards_74 : decode cX6_towards 74 = .ok (.iconst 2, 1) := by decide +kernel
theorem dX6_towards_75 : decode cX6_towards 75 = .ok (.if_icmp .ne 10, 3) := by decide +kernel
theorem dX6_towards_78 : decode cX6_towards 78 = .ok (.aload_n 0, 1) := by decide +kernel
theorem dX6_towards_79 : decode cX6_towards 79 = .ok (.iload 4, 2) := by decide +kernel
theorem dX6_towards_81 : decode cX6_towards 81 = .ok (.invokevirtual 263, 3) := by decide +kernel
theorem dX6_towards_84 : decode cX6_towards 84 = .ok (.ireturn, 1) := by decide +kernel
theorem dX6_towards_85 : decode cX6_towards 85 = .ok (.iload_n 2, 1) := by decide +kernel
theorem dX6_towards_86 : decode cX6_towards 86 = .ok (.iconst 3, 1) := by decide +kernel
theorem dX6_towards_87 : decode cX6_towards 87 = .ok (.if_icmp .ne 10, 3) := by decide +kernel
theorem dX6_towards_90 : decode cX6_towards 90 = .ok (.aload_n 0, 1) := by decide +kernel
theorem dX6_towards_91 : decode cX6_towards 91 = .ok (.invokevirtual 266, 3) := by decide +kernel
theorem dX6_towards_94 : decode cX6_towards 94 = .ok (.goto 9, 3) := by decide +kernel
theorem dX6_towards_97 : decode cX6_towards 97 = .ok (.iload_n 1, 1) := by decide +kernel
theorem dX6_towards_98 : decode cX6_towards 98 = .ok (.aload_n 0, 1) := by decide +kernel
theorem dX6_towards_99 : decode cX6_towards 99 = .ok (.getfield 91, 3) := by decide +kernel
theorem dX6_towards_102 : decode cX6_towards 102 = .ok (.irem, 1) := by decide +kernel
theorem dX6_towards_103 : decode cX6_towards 103 = .ok (.ireturn, 1) := by decide +kernel
theorem dX6_gives_0 : decode cX6_gives 0 = .ok (.iload_n 2, 1) := by decide +kernel
theorem dX6_gives_1 : decode cX6_gives 1 = .ok (.iconst (-1), 1) := by decide +kernel
theorem dX6_gives_2 : decode cX6_gives 2 = .ok (.if_icmp .ne 14, 3) := by decide +kernel
theorem dX6_gives_5 : decode cX6_gives 5 = .ok (.aload_n 0, 1) := by decide +kernel
theorem dX6_gives_6 : decode cX6_gives 6 = .ok (.dup, 1) := by decide +kernel
theorem dX6_gives_7 : decode cX6_gives 7 = .ok (.getfield 269, 3) := by decide +kernel
theorem dX6_gives_10 : decode cX6_gives 10 = .ok (.iconst 1, 1) := by decide +kernel
theorem dX6_gives_11 : decode cX6_gives 11 = .ok (.iadd, 1) := by decide +kernel
theorem dX6_gives_12 : decode cX6_gives 12 = .ok (.putfield 269, 3) := by decide +kernel
theorem dX6_gives_15 : decode cX6_gives 15 = .ok (.return_, 1) := by decide +kernel
theorem dX6_gives_16 : decode cX6_gives 16 = .ok (.aload_n 0, 1) := by decide +kernel
theorem dX6_gives_17 : decode cX6_gives 17 = .ok (.getfield 44, 3) := by decide +kernel
theorem dX6_gives_20 : decode cX6_gives 20 = .ok (.iload_n 2, 1) := by decide +kernel
theorem dX6_gives_21 : decode cX6_gives 21 = .ok (.iaload, 1) := by decide +kernel
theorem dX6_gives_22 : decode cX6_gives 22 = .ok (.ifCond .le 22, 3) := by decide +kernel
theorem dX6_gives_25 : decode cX6_gives 25 = .ok (.aload_n 0, 1) := by decide +kernel
theorem dX6_gives_26 : decode cX6_gives 26 = .ok (.getfield 47, 3) := by decide +kernel
theorem dX6_gives_29 : decode cX6_gives 29 = .ok (.iload_n 2, 1) := by decide +kernel
theorem dX6_gives_30 : decode cX6_gives 30 = .ok (.iaload, 1) := by decide +kernel
theorem dX6_gives_31 : decode cX6_gives 31 = .ok (.iload_n 3, 1) := by decide +kernel
theorem dX6_gives_32 : decode cX6_gives 32 = .ok (.if_icmp .le 12, 3) := by decide +kernel
theorem dX6_gives_35 : decode cX6_gives 35 = .ok (.aload_n 0, 1) := by decide +kernel
theorem dX6_gives_36 : decode cX6_gives 36 = .ok (.getfield 47, 3) := by decide +kernel
theorem dX6_gives_39 : decode cX6_gives 39 = .ok (.iload_n 2, 1) := by decide +kernel
theorem dX6_gives_40 : decode cX6_gives 40 = .ok (.iaload, 1) := by decide +kernel
theorem dX6_gives_41 : decode cX6_gives 41 = .ok (.goto 4, 3) := by decide +kernel
theorem dX6_gives_44 : decode cX6_gives 44 = .ok (.iload_n 3, 1) := by decide +kernel
theorem dX6_gives_45 : decode cX6_gives 45 = .ok (.istore 4, 2) := by decide +kernel
theorem dX6_gives_47 : decode cX6_gives 47 = .ok (.aload_n 0, 1) := by decide +kernel
theorem dX6_gives_48 : decode cX6_gives 48 = .ok (.dup, 1) := by decide +kernel
theorem dX6_gives_49 : decode cX6_gives 49 = .ok (.getfield 272, 3) := by decide +kernel
theorem dX6_gives_52 : decode cX6_gives 52 = .ok (.aload_n 0, 1) := by decide +kernel
theorem dX6_gives_53 : decode cX6_gives 53 = .ok (.iload_n 1, 1) := by decide +kernel
theorem dX6_gives_54 : decode cX6_gives 54 = .ok (.iload_n 2, 1) := by decide +kernel
theorem dX6_gives_55 : decode cX6_gives 55 = .ok (.iload 4, 2) := by decide +kernel
theorem dX6_gives_57 : decode cX6_gives 57 = .ok (.aload_n 0, 1) := by decide +kernel
theorem dX6_gives_58 : decode cX6_gives 58 = .ok (.getfield 44, 3) := by decide +kernel
theorem dX6_gives_61 : decode cX6_gives 61 = .ok (.iload_n 2, 1) := by decide +kernel
theorem dX6_gives_62 : decode cX6_gives 62 = .ok (.iaload, 1) := by decide +kernel
theorem dX6_gives_63 : decode cX6_gives 63 = .ok (.iload 4, 2) := by decide +kernel
theorem dX6_gives_65 : decode cX6_gives 65 = .ok (.aload_n 0, 1) := by decide +kernel
theorem dX6_gives_66 : decode cX6_gives 66 = .ok (.getfield 53, 3) := by decide +kernel
theorem dX6_gives_69 : decode cX6_gives 69 = .ok (.iload_n 1, 1) := by decide +kernel
theorem dX6_gives_70 : decode cX6_gives 70 = .ok (.iaload, 1) := by decide +kernel
theorem dX6_gives_71 : decode cX6_gives 71 = .ok (.isub, 1) := by decide +kernel
theorem dX6_gives_72 : decode cX6_gives 72 = .ok (.invokevirtual 275, 3) := by decide +kernel
theorem dX6_gives_75 : decode cX6_gives 75 = .ok (.isub, 1) := by decide +kernel
theorem dX6_gives_76 : decode cX6_gives 76 = .ok (.putfield 272, 3) := by decide +kernel
theorem dX6_gives_79 : decode cX6_gives 79 = .ok (.aload_n 0, 1) := by decide +kernel
theorem dX6_gives_80 : decode cX6_gives 80 = .ok (.getfield 44, 3) := by decide +kernel
theorem dX6_gives_83 : decode cX6_gives 83 = .ok (.iload_n 2, 1) := by decide +kernel
theorem dX6_gives_84 : decode cX6_gives 84 = .ok (.dup2, 1) := by decide +kernel
theorem dX6_gives_85 : decode cX6_gives 85 = .ok (.iaload, 1) := by decide +kernel
theorem dX6_gives_86 : decode cX6_gives 86 = .ok (.iconst 1, 1) := by decide +kernel
theorem dX6_gives_87 : decode cX6_gives 87 = .ok (.iadd, 1) := by decide +kernel
theorem dX6_gives_88 : decode cX6_gives 88 = .ok (.iastore, 1) := by decide +kernel
theorem dX6_gives_89 : decode cX6_gives 89 = .ok (.aload_n 0, 1) := by decide +kernel
theorem dX6_gives_90 : decode cX6_gives 90 = .ok (.getfield 47, 3) := by decide +kernel
theorem dX6_gives_93 : decode cX6_gives 93 = .ok (.iload_n 2, 1) := by decide +kernel
theorem dX6_gives_94 : decode cX6_gives 94 = .ok (.iload 4, 2) := by decide +kernel
theorem dX6_gives_96 : decode cX6_gives 96 = .ok (.aload_n 0, 1) := by decide +kernel
theorem dX6_gives_97 : decode cX6_gives 97 = .ok (.iload_n 2, 1) := by decide +kernel
theorem dX6_gives_98 : decode cX6_gives 98 = .ok (.invokevirtual 120, 3) := by decide +kernel
theorem dX6_gives_101 : decode cX6_gives 101 = .ok (.iadd, 1) := by decide +kernel
theorem dX6_gives_102 : decode cX6_gives 102 = .ok (.iastore, 1) := by decide +kernel
theorem dX6_gives_103 : decode cX6_gives 103 = .ok (.aload_n 0, 1) := by decide +kernel
theorem dX6_gives_104 : decode cX6_gives 104 = .ok (.dup, 1) := by decide +kernel
theorem dX6_gives_105 : decode cX6_gives 105 = .ok (.getfield 279, 3) := by decide +kernel
theorem dX6_gives_108 : decode cX6_gives 108 = .ok (.iconst 1, 1) := by decide +kernel
theorem dX6_gives_109 : decode cX6_gives 109 = .ok (.iadd, 1) := by decide +kernel
theorem dX6_gives_110 : decode cX6_gives 110 = .ok (.putfield 279, 3) := by decide +kernel
theorem dX6_gives_113 : decode cX6_gives 113 = .ok (.return_, 1) := by decide +kernel
theorem dX6_bakes_0 : decode cX6_bakes 0 = .ok (.iconst 0, 1) := by decide +kernel
theorem dX6_bakes_1 : decode cX6_bakes 1 = .ok (.istore_n 3, 1) := by decide +kernel
theorem dX6_bakes_2 : decode cX6_bakes 2 = .ok (.iload_n 3, 1) := by decide +kernel
theorem dX6_bakes_3 : decode cX6_bakes 3 = .ok (.aload_n 0, 1) := by decide +kernel
theorem dX6_bakes_4 : decode cX6_bakes 4 = .ok (.getfield 23, 3) := by decide +kernel
theorem dX6_bakes_7 : decode cX6_bakes 7 = .ok (.if_icmp .ge 20, 3) := by decide +kernel
theorem dX6_bakes_10 : decode cX6_bakes 10 = .ok (.aload_n 0, 1) := by decide +kernel
theorem dX6_bakes_11 : decode cX6_bakes 11 = .ok (.getfield 53, 3) := by decide +kernel
theorem dX6_bakes_14 : decode cX6_bakes 14 = .ok (.iload_n 3, 1) := by decide +kernel
theorem dX6_bakes_15 : decode cX6_bakes 15 = .ok (.aload_n 0, 1) := by decide +kernel
theorem dX6_bakes_16 : decode cX6_bakes 16 = .ok (.iload_n 3, 1) := by decide +kernel
theorem dX6_bakes_17 : decode cX6_bakes 17 = .ok (.invokevirtual 257, 3) := by decide +kernel
theorem dX6_bakes_20 : decode cX6_bakes 20 = .ok (.iastore, 1) := by decide +kernel
theorem dX6_bakes_21 : decode cX6_bakes 21 = .ok (.iinc 3 1, 3) := by decide +kernel
theorem dX6_bakes_24 : decode cX6_bakes 24 = .ok (.goto (-22), 3) := by decide +kernel
theorem dX6_bakes_27 : decode cX6_bakes 27 = .ok (.iconst 0, 1) := by decide +kernel
theorem dX6_bakes_28 : decode cX6_bakes 28 = .ok (.istore_n 3, 1) := by decide +kernel
theorem dX6_bakes_29 : decode cX6_bakes 29 = .ok (.iload_n 3, 1) := by decide +kernel
theorem dX6_bakes_30 : decode cX6_bakes 30 = .ok (.aload_n 0, 1) := by decide +kernel
theorem dX6_bakes_31 : decode cX6_bakes 31 = .ok (.getfield 23, 3) := by decide +kernel
theorem dX6_bakes_34 : decode cX6_bakes 34 = .ok (.if_icmp .ge 106, 3) := by decide +kernel
theorem dX6_bakes_37 : decode cX6_bakes 37 = .ok (.aload_n 0, 1) := by decide +kernel
theorem dX6_bakes_38 : decode cX6_bakes 38 = .ok (.getfield 56, 3) := by decide +kernel
theorem dX6_bakes_41 : decode cX6_bakes 41 = .ok (.iload_n 3, 1) := by decide +kernel
theorem dX6_bakes_42 : decode cX6_bakes 42 = .ok (.aload_n 0, 1) := by decide +kernel
theorem dX6_bakes_43 : decode cX6_bakes 43 = .ok (.getfield 53, 3) := by decide +kernel
theorem dX6_bakes_46 : decode cX6_bakes 46 = .ok (.iload_n 3, 1) := by decide +kernel
theorem dX6_bakes_47 : decode cX6_bakes 47 = .ok (.iaload, 1) := by decide +kernel
theorem dX6_bakes_48 : decode cX6_bakes 48 = .ok (.iastore, 1) := by decide +kernel
theorem dX6_bakes_49 : decode cX6_bakes 49 = .ok (.iload_n 1, 1) := by decide +kernel
theorem dX6_bakes_50 : decode cX6_bakes 50 = .ok (.iconst 5, 1) := by decide +kernel
theorem dX6_bakes_51 : decode cX6_bakes 51 = .ok (.if_icmp .ne 11, 3) := by decide +kernel
theorem dX6_bakes_54 : decode cX6_bakes 54 = .ok (.iload_n 3, 1) := by decide +kernel
theorem dX6_bakes_55 : decode cX6_bakes 55 = .ok (.iload_n 2, 1) := by decide +kernel
theorem dX6_bakes_56 : decode cX6_bakes 56 = .ok (.idiv, 1) := by decide +kernel
theorem dX6_bakes_57 : decode cX6_bakes 57 = .ok (.iload_n 2, 1) := by decide +kernel
theorem dX6_bakes_58 : decode cX6_bakes 58 = .ok (.imul, 1) := by decide +kernel
theorem dX6_bakes_59 : decode cX6_bakes 59 = .ok (.goto 7, 3) := by decide +kernel
theorem dX6_bakes_62 : decode cX6_bakes 62 = .ok (.aload_n 0, 1) := by decide +kernel
theorem dX6_bakes_63 : decode cX6_bakes 63 = .ok (.getfield 23, 3) := by decide +kernel
theorem dX6_bakes_66 : decode cX6_bakes 66 = .ok (.istore 4, 2) := by decide +kernel
theorem dX6_bakes_68 : decode cX6_bakes 68 = .ok (.iload 4, 2) := by decide +kernel
theorem dX6_bakes_70 : decode cX6_bakes 70 = .ok (.istore 5, 2) := by decide +kernel
theorem dX6_bakes_72 : decode cX6_bakes 72 = .ok (.iload 5, 2) := by decide +kernel
theorem dX6_bakes_74 : decode cX6_bakes 74 = .ok (.aload_n 0, 1) := by decide +kernel
theorem dX6_bakes_75 : decode cX6_bakes 75 = .ok (.getfield 23, 3) := by decide +kernel
theorem dX6_bakes_78 : decode cX6_bakes 78 = .ok (.if_icmp .ge 56, 3) := by decide +kernel
theorem dX6_bakes_81 : decode cX6_bakes 81 = .ok (.iload 5, 2) := by decide +kernel
theorem dX6_bakes_83 : decode cX6_bakes 83 = .ok (.iload 4, 2) := by decide +kernel
theorem dX6_bakes_85 : decode cX6_bakes 85 = .ok (.iload_n 2, 1) := by decide +kernel
theorem dX6_bakes_86 : decode cX6_bakes 86 = .ok (.iadd, 1) := by decide +kernel
theorem dX6_bakes_87 : decode cX6_bakes 87 = .ok (.if_icmp .ge 47, 3) := by decide +kernel
theorem dX6_bakes_90 : decode cX6_bakes 90 = .ok (.aload_n 0, 1) := by decide +kernel
theorem dX6_bakes_91 : decode cX6_bakes 91 = .ok (.getfield 56, 3) := by decide +kernel
theorem dX6_bakes_94 : decode cX6_bakes 94 = .ok (.iload_n 3, 1) := by decide +kernel
theorem dX6_bakes_95 : decode cX6_bakes 95 = .ok (.aload_n 0, 1) := by decide +kernel
theorem dX6_bakes_96 : decode cX6_bakes 96 = .ok (.getfield 53, 3) := by decide +kernel
theorem dX6_bakes_99 : decode cX6_bakes 99 = .ok (.iload 5, 2) := by decide +kernel
theorem dX6_bakes_101 : decode cX6_bakes 101 = .ok (.iaload, 1) := by decide +kernel
theorem dX6_bakes_102 : decode cX6_bakes 102 = .ok (.aload_n 0, 1) := by decide +kernel
theorem dX6_bakes_103 : decode cX6_bakes 103 = .ok (.getfield 56, 3) := by decide +kernel
theorem dX6_bakes_106 : decode cX6_bakes 106 = .ok (.iload_n 3, 1) := by decide +kernel
theorem dX6_bakes_107 : decode cX6_bakes 107 = .ok (.iaload, 1) := by decide +kernel
theorem dX6_bakes_108 : decode cX6_bakes 108 = .ok (.if_icmp .le 13, 3) := by decide +kernel
theorem dX6_bakes_111 : decode cX6_bakes 111 = .ok (.aload_n 0, 1) := by decide +kernel
theorem dX6_bakes_112 : decode cX6_bakes 112 = .ok (.getfield 53, 3) := by decide +kernel
theorem dX6_bakes_115 : decode cX6_bakes 115 = .ok (.iload 5, 2) := by decide +kernel
theorem dX6_bakes_117 : decode cX6_bakes 117 = .ok (.iaload, 1) := by decide +kernel
theorem dX6_bakes_118 : decode cX6_bakes 118 = .ok (.goto 9, 3) := by decide +kernel
theorem dX6_bakes_121 : decode cX6_bakes 121 = .ok (.aload_n 0, 1) := by decide +kernel
theorem dX6_bakes_122 : decode cX6_bakes 122 = .ok (.getfield 56, 3) := by decide +kernel
theorem dX6_bakes_125 : decode cX6_bakes 125 = .ok (.iload_n 3, 1) := by decide +kernel
theorem dX6_bakes_126 : decode cX6_bakes 126 = .ok (.iaload, 1) := by decide +kernel
theorem dX6_bakes_127 : decode cX6_bakes 127 = .ok (.iastore, 1) := by decide +kernel
theorem dX6_bakes_128 : decode cX6_bakes 128 = .ok (.iinc 5 1, 3) := by decide +kernel
theorem dX6_bakes_131 : decode cX6_bakes 131 = .ok (.goto (-59), 3) := by decide +kernel
theorem dX6_bakes_134 : decode cX6_bakes 134 = .ok (.iinc 3 1, 3) := by decide +kernel
theorem dX6_bakes_137 : decode cX6_bakes 137 = .ok (.goto (-108), 3) := by decide +kernel
theorem dX6_bakes_140 : decode cX6_bakes 140 = .ok (.return_, 1) := by decide +kernel
theorem dX6_sups_0 : decode cX6_sups 0 = .ok (.iconst 0, 1) := by decide +kernel
theorem dX6_sups_1 : decode cX6_sups 1 = .ok (.istore_n 3, 1) := by decide +kernel
theorem dX6_sups_2 : decode cX6_sups 2 = .ok (.iload_n 3, 1) := by decide +kernel
theorem dX6_sups_3 : decode cX6_sups 3 = .ok (.iconst 5, 1) := by decide +kernel
theorem dX6_sups_4 : decode cX6_sups 4 = .ok (.if_icmp .ge 30, 3) := by decide +kernel
theorem dX6_sups_7 : decode cX6_sups 7 = .ok (.aload_n 0, 1) := by decide +kernel
theorem dX6_sups_8 : decode cX6_sups 8 = .ok (.getfield 44, 3) := by decide +kernel
theorem dX6_sups_11 : decode cX6_sups 11 = .ok (.iload_n 3, 1) := by decide +kernel
theorem dX6_sups_12 : decode cX6_sups 12 = .ok (.iconst 0, 1) := by decide +kernel
theorem dX6_sups_13 : decode cX6_sups 13 = .ok (.iastore, 1) := by decide +kernel
theorem dX6_sups_14 : decode cX6_sups 14 = .ok (.aload_n 0, 1) := by decide +kernel
theorem dX6_sups_15 : decode cX6_sups 15 = .ok (.getfield 47, 3) := by decide +kernel
theorem dX6_sups_18 : decode cX6_sups 18 = .ok (.iload_n 3, 1) := by decide +kernel
theorem dX6_sups_19 : decode cX6_sups 19 = .ok (.iconst (-1), 1) := by decide +kernel
theorem dX6_sups_20 : decode cX6_sups 20 = .ok (.iastore, 1) := by decide +kernel
theorem dX6_sups_21 : decode cX6_sups 21 = .ok (.aload_n 0, 1) := by decide +kernel
theorem dX6_sups_22 : decode cX6_sups 22 = .ok (.getfield 50, 3) := by decide +kernel
theorem dX6_sups_25 : decode cX6_sups 25 = .ok (.iload_n 3, 1) := by decide +kernel
theorem dX6_sups_26 : decode cX6_sups 26 = .ok (.iconst 0, 1) := by decide +kernel
theorem dX6_sups_27 : decode cX6_sups 27 = .ok (.iastore, 1) := by decide +kernel
theorem dX6_sups_28 : decode cX6_sups 28 = .ok (.iinc 3 1, 3) := by decide +kernel
theorem dX6_sups_31 : decode cX6_sups 31 = .ok (.goto (-29), 3) := by decide +kernel
theorem dX6_sups_34 : decode cX6_sups 34 = .ok (.aload_n 0, 1) := by decide +kernel
theorem dX6_sups_35 : decode cX6_sups 35 = .ok (.iconst 0, 1) := by decide +kernel
theorem dX6_sups_36 : decode cX6_sups 36 = .ok (.putfield 272, 3) := by decide +kernel
theorem dX6_sups_39 : decode cX6_sups 39 = .ok (.aload_n 0, 1) := by decide +kernel
theorem dX6_sups_40 : decode cX6_sups 40 = .ok (.iconst 0, 1) := by decide +kernel
theorem dX6_sups_41 : decode cX6_sups 41 = .ok (.putfield 282, 3) := by decide +kernel
theorem dX6_sups_44 : decode cX6_sups 44 = .ok (.aload_n 0, 1) := by decide +kernel
theorem dX6_sups_45 : decode cX6_sups 45 = .ok (.iconst 0, 1) := by decide +kernel
theorem dX6_sups_46 : decode cX6_sups 46 = .ok (.putfield 279, 3) := by decide +kernel
theorem dX6_sups_49 : decode cX6_sups 49 = .ok (.aload_n 0, 1) := by decide +kernel
theorem dX6_sups_50 : decode cX6_sups 50 = .ok (.iconst 0, 1) := by decide +kernel
theorem dX6_sups_51 : decode cX6_sups 51 = .ok (.putfield 269, 3) := by decide +kernel
theorem dX6_sups_54 : decode cX6_sups 54 = .ok (.aload_n 0, 1) := by decide +kernel
theorem dX6_sups_55 : decode cX6_sups 55 = .ok (.iload_n 1, 1) := by decide +kernel
theorem dX6_sups_56 : decode cX6_sups 56 = .ok (.iload_n 2, 1) := by decide +kernel
theorem dX6_sups_57 : decode cX6_sups 57 = .ok (.invokevirtual 285, 3) := by decide +kernel
theorem dX6_sups_60 : decode cX6_sups 60 = .ok (.iconst 0, 1) := by decide +kernel
theorem dX6_sups_61 : decode cX6_sups 61 = .ok (.istore_n 3, 1) := by decide +kernel
theorem dX6_sups_62 : decode cX6_sups 62 = .ok (.iload_n 3, 1) := by decide +kernel
theorem dX6_sups_63 : decode cX6_sups 63 = .ok (.bipush 60, 2) := by decide +kernel
theorem dX6_sups_65 : decode cX6_sups 65 = .ok (.if_icmp .ge 193, 3) := by decide +kernel
theorem dX6_sups_68 : decode cX6_sups 68 = .ok (.iconst 0, 1) := by decide +kernel
theorem dX6_sups_69 : decode cX6_sups 69 = .ok (.istore 4, 2) := by decide +kernel
theorem dX6_sups_71 : decode cX6_sups 71 = .ok (.iload 4, 2) := by decide +kernel
theorem dX6_sups_73 : decode cX6_sups 73 = .ok (.aload_n 0, 1) := by decide +kernel
theorem dX6_sups_74 : decode cX6_sups 74 = .ok (.getfield 23, 3) := by decide +kernel
theorem dX6_sups_77 : decode cX6_sups 77 = .ok (.if_icmp .ge 36, 3) := by decide +kernel
theorem dX6_sups_80 : decode cX6_sups 80 = .ok (.aload_n 0, 1) := by decide +kernel
theorem dX6_sups_81 : decode cX6_sups 81 = .ok (.getfield 56, 3) := by decide +kernel
theorem dX6_sups_84 : decode cX6_sups 84 = .ok (.iload 4, 2) := by decide +kernel
theorem dX6_sups_86 : decode cX6_sups 86 = .ok (.iaload, 1) := by decide +kernel
theorem dX6_sups_87 : decode cX6_sups 87 = .ok (.iload_n 3, 1) := by decide +kernel
theorem dX6_sups_88 : decode cX6_sups 88 = .ok (.if_icmp .ne 19, 3) := by decide +kernel
theorem dX6_sups_91 : decode cX6_sups 91 = .ok (.aload_n 0, 1) := by decide +kernel
theorem dX6_sups_92 : decode cX6_sups 92 = .ok (.iload 4, 2) := by decide +kernel
theorem dX6_sups_94 : decode cX6_sups 94 = .ok (.aload_n 0, 1) := by decide +kernel
theorem dX6_sups_95 : decode cX6_sups 95 = .ok (.iload 4, 2) := by decide +kernel
theorem dX6_sups_97 : decode cX6_sups 97 = .ok (.iload_n 1, 1) := by decide +kernel
theorem dX6_sups_98 : decode cX6_sups 98 = .ok (.iload_n 2, 1) := by decide +kernel
theorem dX6_sups_99 : decode cX6_sups 99 = .ok (.iload_n 3, 1) := by decide +kernel
theorem dX6_sups_100 : decode cX6_sups 100 = .ok (.invokevirtual 289, 3) := by decide +kernel
theorem dX6_sups_103 : decode cX6_sups 103 = .ok (.iload_n 3, 1) := by decide +kernel
theorem dX6_sups_104 : decode cX6_sups 104 = .ok (.invokevirtual 292, 3) := by decide +kernel
theorem dX6_sups_107 : decode cX6_sups 107 = .ok (.iinc 4 1, 3) := by decide +kernel
theorem dX6_sups_110 : decode cX6_sups 110 = .ok (.goto (-39), 3) := by decide +kernel
theorem dX6_sups_113 : decode cX6_sups 113 = .ok (.aload_n 0, 1) := by decide +kernel
theorem dX6_sups_114 : decode cX6_sups 114 = .ok (.invokevirtual 260, 3) := by decide +kernel
theorem dX6_sups_117 : decode cX6_sups 117 = .ok (.istore 4, 2) := by decide +kernel
theorem dX6_sups_119 : decode cX6_sups 119 = .ok (.iconst 0, 1) := by decide +kernel
theorem dX6_sups_120 : decode cX6_sups 120 = .ok (.istore 5, 2) := by decide +kernel
theorem dX6_sups_122 : decode cX6_sups 122 = .ok (.iload 5, 2) := by decide +kernel
theorem dX6_sups_124 : decode cX6_sups 124 = .ok (.aload_n 0, 1) := by decide +kernel
theorem dX6_sups_125 : decode cX6_sups 125 = .ok (.getfield 91, 3) := by decide +kernel
theorem dX6_sups_128 : decode cX6_sups 128 = .ok (.if_icmp .ge 82, 3) := by decide +kernel
theorem dX6_sups_131 : decode cX6_sups 131 = .ok (.iload 5, 2) := by decide +kernel
theorem dX6_sups_133 : decode cX6_sups 133 = .ok (.aload_n 0, 1) := by decide +kernel
theorem dX6_sups_134 : decode cX6_sups 134 = .ok (.getfield 41, 3) := by decide +kernel
theorem dX6_sups_137 : decode cX6_sups 137 = .ok (.if_icmp .eq 67, 3) := by decide +kernel
theorem dX6_sups_140 : decode cX6_sups 140 = .ok (.aload_n 0, 1) := by decide +kernel
theorem dX6_sups_141 : decode cX6_sups 141 = .ok (.getfield 44, 3) := by decide +kernel
theorem dX6_sups_144 : decode cX6_sups 144 = .ok (.iload 5, 2) := by decide +kernel
theorem dX6_sups_146 : decode cX6_sups 146 = .ok (.iaload, 1) := by decide +kernel
theorem dX6_sups_147 : decode cX6_sups 147 = .ok (.aload_n 0, 1) := by decide +kernel
theorem dX6_sups_148 : decode cX6_sups 148 = .ok (.getfield 35, 3) := by decide +kernel
theorem dX6_sups_151 : decode cX6_sups 151 = .ok (.iload 5, 2) := by decide +kernel
theorem dX6_sups_153 : decode cX6_sups 153 = .ok (.iaload, 1) := by decide +kernel
theorem dX6_sups_154 : decode cX6_sups 154 = .ok (.if_icmp .ge 50, 3) := by decide +kernel
theorem dX6_sups_157 : decode cX6_sups 157 = .ok (.aload_n 0, 1) := by decide +kernel
theorem dX6_sups_158 : decode cX6_sups 158 = .ok (.getfield 47, 3) := by decide +kernel
theorem dX6_sups_161 : decode cX6_sups 161 = .ok (.iload 5, 2) := by decide +kernel
theorem dX6_sups_163 : decode cX6_sups 163 = .ok (.iaload, 1) := by decide +kernel
theorem dX6_sups_164 : decode cX6_sups 164 = .ok (.iload_n 3, 1) := by decide +kernel
theorem dX6_sups_165 : decode cX6_sups 165 = .ok (.if_icmp .gt 39, 3) := by decide +kernel
theorem dX6_sups_168 : decode cX6_sups 168 = .ok (.aload_n 0, 1) := by decide +kernel
theorem dX6_sups_169 : decode cX6_sups 169 = .ok (.getfield 50, 3) := by decide +kernel
theorem dX6_sups_172 : decode cX6_sups 172 = .ok (.iload 5, 2) := by decide +kernel
theorem dX6_sups_174 : decode cX6_sups 174 = .ok (.dup2, 1) := by decide +kernel
theorem dX6_sups_175 : decode cX6_sups 175 = .ok (.iaload, 1) := by decide +kernel
theorem dX6_sups_176 : decode cX6_sups 176 = .ok (.iconst 1, 1) := by decide +kernel
theorem dX6_sups_177 : decode cX6_sups 177 = .ok (.iadd, 1) := by decide +kernel
theorem dX6_sups_178 : decode cX6_sups 178 = .ok (.iastore, 1) := by decide +kernel
theorem dX6_sups_179 : decode cX6_sups 179 = .ok (.aload_n 0, 1) := by decide +kernel
theorem dX6_sups_180 : decode cX6_sups 180 = .ok (.dup, 1) := by decide +kernel
theorem dX6_sups_181 : decode cX6_sups 181 = .ok (.getfield 272, 3) := by decide +kernel
theorem dX6_sups_184 : decode cX6_sups 184 = .ok (.aload_n 0, 1) := by decide +kernel
theorem dX6_sups_185 : decode cX6_sups 185 = .ok (.iload 5, 2) := by decide +kernel
theorem dX6_sups_187 : decode cX6_sups 187 = .ok (.iload_n 3, 1) := by decide +kernel
theorem dX6_sups_188 : decode cX6_sups 188 = .ok (.aload_n 0, 1) := by decide +kernel
theorem dX6_sups_189 : decode cX6_sups 189 = .ok (.getfield 44, 3) := by decide +kernel
theorem dX6_sups_192 : decode cX6_sups 192 = .ok (.iload 5, 2) := by decide +kernel
theorem dX6_sups_194 : decode cX6_sups 194 = .ok (.iaload, 1) := by decide +kernel
theorem dX6_sups_195 : decode cX6_sups 195 = .ok (.iload 4, 2) := by decide +kernel
theorem dX6_sups_197 : decode cX6_sups 197 = .ok (.invokevirtual 116, 3) := by decide +kernel
theorem dX6_sups_200 : decode cX6_sups 200 = .ok (.iadd, 1) := by decide +kernel
theorem dX6_sups_201 : decode cX6_sups 201 = .ok (.putfield 272, 3) := by decide +kernel
theorem dX6_sups_204 : decode cX6_sups 204 = .ok (.iinc 5 1, 3) := by decide +kernel
theorem dX6_sups_207 : decode cX6_sups 207 = .ok (.goto (-85), 3) := by decide +kernel
theorem dX6_sups_210 : decode cX6_sups 210 = .ok (.aload_n 0, 1) := by decide +kernel
theorem dX6_sups_211 : decode cX6_sups 211 = .ok (.getfield 91, 3) := by decide +kernel
theorem dX6_sups_214 : decode cX6_sups 214 = .ok (.ifCond .ne 7, 3) := by decide +kernel
theorem dX6_sups_217 : decode cX6_sups 217 = .ok (.iconst 0, 1) := by decide +kernel
theorem dX6_sups_218 : decode cX6_sups 218 = .ok (.goto 10, 3) := by decide +kernel
theorem dX6_sups_221 : decode cX6_sups 221 = .ok (.aload_n 0, 1) := by decide +kernel
theorem dX6_sups_222 : decode cX6_sups 222 = .ok (.invokevirtual 296, 3) := by decide +kernel
theorem dX6_sups_225 : decode cX6_sups 225 = .ok (.iload 4, 2) := by decide +kernel
theorem dX6_sups_227 : decode cX6_sups 227 = .ok (.isub, 1) := by decide +kernel
theorem dX6_sups_228 : decode cX6_sups 228 = .ok (.istore 5, 2) := by decide +kernel
theorem dX6_sups_230 : decode cX6_sups 230 = .ok (.aload_n 0, 1) := by decide +kernel
theorem dX6_sups_231 : decode cX6_sups 231 = .ok (.iload 5, 2) := by decide +kernel
theorem dX6_sups_233 : decode cX6_sups 233 = .ok (.aload_n 0, 1) := by decide +kernel
theorem dX6_sups_234 : decode cX6_sups 234 = .ok (.getfield 282, 3) := by decide +kernel
theorem dX6_sups_237 : decode cX6_sups 237 = .ok (.if_icmp .le 8, 3) := by decide +kernel
theorem dX6_sups_240 : decode cX6_sups 240 = .ok (.iload 5, 2) := by decide +kernel
theorem dX6_sups_242 : decode cX6_sups 242 = .ok (.goto 7, 3) := by decide +kernel
theorem dX6_sups_245 : decode cX6_sups 245 = .ok (.aload_n 0, 1) := by decide +kernel
theorem dX6_sups_246 : decode cX6_sups 246 = .ok (.getfield 282, 3) := by decide +kernel
theorem dX6_sups_249 : decode cX6_sups 249 = .ok (.putfield 282, 3) := by decide +kernel
theorem dX6_sups_252 : decode cX6_sups 252 = .ok (.iinc 3 1, 3) := by decide +kernel
theorem dX6_sups_255 : decode cX6_sups 255 = .ok (.goto (-193), 3) := by decide +kernel
theorem dX6_sups_258 : decode cX6_sups 258 = .ok (.return_, 1) := by decide +kernel
theorem dX6_isTells_0 : decode cX6_isTells 0 = .ok (.iload_n 1, 1) := by decide +kernel
theorem dX6_isTells_1 : decode cX6_isTells 1 = .ok (.i2l, 1) := by decide +kernel
theorem dX6_isTells_2 : decode cX6_isTells 2 = .ok (.lconst 0, 1) := by decide +kernel
theorem dX6_isTells_3 : decode cX6_isTells 3 = .ok (.ldc2_w 299, 3) := by decide +kernel
theorem dX6_isTells_6 : decode cX6_isTells 6 = .ok (.invokestatic 94, 3) := by decide +kernel
theorem dX6_isTells_9 : decode cX6_isTells 9 = .ok (.ifCond .ne 36, 3) := by decide +kernel
theorem dX6_isTells_12 : decode cX6_isTells 12 = .ok (.iload_n 1, 1) := by decide +kernel
theorem dX6_isTells_13 : decode cX6_isTells 13 = .ok (.i2l, 1) := by decide +kernel
theorem dX6_isTells_14 : decode cX6_isTells 14 = .ok (.ldc2_w 159, 3) := by decide +kernel
theorem dX6_isTells_17 : decode cX6_isTells 17 = .ok (.ldc2_w 301, 3) := by decide +kernel
theorem dX6_isTells_20 : decode cX6_isTells 20 = .ok (.invokestatic 94, 3) := by decide +kernel
theorem dX6_isTells_23 : decode cX6_isTells 23 = .ok (.ifCond .eq 26, 3) := by decide +kernel
theorem dX6_isTells_26 : decode cX6_isTells 26 = .ok (.iload_n 1, 1) := by decide +kernel
theorem dX6_isTells_27 : decode cX6_isTells 27 = .ok (.bipush 10, 2) := by decide +kernel
theorem dX6_isTells_29 : decode cX6_isTells 29 = .ok (.irem, 1) := by decide +kernel
theorem dX6_isTells_30 : decode cX6_isTells 30 = .ok (.iconst 5, 1) := by decide +kernel
theorem dX6_isTells_31 : decode cX6_isTells 31 = .ok (.if_icmp .ge 18, 3) := by decide +kernel
theorem dX6_isTells_34 : decode cX6_isTells 34 = .ok (.aload_n 0, 1) := by decide +kernel
theorem dX6_isTells_35 : decode cX6_isTells 35 = .ok (.iload_n 1, 1) := by decide +kernel
theorem dX6_isTells_36 : decode cX6_isTells 36 = .ok (.bipush 10, 2) := by decide +kernel
theorem dX6_isTells_38 : decode cX6_isTells 38 = .ok (.irem, 1) := by decide +kernel
theorem dX6_isTells_39 : decode cX6_isTells 39 = .ok (.invokevirtual 100, 3) := by decide +kernel
theorem dX6_isTells_42 : decode cX6_isTells 42 = .ok (.ifCond .eq 7, 3) := by decide +kernel
theorem dX6_isTells_45 : decode cX6_isTells 45 = .ok (.iconst 1, 1) := by decide +kernel
theorem dX6_isTells_46 : decode cX6_isTells 46 = .ok (.goto 4, 3) := by decide +kernel
theorem dX6_isTells_49 : decode cX6_isTells 49 = .ok (.iconst 0, 1) := by decide +kernel
theorem dX6_isTells_50 : decode cX6_isTells 50 = .ok (.ireturn, 1) := by decide +kernel
theorem dX6_tells_0 : decode cX6_tells 0 = .ok (.iload_n 1, 1) := by decide +kernel
theorem dX6_tells_1 : decode cX6_tells 1 = .ok (.iconst 4, 1) := by decide +kernel
theorem dX6_tells_2 : decode cX6_tells 2 = .ok (.if_icmp .ge 43, 3) := by decide +kernel
theorem dX6_tells_5 : decode cX6_tells 5 = .ok (.iload_n 1, 1) := by decide +kernel
theorem dX6_tells_6 : decode cX6_tells 6 = .ok (.ifCond .ne 10, 3) := by decide +kernel
theorem dX6_tells_9 : decode cX6_tells 9 = .ok (.aload_n 0, 1) := by decide +kernel
theorem dX6_tells_10 : decode cX6_tells 10 = .ok (.getfield 272, 3) := by decide +kernel
theorem dX6_tells_13 : decode cX6_tells 13 = .ok (.goto 31, 3) := by decide +kernel
theorem dX6_tells_16 : decode cX6_tells 16 = .ok (.iload_n 1, 1) := by decide +kernel
theorem dX6_tells_17 : decode cX6_tells 17 = .ok (.iconst 1, 1) := by decide +kernel
theorem dX6_tells_18 : decode cX6_tells 18 = .ok (.if_icmp .ne 10, 3) := by decide +kernel
theorem dX6_tells_21 : decode cX6_tells 21 = .ok (.aload_n 0, 1) := by decide +kernel
theorem dX6_tells_22 : decode cX6_tells 22 = .ok (.getfield 282, 3) := by decide +kernel
theorem dX6_tells_25 : decode cX6_tells 25 = .ok (.goto 19, 3) := by decide +kernel
theorem dX6_tells_28 : decode cX6_tells 28 = .ok (.iload_n 1, 1) := by decide +kernel
theorem dX6_tells_29 : decode cX6_tells 29 = .ok (.iconst 2, 1) := by decide +kernel
theorem dX6_tells_30 : decode cX6_tells 30 = .ok (.if_icmp .ne 10, 3) := by decide +kernel
theorem dX6_tells_33 : decode cX6_tells 33 = .ok (.aload_n 0, 1) := by decide +kernel
theorem dX6_tells_34 : decode cX6_tells 34 = .ok (.getfield 279, 3) := by decide +kernel
theorem dX6_tells_37 : decode cX6_tells 37 = .ok (.goto 7, 3) := by decide +kernel
theorem dX6_tells_40 : decode cX6_tells 40 = .ok (.aload_n 0, 1) := by decide +kernel
theorem dX6_tells_41 : decode cX6_tells 41 = .ok (.getfield 269, 3) := by decide +kernel
theorem dX6_tells_44 : decode cX6_tells 44 = .ok (.ireturn, 1) := by decide +kernel
theorem dX6_tells_45 : decode cX6_tells 45 = .ok (.iload_n 1, 1) := by decide +kernel
theorem dX6_tells_46 : decode cX6_tells 46 = .ok (.bipush 10, 2) := by decide +kernel
theorem dX6_tells_48 : decode cX6_tells 48 = .ok (.irem, 1) := by decide +kernel
theorem dX6_tells_49 : decode cX6_tells 49 = .ok (.istore_n 2, 1) := by decide +kernel
theorem dX6_tells_50 : decode cX6_tells 50 = .ok (.iload_n 1, 1) := by decide +kernel
theorem dX6_tells_51 : decode cX6_tells 51 = .ok (.bipush 20, 2) := by decide +kernel
theorem dX6_tells_53 : decode cX6_tells 53 = .ok (.if_icmp .ge 12, 3) := by decide +kernel
theorem dX6_tells_56 : decode cX6_tells 56 = .ok (.aload_n 0, 1) := by decide +kernel
theorem dX6_tells_57 : decode cX6_tells 57 = .ok (.getfield 44, 3) := by decide +kernel
theorem dX6_tells_60 : decode cX6_tells 60 = .ok (.iload_n 2, 1) := by decide +kernel
theorem dX6_tells_61 : decode cX6_tells 61 = .ok (.iaload, 1) := by decide +kernel
theorem dX6_tells_62 : decode cX6_tells 62 = .ok (.goto 24, 3) := by decide +kernel
theorem dX6_tells_65 : decode cX6_tells 65 = .ok (.iload_n 1, 1) := by decide +kernel
theorem dX6_tells_66 : decode cX6_tells 66 = .ok (.bipush 30, 2) := by decide +kernel
theorem dX6_tells_68 : decode cX6_tells 68 = .ok (.if_icmp .ge 12, 3) := by decide +kernel
theorem dX6_tells_71 : decode cX6_tells 71 = .ok (.aload_n 0, 1) := by decide +kernel
theorem dX6_tells_72 : decode cX6_tells 72 = .ok (.getfield 50, 3) := by decide +kernel
theorem dX6_tells_75 : decode cX6_tells 75 = .ok (.iload_n 2, 1) := by decide +kernel
theorem dX6_tells_76 : decode cX6_tells 76 = .ok (.iaload, 1) := by decide +kernel
theorem dX6_tells_77 : decode cX6_tells 77 = .ok (.goto 9, 3) := by decide +kernel
theorem dX6_tells_80 : decode cX6_tells 80 = .ok (.aload_n 0, 1) := by decide +kernel
theorem dX6_tells_81 : decode cX6_tells 81 = .ok (.getfield 47, 3) := by decide +kernel
theorem dX6_tells_84 : decode cX6_tells 84 = .ok (.iload_n 2, 1) := by decide +kernel
theorem dX6_tells_85 : decode cX6_tells 85 = .ok (.iaload, 1) := by decide +kernel
theorem dX6_tells_86 : decode cX6_tells 86 = .ok (.ireturn, 1) := by decide +kernel
theorem dX6_supper_0 : decode cX6_supper 0 = .ok (.iload_n 1, 1) := by decide +kernel
theorem dX6_supper_1 : decode cX6_supper 1 = .ok (.i2l, 1) := by decide +kernel
theorem dX6_supper_2 : decode cX6_supper 2 = .ok (.lconst 0, 1) := by decide +kernel
theorem dX6_supper_3 : decode cX6_supper 3 = .ok (.ldc2_w 299, 3) := by decide +kernel
theorem dX6_supper_6 : decode cX6_supper 6 = .ok (.invokestatic 94, 3) := by decide +kernel
theorem dX6_supper_9 : decode cX6_supper 9 = .ok (.ifCond .eq 31, 3) := by decide +kernel
theorem dX6_supper_12 : decode cX6_supper 12 = .ok (.iload_n 1, 1) := by decide +kernel
theorem dX6_supper_13 : decode cX6_supper 13 = .ok (.ifCond .ne 19, 3) := by decide +kernel
theorem dX6_supper_16 : decode cX6_supper 16 = .ok (.iload_n 2, 1) := by decide +kernel
theorem dX6_supper_17 : decode cX6_supper 17 = .ok (.invokestatic 303, 3) := by decide +kernel
theorem dX6_supper_20 : decode cX6_supper 20 = .ok (.ifCond .eq 20, 3) := by decide +kernel
theorem dX6_supper_23 : decode cX6_supper 23 = .ok (.aload_n 0, 1) := by decide +kernel
theorem dX6_supper_24 : decode cX6_supper 24 = .ok (.getfield 71, 3) := by decide +kernel
theorem dX6_supper_27 : decode cX6_supper 27 = .ok (.iload_n 2, 1) := by decide +kernel
theorem dX6_supper_28 : decode cX6_supper 28 = .ok (.baload, 1) := by decide +kernel
theorem dX6_supper_29 : decode cX6_supper 29 = .ok (.ifCond .eq 11, 3) := by decide +kernel
theorem dX6_supper_32 : decode cX6_supper 32 = .ok (.aload_n 0, 1) := by decide +kernel
theorem dX6_supper_33 : decode cX6_supper 33 = .ok (.iload_n 3, 1) := by decide +kernel
theorem dX6_supper_34 : decode cX6_supper 34 = .ok (.invokevirtual 306, 3) := by decide +kernel
theorem dX6_supper_37 : decode cX6_supper 37 = .ok (.ifCond .ne 7, 3) := by decide +kernel
theorem dX6_supper_40 : decode cX6_supper 40 = .ok (.ldc_w 309, 3) := by decide +kernel
theorem dX6_supper_43 : decode cX6_supper 43 = .ok (.ireturn, 1) := by decide +kernel
theorem dX6_supper_44 : decode cX6_supper 44 = .ok (.aload_n 0, 1) := by decide +kernel
theorem dX6_supper_45 : decode cX6_supper 45 = .ok (.iload_n 1, 1) := by decide +kernel
theorem dX6_supper_46 : decode cX6_supper 46 = .ok (.iload_n 2, 1) := by decide +kernel
theorem dX6_supper_47 : decode cX6_supper 47 = .ok (.invokevirtual 310, 3) := by decide +kernel
theorem dX6_supper_50 : decode cX6_supper 50 = .ok (.aload_n 0, 1) := by decide +kernel
theorem dX6_supper_51 : decode cX6_supper 51 = .ok (.iload_n 3, 1) := by decide +kernel
theorem dX6_supper_52 : decode cX6_supper 52 = .ok (.invokevirtual 313, 3) := by decide +kernel
theorem dX6_supper_55 : decode cX6_supper 55 = .ok (.ireturn, 1) := by decide +kernel
theorem dX6_heap_0 : decode cX6_heap 0 = .ok (.iload_n 1, 1) := by decide +kernel
theorem dX6_heap_1 : decode cX6_heap 1 = .ok (.i2l, 1) := by decide +kernel
theorem dX6_heap_2 : decode cX6_heap 2 = .ok (.lconst 1, 1) := by decide +kernel
theorem dX6_heap_3 : decode cX6_heap 3 = .ok (.ldc2_w 104, 3) := by decide +kernel
theorem dX6_heap_6 : decode cX6_heap 6 = .ok (.invokestatic 94, 3) := by decide +kernel
theorem dX6_heap_9 : decode cX6_heap 9 = .ok (.ifCond .eq 11, 3) := by decide +kernel
theorem dX6_heap_12 : decode cX6_heap 12 = .ok (.aload_n 0, 1) := by decide +kernel
theorem dX6_heap_13 : decode cX6_heap 13 = .ok (.iload_n 2, 1) := by decide +kernel
theorem dX6_heap_14 : decode cX6_heap 14 = .ok (.invokevirtual 306, 3) := by decide +kernel
theorem dX6_heap_17 : decode cX6_heap 17 = .ok (.ifCond .ne 7, 3) := by decide +kernel
theorem dX6_heap_20 : decode cX6_heap 20 = .ok (.ldc_w 309, 3) := by decide +kernel
theorem dX6_heap_23 : decode cX6_heap 23 = .ok (.ireturn, 1) := by decide +kernel
theorem dX6_heap_24 : decode cX6_heap 24 = .ok (.aload_n 0, 1) := by decide +kernel
theorem dX6_heap_25 : decode cX6_heap 25 = .ok (.iconst 5, 1) := by decide +kernel
theorem dX6_heap_26 : decode cX6_heap 26 = .ok (.iload_n 1, 1) := by decide +kernel
theorem dX6_heap_27 : decode cX6_heap 27 = .ok (.invokevirtual 310, 3) := by decide +kernel
theorem dX6_heap_30 : decode cX6_heap 30 = .ok (.aload_n 0, 1) := by decide +kernel
theorem dX6_heap_31 : decode cX6_heap 31 = .ok (.iload_n 2, 1) := by decide +kernel
theorem dX6_heap_32 : decode cX6_heap 32 = .ok (.invokevirtual 313, 3) := by decide +kernel
theorem dX6_heap_35 : decode cX6_heap 35 = .ok (.ireturn, 1) := by decide +kernel
theorem dX6_tries_0 : decode cX6_tries 0 = .ok (.iload_n 1, 1) := by decide +kernel
theorem dX6_tries_1 : decode cX6_tries 1 = .ok (.iload_n 2, 1) := by decide +kernel
theorem dX6_tries_2 : decode cX6_tries 2 = .ok (.if_icmp .ne 66, 3) := by decide +kernel
theorem dX6_tries_5 : decode cX6_tries 5 = .ok (.aload_n 0, 1) := by decide +kernel
theorem dX6_tries_6 : decode cX6_tries 6 = .ok (.iconst 4, 1) := by decide +kernel
theorem dX6_tries_7 : decode cX6_tries 7 = .ok (.iload_n 2, 1) := by decide +kernel
theorem dX6_tries_8 : decode cX6_tries 8 = .ok (.invokevirtual 310, 3) := by decide +kernel
theorem dX6_tries_11 : decode cX6_tries 11 = .ok (.aload_n 0, 1) := by decide +kernel
theorem dX6_tries_12 : decode cX6_tries 12 = .ok (.getfield 316, 3) := by decide +kernel
theorem dX6_tries_15 : decode cX6_tries 15 = .ok (.ifCond .eq 14, 3) := by decide +kernel
theorem dX6_tries_18 : decode cX6_tries 18 = .ok (.aload_n 0, 1) := by decide +kernel
theorem dX6_tries_19 : decode cX6_tries 19 = .ok (.getfield 272, 3) := by decide +kernel
theorem dX6_tries_22 : decode cX6_tries 22 = .ok (.aload_n 0, 1) := by decide +kernel
theorem dX6_tries_23 : decode cX6_tries 23 = .ok (.getfield 319, 3) := by decide +kernel
theorem dX6_tries_26 : decode cX6_tries 26 = .ok (.if_icmp .ge 41, 3) := by decide +kernel
theorem dX6_tries_29 : decode cX6_tries 29 = .ok (.aload_n 0, 1) := by decide +kernel
theorem dX6_tries_30 : decode cX6_tries 30 = .ok (.iconst 1, 1) := by decide +kernel
theorem dX6_tries_31 : decode cX6_tries 31 = .ok (.putfield 316, 3) := by decide +kernel
theorem dX6_tries_34 : decode cX6_tries 34 = .ok (.aload_n 0, 1) := by decide +kernel
theorem dX6_tries_35 : decode cX6_tries 35 = .ok (.aload_n 0, 1) := by decide +kernel
theorem dX6_tries_36 : decode cX6_tries 36 = .ok (.getfield 272, 3) := by decide +kernel
theorem dX6_tries_39 : decode cX6_tries 39 = .ok (.putfield 319, 3) := by decide +kernel
theorem dX6_tries_42 : decode cX6_tries 42 = .ok (.iconst 0, 1) := by decide +kernel
theorem dX6_tries_43 : decode cX6_tries 43 = .ok (.istore_n 3, 1) := by decide +kernel
theorem dX6_tries_44 : decode cX6_tries 44 = .ok (.iload_n 3, 1) := by decide +kernel
theorem dX6_tries_45 : decode cX6_tries 45 = .ok (.iload_n 2, 1) := by decide +kernel
theorem dX6_tries_46 : decode cX6_tries 46 = .ok (.if_icmp .ge 21, 3) := by decide +kernel
theorem dX6_tries_49 : decode cX6_tries 49 = .ok (.aload_n 0, 1) := by decide +kernel
theorem dX6_tries_50 : decode cX6_tries 50 = .ok (.getfield 62, 3) := by decide +kernel
theorem dX6_tries_53 : decode cX6_tries 53 = .ok (.iload_n 3, 1) := by decide +kernel
theorem dX6_tries_54 : decode cX6_tries 54 = .ok (.aload_n 0, 1) := by decide +kernel
theorem dX6_tries_55 : decode cX6_tries 55 = .ok (.getfield 59, 3) := by decide +kernel
theorem dX6_tries_58 : decode cX6_tries 58 = .ok (.iload_n 3, 1) := by decide +kernel
theorem dX6_tries_59 : decode cX6_tries 59 = .ok (.iaload, 1) := by decide +kernel
theorem dX6_tries_60 : decode cX6_tries 60 = .ok (.iastore, 1) := by decide +kernel
theorem dX6_tries_61 : decode cX6_tries 61 = .ok (.iinc 3 1, 3) := by decide +kernel
theorem dX6_tries_64 : decode cX6_tries 64 = .ok (.goto (-20), 3) := by decide +kernel
theorem dX6_tries_67 : decode cX6_tries 67 = .ok (.return_, 1) := by decide +kernel
theorem dX6_tries_68 : decode cX6_tries 68 = .ok (.iconst 0, 1) := by decide +kernel
theorem dX6_tries_69 : decode cX6_tries 69 = .ok (.istore_n 3, 1) := by decide +kernel
theorem dX6_tries_70 : decode cX6_tries 70 = .ok (.iload_n 3, 1) := by decide +kernel
theorem dX6_tries_71 : decode cX6_tries 71 = .ok (.aload_n 0, 1) := by decide +kernel
theorem dX6_tries_72 : decode cX6_tries 72 = .ok (.getfield 91, 3) := by decide +kernel
theorem dX6_tries_75 : decode cX6_tries 75 = .ok (.if_icmp .ge 24, 3) := by decide +kernel
theorem dX6_tries_78 : decode cX6_tries 78 = .ok (.aload_n 0, 1) := by decide +kernel
theorem dX6_tries_79 : decode cX6_tries 79 = .ok (.getfield 59, 3) := by decide +kernel
theorem dX6_tries_82 : decode cX6_tries 82 = .ok (.iload_n 1, 1) := by decide +kernel
theorem dX6_tries_83 : decode cX6_tries 83 = .ok (.iload_n 3, 1) := by decide +kernel
theorem dX6_tries_84 : decode cX6_tries 84 = .ok (.iastore, 1) := by decide +kernel
theorem dX6_tries_85 : decode cX6_tries 85 = .ok (.aload_n 0, 1) := by decide +kernel
theorem dX6_tries_86 : decode cX6_tries 86 = .ok (.iload_n 1, 1) := by decide +kernel
theorem dX6_tries_87 : decode cX6_tries 87 = .ok (.iconst 1, 1) := by decide +kernel
theorem dX6_tries_88 : decode cX6_tries 88 = .ok (.iadd, 1) := by decide +kernel
theorem dX6_tries_89 : decode cX6_tries 89 = .ok (.iload_n 2, 1) := by decide +kernel
theorem dX6_tries_90 : decode cX6_tries 90 = .ok (.invokevirtual 322, 3) := by decide +kernel
theorem dX6_tries_93 : decode cX6_tries 93 = .ok (.iinc 3 1, 3) := by decide +kernel
theorem dX6_tries_96 : decode cX6_tries 96 = .ok (.goto (-26), 3) := by decide +kernel
theorem dX6_tries_99 : decode cX6_tries 99 = .ok (.return_, 1) := by decide +kernel
theorem dX6_best_0 : decode cX6_best 0 = .ok (.iload_n 1, 1) := by decide +kernel
theorem dX6_best_1 : decode cX6_best 1 = .ok (.i2l, 1) := by decide +kernel
theorem dX6_best_2 : decode cX6_best 2 = .ok (.lconst 0, 1) := by decide +kernel
theorem dX6_best_3 : decode cX6_best 3 = .ok (.ldc2_w 98, 3) := by decide +kernel
theorem dX6_best_6 : decode cX6_best 6 = .ok (.invokestatic 94, 3) := by decide +kernel
theorem dX6_best_9 : decode cX6_best 9 = .ok (.ifCond .eq 36, 3) := by decide +kernel
theorem dX6_best_12 : decode cX6_best 12 = .ok (.iload_n 1, 1) := by decide +kernel
theorem dX6_best_13 : decode cX6_best 13 = .ok (.aload_n 0, 1) := by decide +kernel
theorem dX6_best_14 : decode cX6_best 14 = .ok (.getfield 23, 3) := by decide +kernel
theorem dX6_best_17 : decode cX6_best 17 = .ok (.if_icmp .gt 28, 3) := by decide +kernel
theorem dX6_best_20 : decode cX6_best 20 = .ok (.iload_n 2, 1) := by decide +kernel
theorem dX6_best_21 : decode cX6_best 21 = .ok (.iconst (-1), 1) := by decide +kernel
theorem dX6_best_22 : decode cX6_best 22 = .ok (.if_icmp .eq 16, 3) := by decide +kernel
theorem dX6_best_25 : decode cX6_best 25 = .ok (.iload_n 2, 1) := by decide +kernel
theorem dX6_best_26 : decode cX6_best 26 = .ok (.i2l, 1) := by decide +kernel
theorem dX6_best_27 : decode cX6_best 27 = .ok (.lconst 0, 1) := by decide +kernel
theorem dX6_best_28 : decode cX6_best 28 = .ok (.iload_n 1, 1) := by decide +kernel
theorem dX6_best_29 : decode cX6_best 29 = .ok (.iconst 1, 1) := by decide +kernel
theorem dX6_best_30 : decode cX6_best 30 = .ok (.isub, 1) := by decide +kernel
theorem dX6_best_31 : decode cX6_best 31 = .ok (.i2l, 1) := by decide +kernel
theorem dX6_best_32 : decode cX6_best 32 = .ok (.invokestatic 94, 3) := by decide +kernel
theorem dX6_best_35 : decode cX6_best 35 = .ok (.ifCond .eq 10, 3) := by decide +kernel
theorem dX6_best_38 : decode cX6_best 38 = .ok (.aload_n 0, 1) := by decide +kernel
theorem dX6_best_39 : decode cX6_best 39 = .ok (.getfield 91, 3) := by decide +kernel
theorem dX6_best_42 : decode cX6_best 42 = .ok (.ifCond .ne 7, 3) := by decide +kernel
theorem dX6_best_45 : decode cX6_best 45 = .ok (.ldc_w 309, 3) := by decide +kernel
theorem dX6_best_48 : decode cX6_best 48 = .ok (.ireturn, 1) := by decide +kernel
theorem dX6_best_49 : decode cX6_best 49 = .ok (.aload_n 0, 1) := by decide +kernel
theorem dX6_best_50 : decode cX6_best 50 = .ok (.iconst 0, 1) := by decide +kernel
theorem dX6_best_51 : decode cX6_best 51 = .ok (.putfield 316, 3) := by decide +kernel
theorem dX6_best_54 : decode cX6_best 54 = .ok (.aload_n 0, 1) := by decide +kernel
theorem dX6_best_55 : decode cX6_best 55 = .ok (.iconst 0, 1) := by decide +kernel
theorem dX6_best_56 : decode cX6_best 56 = .ok (.iload_n 1, 1) := by decide +kernel
theorem dX6_best_57 : decode cX6_best 57 = .ok (.invokevirtual 322, 3) := by decide +kernel
theorem dX6_best_60 : decode cX6_best 60 = .ok (.iload_n 2, 1) := by decide +kernel
theorem dX6_best_61 : decode cX6_best 61 = .ok (.iconst (-1), 1) := by decide +kernel
theorem dX6_best_62 : decode cX6_best 62 = .ok (.if_icmp .ne 10, 3) := by decide +kernel
theorem dX6_best_65 : decode cX6_best 65 = .ok (.aload_n 0, 1) := by decide +kernel
theorem dX6_best_66 : decode cX6_best 66 = .ok (.getfield 319, 3) := by decide +kernel
theorem dX6_best_69 : decode cX6_best 69 = .ok (.goto 9, 3) := by decide +kernel
theorem dX6_best_72 : decode cX6_best 72 = .ok (.aload_n 0, 1) := by decide +kernel
theorem dX6_best_73 : decode cX6_best 73 = .ok (.getfield 62, 3) := by decide +kernel
theorem dX6_best_76 : decode cX6_best 76 = .ok (.iload_n 2, 1) := by decide +kernel
theorem dX6_best_77 : decode cX6_best 77 = .ok (.iaload, 1) := by decide +kernel
theorem dX6_best_78 : decode cX6_best 78 = .ok (.ireturn, 1) := by decide +kernel
theorem dX6_keep_0 : decode cX6_keep 0 = .ok (.iload_n 1, 1) := by decide +kernel
theorem dX6_keep_1 : decode cX6_keep 1 = .ok (.i2l, 1) := by decide +kernel
theorem dX6_keep_2 : decode cX6_keep 2 = .ok (.lconst 0, 1) := by decide +kernel
theorem dX6_keep_3 : decode cX6_keep 3 = .ok (.lconst 1, 1) := by decide +kernel
theorem dX6_keep_4 : decode cX6_keep 4 = .ok (.invokestatic 94, 3) := by decide +kernel
theorem dX6_keep_7 : decode cX6_keep 7 = .ok (.ifCond .ne 7, 3) := by decide +kernel
theorem dX6_keep_10 : decode cX6_keep 10 = .ok (.ldc_w 309, 3) := by decide +kernel
theorem dX6_keep_13 : decode cX6_keep 13 = .ok (.ireturn, 1) := by decide +kernel
theorem dX6_keep_14 : decode cX6_keep 14 = .ok (.iconst (-1), 1) := by decide +kernel
theorem dX6_keep_15 : decode cX6_keep 15 = .ok (.istore_n 2, 1) := by decide +kernel
theorem dX6_keep_16 : decode cX6_keep 16 = .ok (.iconst 0, 1) := by decide +kernel
theorem dX6_keep_17 : decode cX6_keep 17 = .ok (.istore_n 3, 1) := by decide +kernel
theorem dX6_keep_18 : decode cX6_keep 18 = .ok (.iconst 1, 1) := by decide +kernel
theorem dX6_keep_19 : decode cX6_keep 19 = .ok (.istore 4, 2) := by decide +kernel
theorem dX6_keep_21 : decode cX6_keep 21 = .ok (.iload 4, 2) := by decide +kernel
theorem dX6_keep_23 : decode cX6_keep 23 = .ok (.bipush 12, 2) := by decide +kernel
theorem dX6_keep_25 : decode cX6_keep 25 = .ok (.if_icmp .gt 37, 3) := by decide +kernel
theorem dX6_keep_28 : decode cX6_keep 28 = .ok (.aload_n 0, 1) := by decide +kernel
theorem dX6_keep_29 : decode cX6_keep 29 = .ok (.iconst 5, 1) := by decide +kernel
theorem dX6_keep_30 : decode cX6_keep 30 = .ok (.iload 4, 2) := by decide +kernel
theorem dX6_keep_32 : decode cX6_keep 32 = .ok (.invokevirtual 310, 3) := by decide +kernel
theorem dX6_keep_35 : decode cX6_keep 35 = .ok (.iload_n 2, 1) := by decide +kernel
theorem dX6_keep_36 : decode cX6_keep 36 = .ok (.iconst (-1), 1) := by decide +kernel
theorem dX6_keep_37 : decode cX6_keep 37 = .ok (.if_icmp .eq 11, 3) := by decide +kernel
theorem dX6_keep_40 : decode cX6_keep 40 = .ok (.aload_n 0, 1) := by decide +kernel
theorem dX6_keep_41 : decode cX6_keep 41 = .ok (.getfield 272, 3) := by decide +kernel
theorem dX6_keep_44 : decode cX6_keep 44 = .ok (.iload_n 3, 1) := by decide +kernel
theorem dX6_keep_45 : decode cX6_keep 45 = .ok (.if_icmp .ge 11, 3) := by decide +kernel
theorem dX6_keep_48 : decode cX6_keep 48 = .ok (.iload 4, 2) := by decide +kernel
theorem dX6_keep_50 : decode cX6_keep 50 = .ok (.istore_n 2, 1) := by decide +kernel
theorem dX6_keep_51 : decode cX6_keep 51 = .ok (.aload_n 0, 1) := by decide +kernel
theorem dX6_keep_52 : decode cX6_keep 52 = .ok (.getfield 272, 3) := by decide +kernel
theorem dX6_keep_55 : decode cX6_keep 55 = .ok (.istore_n 3, 1) := by decide +kernel
theorem dX6_keep_56 : decode cX6_keep 56 = .ok (.iinc 4 1, 3) := by decide +kernel
theorem dX6_keep_59 : decode cX6_keep 59 = .ok (.goto (-38), 3) := by decide +kernel
theorem dX6_keep_62 : decode cX6_keep 62 = .ok (.iload_n 1, 1) := by decide +kernel
theorem dX6_keep_63 : decode cX6_keep 63 = .ok (.ifCond .ne 7, 3) := by decide +kernel
theorem dX6_keep_66 : decode cX6_keep 66 = .ok (.iload_n 2, 1) := by decide +kernel
theorem dX6_keep_67 : decode cX6_keep 67 = .ok (.goto 4, 3) := by decide +kernel
theorem dX6_keep_70 : decode cX6_keep 70 = .ok (.iload_n 3, 1) := by decide +kernel
theorem dX6_keep_71 : decode cX6_keep 71 = .ok (.ireturn, 1) := by decide +kernel
theorem dX6_second_0 : decode cX6_second 0 = .ok (.aload_n 0, 1) := by decide +kernel
theorem dX6_second_1 : decode cX6_second 1 = .ok (.getfield 26, 3) := by decide +kernel
theorem dX6_second_4 : decode cX6_second 4 = .ok (.istore_n 1, 1) := by decide +kernel
theorem dX6_second_5 : decode cX6_second 5 = .ok (.aload_n 0, 1) := by decide +kernel
theorem dX6_second_6 : decode cX6_second 6 = .ok (.iconst 1, 1) := by decide +kernel
theorem dX6_second_7 : decode cX6_second 7 = .ok (.putfield 26, 3) := by decide +kernel
theorem dX6_second_10 : decode cX6_second 10 = .ok (.aload_n 0, 1) := by decide +kernel
theorem dX6_second_11 : decode cX6_second 11 = .ok (.iconst 2, 1) := by decide +kernel
theorem dX6_second_12 : decode cX6_second 12 = .ok (.iconst 0, 1) := by decide +kernel
theorem dX6_second_13 : decode cX6_second 13 = .ok (.invokevirtual 310, 3) := by decide +kernel
theorem dX6_second_16 : decode cX6_second 16 = .ok (.aload_n 0, 1) := by decide +kernel
theorem dX6_second_17 : decode cX6_second 17 = .ok (.getfield 272, 3) := by decide +kernel
theorem dX6_second_20 : decode cX6_second 20 = .ok (.istore_n 2, 1) := by decide +kernel
theorem dX6_second_21 : decode cX6_second 21 = .ok (.aload_n 0, 1) := by decide +kernel
theorem dX6_second_22 : decode cX6_second 22 = .ok (.iconst 2, 1) := by decide +kernel
theorem dX6_second_23 : decode cX6_second 23 = .ok (.putfield 26, 3) := by decide +kernel
theorem dX6_second_26 : decode cX6_second 26 = .ok (.aload_n 0, 1) := by decide +kernel
theorem dX6_second_27 : decode cX6_second 27 = .ok (.iconst 2, 1) := by decide +kernel
theorem dX6_second_28 : decode cX6_second 28 = .ok (.iconst 0, 1) := by decide +kernel
theorem dX6_second_29 : decode cX6_second 29 = .ok (.invokevirtual 310, 3) := by decide +kernel
theorem dX6_second_32 : decode cX6_second 32 = .ok (.aload_n 0, 1) := by decide +kernel
theorem dX6_second_33 : decode cX6_second 33 = .ok (.iload_n 1, 1) := by decide +kernel
theorem dX6_second_34 : decode cX6_second 34 = .ok (.putfield 26, 3) := by decide +kernel
theorem dX6_second_37 : decode cX6_second 37 = .ok (.iload_n 2, 1) := by decide +kernel
theorem dX6_second_38 : decode cX6_second 38 = .ok (.aload_n 0, 1) := by decide +kernel
theorem dX6_second_39 : decode cX6_second 39 = .ok (.getfield 272, 3) := by decide +kernel
theorem dX6_second_42 : decode cX6_second 42 = .ok (.isub, 1) := by decide +kernel
theorem dX6_second_43 : decode cX6_second 43 = .ok (.ireturn, 1) := by decide +kernel
theorem dX6_leave_0 : decode cX6_leave 0 = .ok (.iconst (-1), 1) := by decide +kernel
theorem dX6_leave_1 : decode cX6_leave 1 = .ok (.istore_n 1, 1) := by decide +kernel
theorem dX6_leave_2 : decode cX6_leave 2 = .ok (.iconst 0, 1) := by decide +kernel
theorem dX6_leave_3 : decode cX6_leave 3 = .ok (.istore_n 2, 1) := by decide +kernel
theorem dX6_leave_4 : decode cX6_leave 4 = .ok (.iconst 0, 1) := by decide +kernel
theorem dX6_leave_5 : decode cX6_leave 5 = .ok (.istore_n 3, 1) := by decide +kernel
theorem dX6_leave_6 : decode cX6_leave 6 = .ok (.iload_n 3, 1) := by decide +kernel
theorem dX6_leave_7 : decode cX6_leave 7 = .ok (.aload_n 0, 1) := by decide +kernel
theorem dX6_leave_8 : decode cX6_leave 8 = .ok (.getfield 91, 3) := by decide +kernel
theorem dX6_leave_11 : decode cX6_leave 11 = .ok (.if_icmp .ge 45, 3) := by decide +kernel
theorem dX6_leave_14 : decode cX6_leave 14 = .ok (.aload_n 0, 1) := by decide +kernel
theorem dX6_leave_15 : decode cX6_leave 15 = .ok (.iload_n 3, 1) := by decide +kernel
theorem dX6_leave_16 : decode cX6_leave 16 = .ok (.putfield 41, 3) := by decide +kernel
theorem dX6_leave_19 : decode cX6_leave 19 = .ok (.aload_n 0, 1) := by decide +kernel
theorem dX6_leave_20 : decode cX6_leave 20 = .ok (.iconst 2, 1) := by decide +kernel
theorem dX6_leave_21 : decode cX6_leave 21 = .ok (.iconst 0, 1) := by decide +kernel
theorem dX6_leave_22 : decode cX6_leave 22 = .ok (.invokevirtual 310, 3) := by decide +kernel
theorem dX6_leave_25 : decode cX6_leave 25 = .ok (.aload_n 0, 1) := by decide +kernel
theorem dX6_leave_26 : decode cX6_leave 26 = .ok (.iconst (-1), 1) := by decide +kernel
theorem dX6_leave_27 : decode cX6_leave 27 = .ok (.putfield 41, 3) := by decide +kernel
theorem dX6_leave_30 : decode cX6_leave 30 = .ok (.iload_n 1, 1) := by decide +kernel
theorem dX6_leave_31 : decode cX6_leave 31 = .ok (.iconst (-1), 1) := by decide +kernel
theorem dX6_leave_32 : decode cX6_leave 32 = .ok (.if_icmp .eq 11, 3) := by decide +kernel
theorem dX6_leave_35 : decode cX6_leave 35 = .ok (.aload_n 0, 1) := by decide +kernel
theorem dX6_leave_36 : decode cX6_leave 36 = .ok (.getfield 272, 3) := by decide +kernel
theorem dX6_leave_39 : decode cX6_leave 39 = .ok (.iload_n 2, 1) := by decide +kernel
theorem dX6_leave_40 : decode cX6_leave 40 = .ok (.if_icmp .ge 10, 3) := by decide +kernel
theorem dX6_leave_43 : decode cX6_leave 43 = .ok (.iload_n 3, 1) := by decide +kernel
theorem dX6_leave_44 : decode cX6_leave 44 = .ok (.istore_n 1, 1) := by decide +kernel
theorem dX6_leave_45 : decode cX6_leave 45 = .ok (.aload_n 0, 1) := by decide +kernel
theorem dX6_leave_46 : decode cX6_leave 46 = .ok (.getfield 272, 3) := by decide +kernel
theorem dX6_leave_49 : decode cX6_leave 49 = .ok (.istore_n 2, 1) := by decide +kernel
theorem dX6_leave_50 : decode cX6_leave 50 = .ok (.iinc 3 1, 3) := by decide +kernel
theorem dX6_leave_53 : decode cX6_leave 53 = .ok (.goto (-47), 3) := by decide +kernel
theorem dX6_leave_56 : decode cX6_leave 56 = .ok (.iload_n 1, 1) := by decide +kernel
theorem dX6_leave_57 : decode cX6_leave 57 = .ok (.ireturn, 1) := by decide +kernel
theorem dX6_servedMany_0 : decode cX6_servedMany 0 = .ok (.iconst 0, 1) := by decide +kernel
theorem dX6_servedMany_1 : decode cX6_servedMany 1 = .ok (.istore_n 1, 1) := by decide +kernel
theorem dX6_servedMany_2 : decode cX6_servedMany 2 = .ok (.iconst 0, 1) := by decide +kernel
theorem dX6_servedMany_3 : decode cX6_servedMany 3 = .ok (.istore_n 2, 1) := by decide +kernel
theorem dX6_servedMany_4 : decode cX6_servedMany 4 = .ok (.iload_n 2, 1) := by decide +kernel
theorem dX6_servedMany_5 : decode cX6_servedMany 5 = .ok (.aload_n 0, 1) := by decide +kernel
theorem dX6_servedMany_6 : decode cX6_servedMany 6 = .ok (.getfield 23, 3) := by decide +kernel
theorem dX6_servedMany_9 : decode cX6_servedMany 9 = .ok (.if_icmp .ge 27, 3) := by decide +kernel
theorem dX6_servedMany_12 : decode cX6_servedMany 12 = .ok (.iload_n 1, 1) := by decide +kernel
theorem dX6_servedMany_13 : decode cX6_servedMany 13 = .ok (.aload_n 0, 1) := by decide +kernel
theorem dX6_servedMany_14 : decode cX6_servedMany 14 = .ok (.iload_n 2, 1) := by decide +kernel
theorem dX6_servedMany_15 : decode cX6_servedMany 15 = .ok (.invokevirtual 257, 3) := by decide +kernel
theorem dX6_servedMany_18 : decode cX6_servedMany 18 = .ok (.bipush 60, 2) := by decide +kernel
theorem dX6_servedMany_20 : decode cX6_servedMany 20 = .ok (.if_icmp .ge 7, 3) := by decide +kernel
theorem dX6_servedMany_23 : decode cX6_servedMany 23 = .ok (.iconst 1, 1) := by decide +kernel
theorem dX6_servedMany_24 : decode cX6_servedMany 24 = .ok (.goto 4, 3) := by decide +kernel
theorem dX6_servedMany_27 : decode cX6_servedMany 27 = .ok (.iconst 0, 1) := by decide +kernel
theorem dX6_servedMany_28 : decode cX6_servedMany 28 = .ok (.iadd, 1) := by decide +kernel
theorem dX6_servedMany_29 : decode cX6_servedMany 29 = .ok (.istore_n 1, 1) := by decide +kernel
theorem dX6_servedMany_30 : decode cX6_servedMany 30 = .ok (.iinc 2 1, 3) := by decide +kernel
theorem dX6_servedMany_33 : decode cX6_servedMany 33 = .ok (.goto (-29), 3) := by decide +kernel
theorem dX6_servedMany_36 : decode cX6_servedMany 36 = .ok (.iload_n 1, 1) := by decide +kernel
theorem dX6_servedMany_37 : decode cX6_servedMany 37 = .ok (.ireturn, 1) := by decide +kernel
theorem dX6_waysOf_0 : decode cX6_waysOf 0 = .ok (.lconst 1, 1) := by decide +kernel
theorem dX6_waysOf_1 : decode cX6_waysOf 1 = .ok (.lstore_n 1, 1) := by decide +kernel
theorem dX6_waysOf_2 : decode cX6_waysOf 2 = .ok (.iconst 2, 1) := by decide +kernel
theorem dX6_waysOf_3 : decode cX6_waysOf 3 = .ok (.istore_n 3, 1) := by decide +kernel
theorem dX6_waysOf_4 : decode cX6_waysOf 4 = .ok (.iload_n 3, 1) := by decide +kernel
theorem dX6_waysOf_5 : decode cX6_waysOf 5 = .ok (.iload_n 0, 1) := by decide +kernel
theorem dX6_waysOf_6 : decode cX6_waysOf 6 = .ok (.if_icmp .gt 14, 3) := by decide +kernel
theorem dX6_waysOf_9 : decode cX6_waysOf 9 = .ok (.lload_n 1, 1) := by decide +kernel
theorem dX6_waysOf_10 : decode cX6_waysOf 10 = .ok (.iload_n 3, 1) := by decide +kernel
theorem dX6_waysOf_11 : decode cX6_waysOf 11 = .ok (.i2l, 1) := by decide +kernel
theorem dX6_waysOf_12 : decode cX6_waysOf 12 = .ok (.lmul, 1) := by decide +kernel
theorem dX6_waysOf_13 : decode cX6_waysOf 13 = .ok (.lstore_n 1, 1) := by decide +kernel
theorem dX6_waysOf_14 : decode cX6_waysOf 14 = .ok (.iinc 3 1, 3) := by decide +kernel
theorem dX6_waysOf_17 : decode cX6_waysOf 17 = .ok (.goto (-13), 3) := by decide +kernel
theorem dX6_waysOf_20 : decode cX6_waysOf 20 = .ok (.lload_n 1, 1) := by decide +kernel
theorem dX6_waysOf_21 : decode cX6_waysOf 21 = .ok (.lreturn, 1) := by decide +kernel
theorem dX6_ordersOf_0 : decode cX6_ordersOf 0 = .ok (.aload_n 0, 1) := by decide +kernel
theorem dX6_ordersOf_1 : decode cX6_ordersOf 1 = .ok (.invokevirtual 325, 3) := by decide +kernel
theorem dX6_ordersOf_4 : decode cX6_ordersOf 4 = .ok (.istore_n 2, 1) := by decide +kernel
theorem dX6_ordersOf_5 : decode cX6_ordersOf 5 = .ok (.iload_n 2, 1) := by decide +kernel
theorem dX6_ordersOf_6 : decode cX6_ordersOf 6 = .ok (.invokestatic 328, 3) := by decide +kernel
theorem dX6_ordersOf_9 : decode cX6_ordersOf 9 = .ok (.lstore_n 3, 1) := by decide +kernel
theorem dX6_ordersOf_10 : decode cX6_ordersOf 10 = .ok (.iconst 0, 1) := by decide +kernel
theorem dX6_ordersOf_11 : decode cX6_ordersOf 11 = .ok (.istore 5, 2) := by decide +kernel
theorem dX6_ordersOf_13 : decode cX6_ordersOf 13 = .ok (.iload 5, 2) := by decide +kernel
theorem dX6_ordersOf_15 : decode cX6_ordersOf 15 = .ok (.aload_n 0, 1) := by decide +kernel
theorem dX6_ordersOf_16 : decode cX6_ordersOf 16 = .ok (.getfield 91, 3) := by decide +kernel
theorem dX6_ordersOf_19 : decode cX6_ordersOf 19 = .ok (.if_icmp .ge 50, 3) := by decide +kernel
theorem dX6_ordersOf_22 : decode cX6_ordersOf 22 = .ok (.aload_n 0, 1) := by decide +kernel
theorem dX6_ordersOf_23 : decode cX6_ordersOf 23 = .ok (.getfield 81, 3) := by decide +kernel
theorem dX6_ordersOf_26 : decode cX6_ordersOf 26 = .ok (.bipush 40, 2) := by decide +kernel
theorem dX6_ordersOf_28 : decode cX6_ordersOf 28 = .ok (.iload_n 1, 1) := by decide +kernel
theorem dX6_ordersOf_29 : decode cX6_ordersOf 29 = .ok (.imul, 1) := by decide +kernel
theorem dX6_ordersOf_30 : decode cX6_ordersOf 30 = .ok (.iload 5, 2) := by decide +kernel
theorem dX6_ordersOf_32 : decode cX6_ordersOf 32 = .ok (.iadd, 1) := by decide +kernel
theorem dX6_ordersOf_33 : decode cX6_ordersOf 33 = .ok (.iaload, 1) := by decide +kernel
theorem dX6_ordersOf_34 : decode cX6_ordersOf 34 = .ok (.istore 6, 2) := by decide +kernel
theorem dX6_ordersOf_36 : decode cX6_ordersOf 36 = .ok (.iload 6, 2) := by decide +kernel
theorem dX6_ordersOf_38 : decode cX6_ordersOf 38 = .ok (.i2l, 1) := by decide +kernel
theorem dX6_ordersOf_39 : decode cX6_ordersOf 39 = .ok (.lconst 0, 1) := by decide +kernel
theorem dX6_ordersOf_40 : decode cX6_ordersOf 40 = .ok (.iload_n 2, 1) := by decide +kernel
theorem dX6_ordersOf_41 : decode cX6_ordersOf 41 = .ok (.i2l, 1) := by decide +kernel
theorem dX6_ordersOf_42 : decode cX6_ordersOf 42 = .ok (.invokestatic 94, 3) := by decide +kernel
theorem dX6_ordersOf_45 : decode cX6_ordersOf 45 = .ok (.ifCond .ne 5, 3) := by decide +kernel
theorem dX6_ordersOf_48 : decode cX6_ordersOf 48 = .ok (.lconst 0, 1) := by decide +kernel
theorem dX6_ordersOf_49 : decode cX6_ordersOf 49 = .ok (.lreturn, 1) := by decide +kernel
theorem dX6_ordersOf_50 : decode cX6_ordersOf 50 = .ok (.lload_n 3, 1) := by decide +kernel
theorem dX6_ordersOf_51 : decode cX6_ordersOf 51 = .ok (.iload 6, 2) := by decide +kernel
theorem dX6_ordersOf_53 : decode cX6_ordersOf 53 = .ok (.invokestatic 328, 3) := by decide +kernel
theorem dX6_ordersOf_56 : decode cX6_ordersOf 56 = .ok (.ldiv, 1) := by decide +kernel
theorem dX6_ordersOf_57 : decode cX6_ordersOf 57 = .ok (.lstore_n 3, 1) := by decide +kernel
theorem dX6_ordersOf_58 : decode cX6_ordersOf 58 = .ok (.iload_n 2, 1) := by decide +kernel
theorem dX6_ordersOf_59 : decode cX6_ordersOf 59 = .ok (.iload 6, 2) := by decide +kernel
theorem dX6_ordersOf_61 : decode cX6_ordersOf 61 = .ok (.isub, 1) := by decide +kernel
theorem dX6_ordersOf_62 : decode cX6_ordersOf 62 = .ok (.istore_n 2, 1) := by decide +kernel
theorem dX6_ordersOf_63 : decode cX6_ordersOf 63 = .ok (.iinc 5 1, 3) := by decide +kernel
theorem dX6_ordersOf_66 : decode cX6_ordersOf 66 = .ok (.goto (-53), 3) := by decide +kernel
theorem dX6_ordersOf_69 : decode cX6_ordersOf 69 = .ok (.iload_n 2, 1) := by decide +kernel
theorem dX6_ordersOf_70 : decode cX6_ordersOf 70 = .ok (.ifCond .ne 7, 3) := by decide +kernel
theorem dX6_ordersOf_73 : decode cX6_ordersOf 73 = .ok (.lload_n 3, 1) := by decide +kernel
theorem dX6_ordersOf_74 : decode cX6_ordersOf 74 = .ok (.goto 4, 3) := by decide +kernel
theorem dX6_ordersOf_77 : decode cX6_ordersOf 77 = .ok (.lconst 0, 1) := by decide +kernel
theorem dX6_ordersOf_78 : decode cX6_ordersOf 78 = .ok (.lreturn, 1) := by decide +kernel
theorem dX6_plates_0 : decode cX6_plates 0 = .ok (.iload_n 1, 1) := by decide +kernel
theorem dX6_plates_1 : decode cX6_plates 1 = .ok (.invokestatic 303, 3) := by decide +kernel
theorem dX6_plates_4 : decode cX6_plates 4 = .ok (.ifCond .eq 35, 3) := by decide +kernel
theorem dX6_plates_7 : decode cX6_plates 7 = .ok (.iload_n 2, 1) := by decide +kernel
theorem dX6_plates_8 : decode cX6_plates 8 = .ok (.i2l, 1) := by decide +kernel
theorem dX6_plates_9 : decode cX6_plates 9 = .ok (.lconst 0, 1) := by decide +kernel
theorem dX6_plates_10 : decode cX6_plates 10 = .ok (.lconst 1, 1) := by decide +kernel
theorem dX6_plates_11 : decode cX6_plates 11 = .ok (.invokestatic 94, 3) := by decide +kernel
theorem dX6_plates_14 : decode cX6_plates 14 = .ok (.ifCond .eq 25, 3) := by decide +kernel
theorem dX6_plates_17 : decode cX6_plates 17 = .ok (.aload_n 0, 1) := by decide +kernel
theorem dX6_plates_18 : decode cX6_plates 18 = .ok (.getfield 71, 3) := by decide +kernel
theorem dX6_plates_21 : decode cX6_plates 21 = .ok (.iload_n 1, 1) := by decide +kernel
theorem dX6_plates_22 : decode cX6_plates 22 = .ok (.baload, 1) := by decide +kernel
theorem dX6_plates_23 : decode cX6_plates 23 = .ok (.ifCond .eq 16, 3) := by decide +kernel
theorem dX6_plates_26 : decode cX6_plates 26 = .ok (.aload_n 0, 1) := by decide +kernel
theorem dX6_plates_27 : decode cX6_plates 27 = .ok (.getfield 78, 3) := by decide +kernel
theorem dX6_plates_30 : decode cX6_plates 30 = .ok (.iload_n 1, 1) := by decide +kernel
theorem dX6_plates_31 : decode cX6_plates 31 = .ok (.iaload, 1) := by decide +kernel
theorem dX6_plates_32 : decode cX6_plates 32 = .ok (.aload_n 0, 1) := by decide +kernel
theorem dX6_plates_33 : decode cX6_plates 33 = .ok (.getfield 91, 3) := by decide +kernel
theorem dX6_plates_36 : decode cX6_plates 36 = .ok (.if_icmp .eq 7, 3) := by decide +kernel
theorem dX6_plates_39 : decode cX6_plates 39 = .ok (.ldc2_w 332, 3) := by decide +kernel
theorem dX6_plates_42 : decode cX6_plates 42 = .ok (.lreturn, 1) := by decide +kernel
theorem dX6_plates_43 : decode cX6_plates 43 = .ok (.iload_n 2, 1) := by decide +kernel
theorem dX6_plates_44 : decode cX6_plates 44 = .ok (.iconst 1, 1) := by decide +kernel
theorem dX6_plates_45 : decode cX6_plates 45 = .ok (.if_icmp .ne 9, 3) := by decide +kernel
theorem dX6_plates_48 : decode cX6_plates 48 = .ok (.aload_n 0, 1) := by decide +kernel
theorem dX6_plates_49 : decode cX6_plates 49 = .ok (.iload_n 1, 1) := by decide +kernel
theorem dX6_plates_50 : decode cX6_plates 50 = .ok (.invokevirtual 334, 3) := by decide +kernel
theorem dX6_plates_53 : decode cX6_plates 53 = .ok (.lreturn, 1) := by decide +kernel
theorem dX6_plates_54 : decode cX6_plates 54 = .ok (.lconst 0, 1) := by decide +kernel
theorem dX6_plates_55 : decode cX6_plates 55 = .ok (.lstore_n 3, 1) := by decide +kernel
theorem dX6_plates_56 : decode cX6_plates 56 = .ok (.iconst 1, 1) := by decide +kernel
theorem dX6_plates_57 : decode cX6_plates 57 = .ok (.istore 5, 2) := by decide +kernel
theorem dX6_plates_59 : decode cX6_plates 59 = .ok (.iload 5, 2) := by decide +kernel
theorem dX6_plates_61 : decode cX6_plates 61 = .ok (.iconst 3, 1) := by decide +kernel
theorem dX6_plates_62 : decode cX6_plates 62 = .ok (.if_icmp .gt 87, 3) := by decide +kernel
theorem dX6_plates_65 : decode cX6_plates 65 = .ok (.aload_n 0, 1) := by decide +kernel
theorem dX6_plates_66 : decode cX6_plates 66 = .ok (.iload 5, 2) := by decide +kernel
theorem dX6_plates_68 : decode cX6_plates 68 = .ok (.iconst 0, 1) := by decide +kernel
theorem dX6_plates_69 : decode cX6_plates 69 = .ok (.invokevirtual 310, 3) := by decide +kernel
theorem dX6_plates_72 : decode cX6_plates 72 = .ok (.iconst 1, 1) := by decide +kernel
theorem dX6_plates_73 : decode cX6_plates 73 = .ok (.istore 6, 2) := by decide +kernel
theorem dX6_plates_75 : decode cX6_plates 75 = .ok (.iconst 0, 1) := by decide +kernel
theorem dX6_plates_76 : decode cX6_plates 76 = .ok (.istore 7, 2) := by decide +kernel
theorem dX6_plates_78 : decode cX6_plates 78 = .ok (.iload 7, 2) := by decide +kernel
theorem dX6_plates_80 : decode cX6_plates 80 = .ok (.aload_n 0, 1) := by decide +kernel
theorem dX6_plates_81 : decode cX6_plates 81 = .ok (.getfield 91, 3) := by decide +kernel
theorem dX6_plates_84 : decode cX6_plates 84 = .ok (.if_icmp .ge 43, 3) := by decide +kernel
theorem dX6_plates_87 : decode cX6_plates 87 = .ok (.iload 6, 2) := by decide +kernel
theorem dX6_plates_89 : decode cX6_plates 89 = .ok (.ifCond .eq 29, 3) := by decide +kernel
theorem dX6_plates_92 : decode cX6_plates 92 = .ok (.aload_n 0, 1) := by decide +kernel
theorem dX6_plates_93 : decode cX6_plates 93 = .ok (.getfield 44, 3) := by decide +kernel
theorem dX6_plates_96 : decode cX6_plates 96 = .ok (.iload 7, 2) := by decide +kernel
theorem dX6_plates_98 : decode cX6_plates 98 = .ok (.iaload, 1) := by decide +kernel
theorem dX6_plates_99 : decode cX6_plates 99 = .ok (.aload_n 0, 1) := by decide +kernel
theorem dX6_plates_100 : decode cX6_plates 100 = .ok (.getfield 81, 3) := by decide +kernel
theorem dX6_plates_103 : decode cX6_plates 103 = .ok (.bipush 40, 2) := by decide +kernel
theorem dX6_plates_105 : decode cX6_plates 105 = .ok (.iload_n 1, 1) := by decide +kernel
theorem dX6_plates_106 : decode cX6_plates 106 = .ok (.imul, 1) := by decide +kernel
theorem dX6_plates_107 : decode cX6_plates 107 = .ok (.iload 7, 2) := by decide +kernel
theorem dX6_plates_109 : decode cX6_plates 109 = .ok (.iadd, 1) := by decide +kernel
theorem dX6_plates_110 : decode cX6_plates 110 = .ok (.iaload, 1) := by decide +kernel
theorem dX6_plates_111 : decode cX6_plates 111 = .ok (.if_icmp .ne 7, 3) := by decide +kernel
theorem dX6_plates_114 : decode cX6_plates 114 = .ok (.iconst 1, 1) := by decide +kernel
theorem dX6_plates_115 : decode cX6_plates 115 = .ok (.goto 4, 3) := by decide +kernel
theorem dX6_plates_118 : decode cX6_plates 118 = .ok (.iconst 0, 1) := by decide +kernel
theorem dX6_plates_119 : decode cX6_plates 119 = .ok (.istore 6, 2) := by decide +kernel
theorem dX6_plates_121 : decode cX6_plates 121 = .ok (.iinc 7 1, 3) := by decide +kernel
theorem dX6_plates_124 : decode cX6_plates 124 = .ok (.goto (-46), 3) := by decide +kernel
theorem dX6_plates_127 : decode cX6_plates 127 = .ok (.lload_n 3, 1) := by decide +kernel
theorem dX6_plates_128 : decode cX6_plates 128 = .ok (.iload 6, 2) := by decide +kernel
theorem dX6_plates_130 : decode cX6_plates 130 = .ok (.ifCond .eq 7, 3) := by decide +kernel
theorem dX6_plates_133 : decode cX6_plates 133 = .ok (.lconst 1, 1) := by decide +kernel
theorem dX6_plates_134 : decode cX6_plates 134 = .ok (.goto 4, 3) := by decide +kernel
theorem dX6_plates_137 : decode cX6_plates 137 = .ok (.lconst 0, 1) := by decide +kernel
theorem dX6_plates_138 : decode cX6_plates 138 = .ok (.iload 5, 2) := by decide +kernel
theorem dX6_plates_140 : decode cX6_plates 140 = .ok (.lshl, 1) := by decide +kernel
theorem dX6_plates_141 : decode cX6_plates 141 = .ok (.lor, 1) := by decide +kernel
theorem dX6_plates_142 : decode cX6_plates 142 = .ok (.lstore_n 3, 1) := by decide +kernel
theorem dX6_plates_143 : decode cX6_plates 143 = .ok (.iinc 5 1, 3) := by decide +kernel
theorem dX6_plates_146 : decode cX6_plates 146 = .ok (.goto (-87), 3) := by decide +kernel
theorem dX6_plates_149 : decode cX6_plates 149 = .ok (.lload_n 3, 1) := by decide +kernel
theorem dX6_plates_150 : decode cX6_plates 150 = .ok (.lreturn, 1) := by decide +kernel
theorem dX6_isEatenSo_0 : decode cX6_isEatenSo 0 = .ok (.aload_n 0, 1) := by decide +kernel
theorem dX6_isEatenSo_1 : decode cX6_isEatenSo 1 = .ok (.getfield 47, 3) := by decide +kernel
theorem dX6_isEatenSo_4 : decode cX6_isEatenSo 4 = .ok (.iload_n 2, 1) := by decide +kernel
theorem dX6_isEatenSo_5 : decode cX6_isEatenSo 5 = .ok (.iaload, 1) := by decide +kernel
theorem dX6_isEatenSo_6 : decode cX6_isEatenSo 6 = .ok (.bipush 60, 2) := by decide +kernel
theorem dX6_isEatenSo_8 : decode cX6_isEatenSo 8 = .ok (.if_icmp .lt 8, 3) := by decide +kernel
theorem dX6_isEatenSo_11 : decode cX6_isEatenSo 11 = .ok (.bipush 60, 2) := by decide +kernel
theorem dX6_isEatenSo_13 : decode cX6_isEatenSo 13 = .ok (.goto 9, 3) := by decide +kernel
theorem dX6_isEatenSo_16 : decode cX6_isEatenSo 16 = .ok (.aload_n 0, 1) := by decide +kernel
theorem dX6_isEatenSo_17 : decode cX6_isEatenSo 17 = .ok (.getfield 47, 3) := by decide +kernel
theorem dX6_isEatenSo_20 : decode cX6_isEatenSo 20 = .ok (.iload_n 2, 1) := by decide +kernel
theorem dX6_isEatenSo_21 : decode cX6_isEatenSo 21 = .ok (.iaload, 1) := by decide +kernel
theorem dX6_isEatenSo_22 : decode cX6_isEatenSo 22 = .ok (.istore_n 3, 1) := by decide +kernel
theorem dX6_isEatenSo_23 : decode cX6_isEatenSo 23 = .ok (.iload_n 3, 1) := by decide +kernel
theorem dX6_isEatenSo_24 : decode cX6_isEatenSo 24 = .ok (.aload_n 0, 1) := by decide +kernel
theorem dX6_isEatenSo_25 : decode cX6_isEatenSo 25 = .ok (.getfield 81, 3) := by decide +kernel
theorem dX6_isEatenSo_28 : decode cX6_isEatenSo 28 = .ok (.bipush 40, 2) := by decide +kernel
theorem dX6_isEatenSo_30 : decode cX6_isEatenSo 30 = .ok (.iload_n 1, 1) := by decide +kernel
theorem dX6_isEatenSo_31 : decode cX6_isEatenSo 31 = .ok (.imul, 1) := by decide +kernel
theorem dX6_isEatenSo_32 : decode cX6_isEatenSo 32 = .ok (.iload_n 2, 1) := by decide +kernel
theorem dX6_isEatenSo_33 : decode cX6_isEatenSo 33 = .ok (.iadd, 1) := by decide +kernel
theorem dX6_isEatenSo_34 : decode cX6_isEatenSo 34 = .ok (.iaload, 1) := by decide +kernel
theorem dX6_isEatenSo_35 : decode cX6_isEatenSo 35 = .ok (.if_icmp .ne 7, 3) := by decide +kernel
theorem dX6_isEatenSo_38 : decode cX6_isEatenSo 38 = .ok (.iconst 1, 1) := by decide +kernel
theorem dX6_isEatenSo_39 : decode cX6_isEatenSo 39 = .ok (.goto 4, 3) := by decide +kernel
theorem dX6_isEatenSo_42 : decode cX6_isEatenSo 42 = .ok (.iconst 0, 1) := by decide +kernel
theorem dX6_isEatenSo_43 : decode cX6_isEatenSo 43 = .ok (.ireturn, 1) := by decide +kernel
theorem dX6_eaten_0 : decode cX6_eaten 0 = .ok (.iload_n 1, 1) := by decide +kernel
theorem dX6_eaten_1 : decode cX6_eaten 1 = .ok (.invokestatic 303, 3) := by decide +kernel
theorem dX6_eaten_4 : decode cX6_eaten 4 = .ok (.ifCond .eq 16, 3) := by decide +kernel
theorem dX6_eaten_7 : decode cX6_eaten 7 = .ok (.iload_n 2, 1) := by decide +kernel
theorem dX6_eaten_8 : decode cX6_eaten 8 = .ok (.iconst (-1), 1) := by decide +kernel
theorem dX6_eaten_9 : decode cX6_eaten 9 = .ok (.if_icmp .eq 14, 3) := by decide +kernel
theorem dX6_eaten_12 : decode cX6_eaten 12 = .ok (.aload_n 0, 1) := by decide +kernel
theorem dX6_eaten_13 : decode cX6_eaten 13 = .ok (.iload_n 2, 1) := by decide +kernel
theorem dX6_eaten_14 : decode cX6_eaten 14 = .ok (.invokevirtual 100, 3) := by decide +kernel
theorem dX6_eaten_17 : decode cX6_eaten 17 = .ok (.ifCond .ne 6, 3) := by decide +kernel
theorem dX6_eaten_20 : decode cX6_eaten 20 = .ok (.bipush (-2), 2) := by decide +kernel
theorem dX6_eaten_22 : decode cX6_eaten 22 = .ok (.ireturn, 1) := by decide +kernel
theorem dX6_eaten_23 : decode cX6_eaten 23 = .ok (.aload_n 0, 1) := by decide +kernel
theorem dX6_eaten_24 : decode cX6_eaten 24 = .ok (.getfield 71, 3) := by decide +kernel
theorem dX6_eaten_27 : decode cX6_eaten 27 = .ok (.iload_n 1, 1) := by decide +kernel
theorem dX6_eaten_28 : decode cX6_eaten 28 = .ok (.baload, 1) := by decide +kernel
theorem dX6_eaten_29 : decode cX6_eaten 29 = .ok (.ifCond .ne 6, 3) := by decide +kernel
theorem dX6_eaten_32 : decode cX6_eaten 32 = .ok (.bipush (-11), 2) := by decide +kernel
theorem dX6_eaten_34 : decode cX6_eaten 34 = .ok (.ireturn, 1) := by decide +kernel
theorem dX6_eaten_35 : decode cX6_eaten 35 = .ok (.aload_n 0, 1) := by decide +kernel
theorem dX6_eaten_36 : decode cX6_eaten 36 = .ok (.getfield 78, 3) := by decide +kernel
theorem dX6_eaten_39 : decode cX6_eaten 39 = .ok (.iload_n 1, 1) := by decide +kernel
theorem dX6_eaten_40 : decode cX6_eaten 40 = .ok (.iaload, 1) := by decide +kernel
theorem dX6_eaten_41 : decode cX6_eaten 41 = .ok (.aload_n 0, 1) := by decide +kernel
theorem dX6_eaten_42 : decode cX6_eaten 42 = .ok (.getfield 91, 3) := by decide +kernel
theorem dX6_eaten_45 : decode cX6_eaten 45 = .ok (.if_icmp .eq 6, 3) := by decide +kernel
theorem dX6_eaten_48 : decode cX6_eaten 48 = .ok (.bipush (-2), 2) := by decide +kernel
theorem dX6_eaten_50 : decode cX6_eaten 50 = .ok (.ireturn, 1) := by decide +kernel
theorem dX6_eaten_51 : decode cX6_eaten 51 = .ok (.iconst 0, 1) := by decide +kernel
theorem dX6_eaten_52 : decode cX6_eaten 52 = .ok (.istore_n 3, 1) := by decide +kernel
theorem dX6_eaten_53 : decode cX6_eaten 53 = .ok (.iload_n 2, 1) := by decide +kernel
theorem dX6_eaten_54 : decode cX6_eaten 54 = .ok (.iconst (-1), 1) := by decide +kernel
theorem dX6_eaten_55 : decode cX6_eaten 55 = .ok (.if_icmp .ne 50, 3) := by decide +kernel
theorem dX6_eaten_58 : decode cX6_eaten 58 = .ok (.aload_n 0, 1) := by decide +kernel
theorem dX6_eaten_59 : decode cX6_eaten 59 = .ok (.iconst 1, 1) := by decide +kernel
theorem dX6_eaten_60 : decode cX6_eaten 60 = .ok (.iconst 0, 1) := by decide +kernel
theorem dX6_eaten_61 : decode cX6_eaten 61 = .ok (.invokevirtual 310, 3) := by decide +kernel
theorem dX6_eaten_64 : decode cX6_eaten 64 = .ok (.iconst 0, 1) := by decide +kernel
theorem dX6_eaten_65 : decode cX6_eaten 65 = .ok (.istore 4, 2) := by decide +kernel
theorem dX6_eaten_67 : decode cX6_eaten 67 = .ok (.iload 4, 2) := by decide +kernel
theorem dX6_eaten_69 : decode cX6_eaten 69 = .ok (.aload_n 0, 1) := by decide +kernel
theorem dX6_eaten_70 : decode cX6_eaten 70 = .ok (.getfield 91, 3) := by decide +kernel
theorem dX6_eaten_73 : decode cX6_eaten 73 = .ok (.if_icmp .ge 30, 3) := by decide +kernel
theorem dX6_eaten_76 : decode cX6_eaten 76 = .ok (.iload_n 3, 1) := by decide +kernel
theorem dX6_eaten_77 : decode cX6_eaten 77 = .ok (.aload_n 0, 1) := by decide +kernel
theorem dX6_eaten_78 : decode cX6_eaten 78 = .ok (.iload_n 1, 1) := by decide +kernel
theorem dX6_eaten_79 : decode cX6_eaten 79 = .ok (.iload 4, 2) := by decide +kernel
theorem dX6_eaten_81 : decode cX6_eaten 81 = .ok (.invokevirtual 337, 3) := by decide +kernel
theorem dX6_eaten_84 : decode cX6_eaten 84 = .ok (.ifCond .eq 7, 3) := by decide +kernel
theorem dX6_eaten_87 : decode cX6_eaten 87 = .ok (.iconst 0, 1) := by decide +kernel
theorem dX6_eaten_88 : decode cX6_eaten 88 = .ok (.goto 4, 3) := by decide +kernel
theorem dX6_eaten_91 : decode cX6_eaten 91 = .ok (.iconst 1, 1) := by decide +kernel
theorem dX6_eaten_92 : decode cX6_eaten 92 = .ok (.iload 4, 2) := by decide +kernel
theorem dX6_eaten_94 : decode cX6_eaten 94 = .ok (.ishl, 1) := by decide +kernel
theorem dX6_eaten_95 : decode cX6_eaten 95 = .ok (.ior, 1) := by decide +kernel
theorem dX6_eaten_96 : decode cX6_eaten 96 = .ok (.istore_n 3, 1) := by decide +kernel
theorem dX6_eaten_97 : decode cX6_eaten 97 = .ok (.iinc 4 1, 3) := by decide +kernel
theorem dX6_eaten_100 : decode cX6_eaten 100 = .ok (.goto (-33), 3) := by decide +kernel
theorem dX6_eaten_103 : decode cX6_eaten 103 = .ok (.iload_n 3, 1) := by decide +kernel
theorem dX6_eaten_104 : decode cX6_eaten 104 = .ok (.ireturn, 1) := by decide +kernel
theorem dX6_eaten_105 : decode cX6_eaten 105 = .ok (.aload_n 0, 1) := by decide +kernel
theorem dX6_eaten_106 : decode cX6_eaten 106 = .ok (.getfield 38, 3) := by decide +kernel
theorem dX6_eaten_109 : decode cX6_eaten 109 = .ok (.iload_n 2, 1) := by decide +kernel
theorem dX6_eaten_110 : decode cX6_eaten 110 = .ok (.iaload, 1) := by decide +kernel
theorem dX6_eaten_111 : decode cX6_eaten 111 = .ok (.istore 4, 2) := by decide +kernel
theorem dX6_eaten_113 : decode cX6_eaten 113 = .ok (.iconst 1, 1) := by decide +kernel
theorem dX6_eaten_114 : decode cX6_eaten 114 = .ok (.istore 5, 2) := by decide +kernel
theorem dX6_eaten_116 : decode cX6_eaten 116 = .ok (.iload 5, 2) := by decide +kernel
theorem dX6_eaten_118 : decode cX6_eaten 118 = .ok (.bipush 20, 2) := by decide +kernel
theorem dX6_eaten_120 : decode cX6_eaten 120 = .ok (.if_icmp .gt 43, 3) := by decide +kernel
theorem dX6_eaten_123 : decode cX6_eaten 123 = .ok (.aload_n 0, 1) := by decide +kernel
theorem dX6_eaten_124 : decode cX6_eaten 124 = .ok (.getfield 38, 3) := by decide +kernel
theorem dX6_eaten_127 : decode cX6_eaten 127 = .ok (.iload_n 2, 1) := by decide +kernel
theorem dX6_eaten_128 : decode cX6_eaten 128 = .ok (.iload 5, 2) := by decide +kernel
theorem dX6_eaten_130 : decode cX6_eaten 130 = .ok (.iastore, 1) := by decide +kernel
theorem dX6_eaten_131 : decode cX6_eaten 131 = .ok (.aload_n 0, 1) := by decide +kernel
theorem dX6_eaten_132 : decode cX6_eaten 132 = .ok (.iconst 1, 1) := by decide +kernel
theorem dX6_eaten_133 : decode cX6_eaten 133 = .ok (.iconst 0, 1) := by decide +kernel
theorem dX6_eaten_134 : decode cX6_eaten 134 = .ok (.invokevirtual 310, 3) := by decide +kernel
theorem dX6_eaten_137 : decode cX6_eaten 137 = .ok (.iload_n 3, 1) := by decide +kernel
theorem dX6_eaten_138 : decode cX6_eaten 138 = .ok (.aload_n 0, 1) := by decide +kernel
theorem dX6_eaten_139 : decode cX6_eaten 139 = .ok (.iload_n 1, 1) := by decide +kernel
theorem dX6_eaten_140 : decode cX6_eaten 140 = .ok (.iload_n 2, 1) := by decide +kernel
theorem dX6_eaten_141 : decode cX6_eaten 141 = .ok (.invokevirtual 337, 3) := by decide +kernel
theorem dX6_eaten_144 : decode cX6_eaten 144 = .ok (.ifCond .eq 7, 3) := by decide +kernel
theorem dX6_eaten_147 : decode cX6_eaten 147 = .ok (.iconst 1, 1) := by decide +kernel
theorem dX6_eaten_148 : decode cX6_eaten 148 = .ok (.goto 4, 3) := by decide +kernel
theorem dX6_eaten_151 : decode cX6_eaten 151 = .ok (.iconst 0, 1) := by decide +kernel
theorem dX6_eaten_152 : decode cX6_eaten 152 = .ok (.iload 5, 2) := by decide +kernel
theorem dX6_eaten_154 : decode cX6_eaten 154 = .ok (.ishl, 1) := by decide +kernel
theorem dX6_eaten_155 : decode cX6_eaten 155 = .ok (.ior, 1) := by decide +kernel
theorem dX6_eaten_156 : decode cX6_eaten 156 = .ok (.istore_n 3, 1) := by decide +kernel
theorem dX6_eaten_157 : decode cX6_eaten 157 = .ok (.iinc 5 1, 3) := by decide +kernel
theorem dX6_eaten_160 : decode cX6_eaten 160 = .ok (.goto (-44), 3) := by decide +kernel
theorem dX6_eaten_163 : decode cX6_eaten 163 = .ok (.aload_n 0, 1) := by decide +kernel
theorem dX6_eaten_164 : decode cX6_eaten 164 = .ok (.getfield 38, 3) := by decide +kernel
theorem dX6_eaten_167 : decode cX6_eaten 167 = .ok (.iload_n 2, 1) := by decide +kernel
theorem dX6_eaten_168 : decode cX6_eaten 168 = .ok (.iload 4, 2) := by decide +kernel
theorem dX6_eaten_170 : decode cX6_eaten 170 = .ok (.iastore, 1) := by decide +kernel
theorem dX6_eaten_171 : decode cX6_eaten 171 = .ok (.iload_n 3, 1) := by decide +kernel
theorem dX6_eaten_172 : decode cX6_eaten 172 = .ok (.ireturn, 1) := by decide +kernel
theorem dX6_film_0 : decode cX6_film 0 = .ok (.iload_n 1, 1) := by decide +kernel
theorem dX6_film_1 : decode cX6_film 1 = .ok (.invokestatic 303, 3) := by decide +kernel
theorem dX6_film_4 : decode cX6_film 4 = .ok (.ifCond .eq 15, 3) := by decide +kernel
theorem dX6_film_7 : decode cX6_film 7 = .ok (.iload_n 2, 1) := by decide +kernel
theorem dX6_film_8 : decode cX6_film 8 = .ok (.i2l, 1) := by decide +kernel
theorem dX6_film_9 : decode cX6_film 9 = .ok (.lconst 1, 1) := by decide +kernel
theorem dX6_film_10 : decode cX6_film 10 = .ok (.ldc2_w 299, 3) := by decide +kernel
theorem dX6_film_13 : decode cX6_film 13 = .ok (.invokestatic 94, 3) := by decide +kernel
theorem dX6_film_16 : decode cX6_film 16 = .ok (.ifCond .ne 6, 3) := by decide +kernel
theorem dX6_film_19 : decode cX6_film 19 = .ok (.bipush (-2), 2) := by decide +kernel
theorem dX6_film_21 : decode cX6_film 21 = .ok (.ireturn, 1) := by decide +kernel
theorem dX6_film_22 : decode cX6_film 22 = .ok (.aload_n 0, 1) := by decide +kernel
theorem dX6_film_23 : decode cX6_film 23 = .ok (.iload_n 2, 1) := by decide +kernel
theorem dX6_film_24 : decode cX6_film 24 = .ok (.iconst 0, 1) := by decide +kernel
theorem dX6_film_25 : decode cX6_film 25 = .ok (.invokevirtual 310, 3) := by decide +kernel
theorem dX6_film_28 : decode cX6_film 28 = .ok (.aload_n 0, 1) := by decide +kernel
theorem dX6_film_29 : decode cX6_film 29 = .ok (.iload_n 1, 1) := by decide +kernel
theorem dX6_film_30 : decode cX6_film 30 = .ok (.iconst 0, 1) := by decide +kernel
theorem dX6_film_31 : decode cX6_film 31 = .ok (.aload_n 0, 1) := by decide +kernel
theorem dX6_film_32 : decode cX6_film 32 = .ok (.getfield 91, 3) := by decide +kernel
theorem dX6_film_35 : decode cX6_film 35 = .ok (.invokevirtual 340, 3) := by decide +kernel
theorem dX6_film_38 : decode cX6_film 38 = .ok (.pop, 1) := by decide +kernel
theorem dX6_film_39 : decode cX6_film 39 = .ok (.iconst 0, 1) := by decide +kernel
theorem dX6_film_40 : decode cX6_film 40 = .ok (.istore_n 3, 1) := by decide +kernel
theorem dX6_film_41 : decode cX6_film 41 = .ok (.iload_n 3, 1) := by decide +kernel
theorem dX6_film_42 : decode cX6_film 42 = .ok (.aload_n 0, 1) := by decide +kernel
theorem dX6_film_43 : decode cX6_film 43 = .ok (.getfield 91, 3) := by decide +kernel
theorem dX6_film_46 : decode cX6_film 46 = .ok (.if_icmp .ge 26, 3) := by decide +kernel
theorem dX6_film_49 : decode cX6_film 49 = .ok (.aload_n 0, 1) := by decide +kernel
theorem dX6_film_50 : decode cX6_film 50 = .ok (.getfield 81, 3) := by decide +kernel
theorem dX6_film_53 : decode cX6_film 53 = .ok (.bipush 40, 2) := by decide +kernel
theorem dX6_film_55 : decode cX6_film 55 = .ok (.iload_n 1, 1) := by decide +kernel
theorem dX6_film_56 : decode cX6_film 56 = .ok (.imul, 1) := by decide +kernel
theorem dX6_film_57 : decode cX6_film 57 = .ok (.iload_n 3, 1) := by decide +kernel
theorem dX6_film_58 : decode cX6_film 58 = .ok (.iadd, 1) := by decide +kernel
theorem dX6_film_59 : decode cX6_film 59 = .ok (.aload_n 0, 1) := by decide +kernel
theorem dX6_film_60 : decode cX6_film 60 = .ok (.getfield 44, 3) := by decide +kernel
theorem dX6_film_63 : decode cX6_film 63 = .ok (.iload_n 3, 1) := by decide +kernel
theorem dX6_film_64 : decode cX6_film 64 = .ok (.iaload, 1) := by decide +kernel
theorem dX6_film_65 : decode cX6_film 65 = .ok (.iastore, 1) := by decide +kernel
theorem dX6_film_66 : decode cX6_film 66 = .ok (.iinc 3 1, 3) := by decide +kernel
theorem dX6_film_69 : decode cX6_film 69 = .ok (.goto (-28), 3) := by decide +kernel
theorem dX6_film_72 : decode cX6_film 72 = .ok (.aload_n 0, 1) := by decide +kernel
theorem dX6_film_73 : decode cX6_film 73 = .ok (.getfield 91, 3) := by decide +kernel
theorem dX6_film_76 : decode cX6_film 76 = .ok (.ireturn, 1) := by decide +kernel
theorem dX6_draws_0 : decode cX6_draws 0 = .ok (.iload_n 1, 1) := by decide +kernel
theorem dX6_draws_1 : decode cX6_draws 1 = .ok (.istore_n 2, 1) := by decide +kernel
theorem dX6_draws_2 : decode cX6_draws 2 = .ok (.iconst 0, 1) := by decide +kernel
theorem dX6_draws_3 : decode cX6_draws 3 = .ok (.istore_n 3, 1) := by decide +kernel
theorem dX6_draws_4 : decode cX6_draws 4 = .ok (.iload_n 3, 1) := by decide +kernel
theorem dX6_draws_5 : decode cX6_draws 5 = .ok (.aload_n 0, 1) := by decide +kernel
theorem dX6_draws_6 : decode cX6_draws 6 = .ok (.getfield 23, 3) := by decide +kernel
theorem dX6_draws_9 : decode cX6_draws 9 = .ok (.if_icmp .ge 34, 3) := by decide +kernel
theorem dX6_draws_12 : decode cX6_draws 12 = .ok (.iload_n 2, 1) := by decide +kernel
theorem dX6_draws_13 : decode cX6_draws 13 = .ok (.ldc_w 343, 3) := by decide +kernel
theorem dX6_draws_16 : decode cX6_draws 16 = .ok (.imul, 1) := by decide +kernel
theorem dX6_draws_17 : decode cX6_draws 17 = .ok (.sipush 12345, 3) := by decide +kernel
theorem dX6_draws_20 : decode cX6_draws 20 = .ok (.iadd, 1) := by decide +kernel
theorem dX6_draws_21 : decode cX6_draws 21 = .ok (.istore_n 2, 1) := by decide +kernel
theorem dX6_draws_22 : decode cX6_draws 22 = .ok (.aload_n 0, 1) := by decide +kernel
theorem dX6_draws_23 : decode cX6_draws 23 = .ok (.getfield 59, 3) := by decide +kernel
theorem dX6_draws_26 : decode cX6_draws 26 = .ok (.iload_n 3, 1) := by decide +kernel
theorem dX6_draws_27 : decode cX6_draws 27 = .ok (.iload_n 2, 1) := by decide +kernel
theorem dX6_draws_28 : decode cX6_draws 28 = .ok (.bipush 9, 2) := by decide +kernel
theorem dX6_draws_30 : decode cX6_draws 30 = .ok (.iushr, 1) := by decide +kernel
theorem dX6_draws_31 : decode cX6_draws 31 = .ok (.aload_n 0, 1) := by decide +kernel
theorem dX6_draws_32 : decode cX6_draws 32 = .ok (.getfield 91, 3) := by decide +kernel
theorem dX6_draws_35 : decode cX6_draws 35 = .ok (.irem, 1) := by decide +kernel
theorem dX6_draws_36 : decode cX6_draws 36 = .ok (.iastore, 1) := by decide +kernel
theorem dX6_draws_37 : decode cX6_draws 37 = .ok (.iinc 3 1, 3) := by decide +kernel
theorem dX6_draws_40 : decode cX6_draws 40 = .ok (.goto (-36), 3) := by decide +kernel
theorem dX6_draws_43 : decode cX6_draws 43 = .ok (.aload_n 0, 1) := by decide +kernel
theorem dX6_draws_44 : decode cX6_draws 44 = .ok (.iconst 4, 1) := by decide +kernel
theorem dX6_draws_45 : decode cX6_draws 45 = .ok (.aload_n 0, 1) := by decide +kernel
theorem dX6_draws_46 : decode cX6_draws 46 = .ok (.getfield 23, 3) := by decide +kernel
theorem dX6_draws_49 : decode cX6_draws 49 = .ok (.invokevirtual 310, 3) := by decide +kernel
theorem dX6_draws_52 : decode cX6_draws 52 = .ok (.aload_n 0, 1) := by decide +kernel
theorem dX6_draws_53 : decode cX6_draws 53 = .ok (.getfield 272, 3) := by decide +kernel
theorem dX6_draws_56 : decode cX6_draws 56 = .ok (.ireturn, 1) := by decide +kernel
theorem dX6_drawn_0 : decode cX6_drawn 0 = .ok (.aload_n 0, 1) := by decide +kernel
theorem dX6_drawn_1 : decode cX6_drawn 1 = .ok (.getfield 91, 3) := by decide +kernel
theorem dX6_drawn_4 : decode cX6_drawn 4 = .ok (.ifCond .ne 9, 3) := by decide +kernel
theorem dX6_drawn_7 : decode cX6_drawn 7 = .ok (.ldc2_w 332, 3) := by decide +kernel
theorem dX6_drawn_10 : decode cX6_drawn 10 = .ok (.goto 9, 3) := by decide +kernel
theorem dX6_drawn_13 : decode cX6_drawn 13 = .ok (.aload_n 0, 1) := by decide +kernel
theorem dX6_drawn_14 : decode cX6_drawn 14 = .ok (.iload_n 1, 1) := by decide +kernel
theorem dX6_drawn_15 : decode cX6_drawn 15 = .ok (.invokevirtual 344, 3) := by decide +kernel
theorem dX6_drawn_18 : decode cX6_drawn 18 = .ok (.i2l, 1) := by decide +kernel
theorem dX6_drawn_19 : decode cX6_drawn 19 = .ok (.lreturn, 1) := by decide +kernel
theorem dX6_chance_0 : decode cX6_chance 0 = .ok (.iload_n 2, 1) := by decide +kernel
theorem dX6_chance_1 : decode cX6_chance 1 = .ok (.i2l, 1) := by decide +kernel
theorem dX6_chance_2 : decode cX6_chance 2 = .ok (.lconst 1, 1) := by decide +kernel
theorem dX6_chance_3 : decode cX6_chance 3 = .ok (.ldc2_w 110, 3) := by decide +kernel
theorem dX6_chance_6 : decode cX6_chance 6 = .ok (.invokestatic 94, 3) := by decide +kernel
theorem dX6_chance_9 : decode cX6_chance 9 = .ok (.ifCond .eq 20, 3) := by decide +kernel
theorem dX6_chance_12 : decode cX6_chance 12 = .ok (.iload_n 3, 1) := by decide +kernel
theorem dX6_chance_13 : decode cX6_chance 13 = .ok (.i2l, 1) := by decide +kernel
theorem dX6_chance_14 : decode cX6_chance 14 = .ok (.lconst 0, 1) := by decide +kernel
theorem dX6_chance_15 : decode cX6_chance 15 = .ok (.lconst 1, 1) := by decide +kernel
theorem dX6_chance_16 : decode cX6_chance 16 = .ok (.invokestatic 94, 3) := by decide +kernel
theorem dX6_chance_19 : decode cX6_chance 19 = .ok (.ifCond .eq 10, 3) := by decide +kernel
theorem dX6_chance_22 : decode cX6_chance 22 = .ok (.aload_n 0, 1) := by decide +kernel
theorem dX6_chance_23 : decode cX6_chance 23 = .ok (.getfield 91, 3) := by decide +kernel
theorem dX6_chance_26 : decode cX6_chance 26 = .ok (.ifCond .ne 7, 3) := by decide +kernel
theorem dX6_chance_29 : decode cX6_chance 29 = .ok (.ldc2_w 332, 3) := by decide +kernel
theorem dX6_chance_32 : decode cX6_chance 32 = .ok (.lreturn, 1) := by decide +kernel
theorem dX6_chance_33 : decode cX6_chance 33 = .ok (.aload_n 0, 1) := by decide +kernel
theorem dX6_chance_34 : decode cX6_chance 34 = .ok (.iconst 1, 1) := by decide +kernel
theorem dX6_chance_35 : decode cX6_chance 35 = .ok (.iconst 0, 1) := by decide +kernel
theorem dX6_chance_36 : decode cX6_chance 36 = .ok (.invokevirtual 310, 3) := by decide +kernel
theorem dX6_chance_39 : decode cX6_chance 39 = .ok (.aload_n 0, 1) := by decide +kernel
theorem dX6_chance_40 : decode cX6_chance 40 = .ok (.getfield 272, 3) := by decide +kernel
theorem dX6_chance_43 : decode cX6_chance 43 = .ok (.istore 4, 2) := by decide +kernel
theorem dX6_chance_45 : decode cX6_chance 45 = .ok (.lconst 0, 1) := by decide +kernel
theorem dX6_chance_46 : decode cX6_chance 46 = .ok (.lstore 5, 2) := by decide +kernel
theorem dX6_chance_48 : decode cX6_chance 48 = .ok (.iconst 0, 1) := by decide +kernel
theorem dX6_chance_49 : decode cX6_chance 49 = .ok (.istore 7, 2) := by decide +kernel
theorem dX6_chance_51 : decode cX6_chance 51 = .ok (.iload 7, 2) := by decide +kernel
theorem dX6_chance_53 : decode cX6_chance 53 = .ok (.iload_n 2, 1) := by decide +kernel
theorem dX6_chance_54 : decode cX6_chance 54 = .ok (.if_icmp .ge 32, 3) := by decide +kernel
theorem dX6_chance_57 : decode cX6_chance 57 = .ok (.lload 5, 2) := by decide +kernel
theorem dX6_chance_59 : decode cX6_chance 59 = .ok (.aload_n 0, 1) := by decide +kernel
theorem dX6_chance_60 : decode cX6_chance 60 = .ok (.iload_n 1, 1) := by decide +kernel
theorem dX6_chance_61 : decode cX6_chance 61 = .ok (.iload 7, 2) := by decide +kernel
theorem dX6_chance_63 : decode cX6_chance 63 = .ok (.iadd, 1) := by decide +kernel
theorem dX6_chance_64 : decode cX6_chance 64 = .ok (.invokevirtual 344, 3) := by decide +kernel
theorem dX6_chance_67 : decode cX6_chance 67 = .ok (.iload 4, 2) := by decide +kernel
theorem dX6_chance_69 : decode cX6_chance 69 = .ok (.if_icmp .gt 7, 3) := by decide +kernel
theorem dX6_chance_72 : decode cX6_chance 72 = .ok (.lconst 1, 1) := by decide +kernel
theorem dX6_chance_73 : decode cX6_chance 73 = .ok (.goto 4, 3) := by decide +kernel
theorem dX6_chance_76 : decode cX6_chance 76 = .ok (.lconst 0, 1) := by decide +kernel
theorem dX6_chance_77 : decode cX6_chance 77 = .ok (.ladd, 1) := by decide +kernel
theorem dX6_chance_78 : decode cX6_chance 78 = .ok (.lstore 5, 2) := by decide +kernel
theorem dX6_chance_80 : decode cX6_chance 80 = .ok (.iinc 7 1, 3) := by decide +kernel
theorem dX6_chance_83 : decode cX6_chance 83 = .ok (.goto (-32), 3) := by decide +kernel
theorem dX6_chance_86 : decode cX6_chance 86 = .ok (.lload 5, 2) := by decide +kernel
theorem dX6_chance_88 : decode cX6_chance 88 = .ok (.lstore 7, 2) := by decide +kernel
theorem dX6_chance_90 : decode cX6_chance 90 = .ok (.iload_n 2, 1) := by decide +kernel
theorem dX6_chance_91 : decode cX6_chance 91 = .ok (.i2l, 1) := by decide +kernel
theorem dX6_chance_92 : decode cX6_chance 92 = .ok (.lstore 9, 2) := by decide +kernel
theorem dX6_chance_94 : decode cX6_chance 94 = .ok (.lload 9, 2) := by decide +kernel
theorem dX6_chance_96 : decode cX6_chance 96 = .ok (.lconst 0, 1) := by decide +kernel
theorem dX6_chance_97 : decode cX6_chance 97 = .ok (.lcmp, 1) := by decide +kernel
theorem dX6_chance_98 : decode cX6_chance 98 = .ok (.ifCond .eq 21, 3) := by decide +kernel
theorem dX6_chance_101 : decode cX6_chance 101 = .ok (.lload 7, 2) := by decide +kernel
theorem dX6_chance_103 : decode cX6_chance 103 = .ok (.lload 9, 2) := by decide +kernel
theorem dX6_chance_105 : decode cX6_chance 105 = .ok (.lrem, 1) := by decide +kernel
theorem dX6_chance_106 : decode cX6_chance 106 = .ok (.lstore 11, 2) := by decide +kernel
theorem dX6_chance_108 : decode cX6_chance 108 = .ok (.lload 9, 2) := by decide +kernel
theorem dX6_chance_110 : decode cX6_chance 110 = .ok (.lstore 7, 2) := by decide +kernel
theorem dX6_chance_112 : decode cX6_chance 112 = .ok (.lload 11, 2) := by decide +kernel
theorem dX6_chance_114 : decode cX6_chance 114 = .ok (.lstore 9, 2) := by decide +kernel
theorem dX6_chance_116 : decode cX6_chance 116 = .ok (.goto (-22), 3) := by decide +kernel
theorem dX6_chance_119 : decode cX6_chance 119 = .ok (.iload_n 3, 1) := by decide +kernel
theorem dX6_chance_120 : decode cX6_chance 120 = .ok (.ifCond .ne 11, 3) := by decide +kernel
theorem dX6_chance_123 : decode cX6_chance 123 = .ok (.lload 5, 2) := by decide +kernel
theorem dX6_chance_125 : decode cX6_chance 125 = .ok (.lload 7, 2) := by decide +kernel
theorem dX6_chance_127 : decode cX6_chance 127 = .ok (.ldiv, 1) := by decide +kernel
theorem dX6_chance_128 : decode cX6_chance 128 = .ok (.goto 8, 3) := by decide +kernel
theorem dX6_chance_131 : decode cX6_chance 131 = .ok (.iload_n 2, 1) := by decide +kernel
theorem dX6_chance_132 : decode cX6_chance 132 = .ok (.i2l, 1) := by decide +kernel
theorem dX6_chance_133 : decode cX6_chance 133 = .ok (.lload 7, 2) := by decide +kernel
theorem dX6_chance_135 : decode cX6_chance 135 = .ok (.ldiv, 1) := by decide +kernel
theorem dX6_chance_136 : decode cX6_chance 136 = .ok (.lreturn, 1) := by decide +kernel
theorem dX6_image_0 : decode cX6_image 0 = .ok (.iconst 0, 1) := by decide +kernel
theorem dX6_image_1 : decode cX6_image 1 = .ok (.istore_n 1, 1) := by decide +kernel
theorem dX6_image_2 : decode cX6_image 2 = .ok (.iload_n 1, 1) := by decide +kernel
theorem dX6_image_3 : decode cX6_image 3 = .ok (.iconst 5, 1) := by decide +kernel
theorem dX6_image_4 : decode cX6_image 4 = .ok (.if_icmp .ge 50, 3) := by decide +kernel
theorem dX6_image_7 : decode cX6_image 7 = .ok (.aload_n 0, 1) := by decide +kernel
theorem dX6_image_8 : decode cX6_image 8 = .ok (.getfield 65, 3) := by decide +kernel
theorem dX6_image_11 : decode cX6_image 11 = .ok (.iload_n 1, 1) := by decide +kernel
theorem dX6_image_12 : decode cX6_image 12 = .ok (.aload_n 0, 1) := by decide +kernel
theorem dX6_image_13 : decode cX6_image 13 = .ok (.getfield 32, 3) := by decide +kernel
theorem dX6_image_16 : decode cX6_image 16 = .ok (.iload_n 1, 1) := by decide +kernel
theorem dX6_image_17 : decode cX6_image 17 = .ok (.iaload, 1) := by decide +kernel
theorem dX6_image_18 : decode cX6_image 18 = .ok (.iastore, 1) := by decide +kernel
theorem dX6_image_19 : decode cX6_image 19 = .ok (.aload_n 0, 1) := by decide +kernel
theorem dX6_image_20 : decode cX6_image 20 = .ok (.getfield 65, 3) := by decide +kernel
theorem dX6_image_23 : decode cX6_image 23 = .ok (.iconst 5, 1) := by decide +kernel
theorem dX6_image_24 : decode cX6_image 24 = .ok (.iload_n 1, 1) := by decide +kernel
theorem dX6_image_25 : decode cX6_image 25 = .ok (.iadd, 1) := by decide +kernel
theorem dX6_image_26 : decode cX6_image 26 = .ok (.aload_n 0, 1) := by decide +kernel
theorem dX6_image_27 : decode cX6_image 27 = .ok (.getfield 35, 3) := by decide +kernel
theorem dX6_image_30 : decode cX6_image 30 = .ok (.iload_n 1, 1) := by decide +kernel
theorem dX6_image_31 : decode cX6_image 31 = .ok (.iaload, 1) := by decide +kernel
theorem dX6_image_32 : decode cX6_image 32 = .ok (.iastore, 1) := by decide +kernel
theorem dX6_image_33 : decode cX6_image 33 = .ok (.aload_n 0, 1) := by decide +kernel
theorem dX6_image_34 : decode cX6_image 34 = .ok (.getfield 65, 3) := by decide +kernel
theorem dX6_image_37 : decode cX6_image 37 = .ok (.bipush 10, 2) := by decide +kernel
theorem dX6_image_39 : decode cX6_image 39 = .ok (.iload_n 1, 1) := by decide +kernel
theorem dX6_image_40 : decode cX6_image 40 = .ok (.iadd, 1) := by decide +kernel
theorem dX6_image_41 : decode cX6_image 41 = .ok (.aload_n 0, 1) := by decide +kernel
theorem dX6_image_42 : decode cX6_image 42 = .ok (.getfield 38, 3) := by decide +kernel
theorem dX6_image_45 : decode cX6_image 45 = .ok (.iload_n 1, 1) := by decide +kernel
theorem dX6_image_46 : decode cX6_image 46 = .ok (.iaload, 1) := by decide +kernel
theorem dX6_image_47 : decode cX6_image 47 = .ok (.iastore, 1) := by decide +kernel
theorem dX6_image_48 : decode cX6_image 48 = .ok (.iinc 1 1, 3) := by decide +kernel
theorem dX6_image_51 : decode cX6_image 51 = .ok (.goto (-49), 3) := by decide +kernel
theorem dX6_image_54 : decode cX6_image 54 = .ok (.aload_n 0, 1) := by decide +kernel
theorem dX6_image_55 : decode cX6_image 55 = .ok (.aload_n 0, 1) := by decide +kernel
theorem dX6_image_56 : decode cX6_image 56 = .ok (.getfield 91, 3) := by decide +kernel
theorem dX6_image_59 : decode cX6_image 59 = .ok (.putfield 68, 3) := by decide +kernel
theorem dX6_image_62 : decode cX6_image 62 = .ok (.aload_n 0, 1) := by decide +kernel
theorem dX6_image_63 : decode cX6_image 63 = .ok (.aload_n 0, 1) := by decide +kernel
theorem dX6_image_64 : decode cX6_image 64 = .ok (.getfield 23, 3) := by decide +kernel
theorem dX6_image_67 : decode cX6_image 67 = .ok (.putfield 347, 3) := by decide +kernel
theorem dX6_image_70 : decode cX6_image 70 = .ok (.aload_n 0, 1) := by decide +kernel
theorem dX6_image_71 : decode cX6_image 71 = .ok (.aload_n 0, 1) := by decide +kernel
theorem dX6_image_72 : decode cX6_image 72 = .ok (.getfield 26, 3) := by decide +kernel
theorem dX6_image_75 : decode cX6_image 75 = .ok (.putfield 350, 3) := by decide +kernel
theorem dX6_image_78 : decode cX6_image 78 = .ok (.aload_n 0, 1) := by decide +kernel
theorem dX6_image_79 : decode cX6_image 79 = .ok (.aload_n 0, 1) := by decide +kernel
theorem dX6_image_80 : decode cX6_image 80 = .ok (.getfield 244, 3) := by decide +kernel
theorem dX6_image_83 : decode cX6_image 83 = .ok (.putfield 353, 3) := by decide +kernel
theorem dX6_image_86 : decode cX6_image 86 = .ok (.aload_n 0, 1) := by decide +kernel
theorem dX6_image_87 : decode cX6_image 87 = .ok (.getfield 91, 3) := by decide +kernel
theorem dX6_image_90 : decode cX6_image 90 = .ok (.ireturn, 1) := by decide +kernel
theorem dX6_back_0 : decode cX6_back 0 = .ok (.aload_n 0, 1) := by decide +kernel
theorem dX6_back_1 : decode cX6_back 1 = .ok (.getfield 68, 3) := by decide +kernel
theorem dX6_back_4 : decode cX6_back 4 = .ok (.iconst (-1), 1) := by decide +kernel
theorem dX6_back_5 : decode cX6_back 5 = .ok (.if_icmp .ne 6, 3) := by decide +kernel
theorem dX6_back_8 : decode cX6_back 8 = .ok (.bipush (-3), 2) := by decide +kernel
theorem dX6_back_10 : decode cX6_back 10 = .ok (.ireturn, 1) := by decide +kernel
theorem dX6_back_11 : decode cX6_back 11 = .ok (.iconst 0, 1) := by decide +kernel
theorem dX6_back_12 : decode cX6_back 12 = .ok (.istore_n 1, 1) := by decide +kernel
theorem dX6_back_13 : decode cX6_back 13 = .ok (.iload_n 1, 1) := by decide +kernel
theorem dX6_back_14 : decode cX6_back 14 = .ok (.iconst 5, 1) := by decide +kernel
theorem dX6_back_15 : decode cX6_back 15 = .ok (.if_icmp .ge 50, 3) := by decide +kernel
theorem dX6_back_18 : decode cX6_back 18 = .ok (.aload_n 0, 1) := by decide +kernel
theorem dX6_back_19 : decode cX6_back 19 = .ok (.getfield 32, 3) := by decide +kernel
theorem dX6_back_22 : decode cX6_back 22 = .ok (.iload_n 1, 1) := by decide +kernel
theorem dX6_back_23 : decode cX6_back 23 = .ok (.aload_n 0, 1) := by decide +kernel
theorem dX6_back_24 : decode cX6_back 24 = .ok (.getfield 65, 3) := by decide +kernel
theorem dX6_back_27 : decode cX6_back 27 = .ok (.iload_n 1, 1) := by decide +kernel
theorem dX6_back_28 : decode cX6_back 28 = .ok (.iaload, 1) := by decide +kernel
theorem dX6_back_29 : decode cX6_back 29 = .ok (.iastore, 1) := by decide +kernel
theorem dX6_back_30 : decode cX6_back 30 = .ok (.aload_n 0, 1) := by decide +kernel
theorem dX6_back_31 : decode cX6_back 31 = .ok (.getfield 35, 3) := by decide +kernel
theorem dX6_back_34 : decode cX6_back 34 = .ok (.iload_n 1, 1) := by decide +kernel
theorem dX6_back_35 : decode cX6_back 35 = .ok (.aload_n 0, 1) := by decide +kernel
theorem dX6_back_36 : decode cX6_back 36 = .ok (.getfield 65, 3) := by decide +kernel
theorem dX6_back_39 : decode cX6_back 39 = .ok (.iconst 5, 1) := by decide +kernel
theorem dX6_back_40 : decode cX6_back 40 = .ok (.iload_n 1, 1) := by decide +kernel
theorem dX6_back_41 : decode cX6_back 41 = .ok (.iadd, 1) := by decide +kernel
theorem dX6_back_42 : decode cX6_back 42 = .ok (.iaload, 1) := by decide +kernel
theorem dX6_back_43 : decode cX6_back 43 = .ok (.iastore, 1) := by decide +kernel
theorem dX6_back_44 : decode cX6_back 44 = .ok (.aload_n 0, 1) := by decide +kernel
theorem dX6_back_45 : decode cX6_back 45 = .ok (.getfield 38, 3) := by decide +kernel
theorem dX6_back_48 : decode cX6_back 48 = .ok (.iload_n 1, 1) := by decide +kernel
theorem dX6_back_49 : decode cX6_back 49 = .ok (.aload_n 0, 1) := by decide +kernel
theorem dX6_back_50 : decode cX6_back 50 = .ok (.getfield 65, 3) := by decide +kernel
theorem dX6_back_53 : decode cX6_back 53 = .ok (.bipush 10, 2) := by decide +kernel
theorem dX6_back_55 : decode cX6_back 55 = .ok (.iload_n 1, 1) := by decide +kernel
theorem dX6_back_56 : decode cX6_back 56 = .ok (.iadd, 1) := by decide +kernel
theorem dX6_back_57 : decode cX6_back 57 = .ok (.iaload, 1) := by decide +kernel
theorem dX6_back_58 : decode cX6_back 58 = .ok (.iastore, 1) := by decide +kernel
theorem dX6_back_59 : decode cX6_back 59 = .ok (.iinc 1 1, 3) := by decide +kernel
theorem dX6_back_62 : decode cX6_back 62 = .ok (.goto (-49), 3) := by decide +kernel
theorem dX6_back_65 : decode cX6_back 65 = .ok (.aload_n 0, 1) := by decide +kernel
theorem dX6_back_66 : decode cX6_back 66 = .ok (.aload_n 0, 1) := by decide +kernel
theorem dX6_back_67 : decode cX6_back 67 = .ok (.getfield 68, 3) := by decide +kernel
theorem dX6_back_70 : decode cX6_back 70 = .ok (.putfield 91, 3) := by decide +kernel
theorem dX6_back_73 : decode cX6_back 73 = .ok (.aload_n 0, 1) := by decide +kernel
theorem dX6_back_74 : decode cX6_back 74 = .ok (.aload_n 0, 1) := by decide +kernel
theorem dX6_back_75 : decode cX6_back 75 = .ok (.getfield 347, 3) := by decide +kernel
theorem dX6_back_78 : decode cX6_back 78 = .ok (.putfield 23, 3) := by decide +kernel
theorem dX6_back_81 : decode cX6_back 81 = .ok (.aload_n 0, 1) := by decide +kernel
theorem dX6_back_82 : decode cX6_back 82 = .ok (.aload_n 0, 1) := by decide +kernel
theorem dX6_back_83 : decode cX6_back 83 = .ok (.getfield 350, 3) := by decide +kernel
theorem dX6_back_86 : decode cX6_back 86 = .ok (.putfield 26, 3) := by decide +kernel
theorem dX6_back_89 : decode cX6_back 89 = .ok (.aload_n 0, 1) := by decide +kernel
theorem dX6_back_90 : decode cX6_back 90 = .ok (.aload_n 0, 1) := by decide +kernel
theorem dX6_back_91 : decode cX6_back 91 = .ok (.getfield 353, 3) := by decide +kernel
theorem dX6_back_94 : decode cX6_back 94 = .ok (.putfield 244, 3) := by decide +kernel
theorem dX6_back_97 : decode cX6_back 97 = .ok (.aload_n 0, 1) := by decide +kernel
theorem dX6_back_98 : decode cX6_back 98 = .ok (.getfield 91, 3) := by decide +kernel
theorem dX6_back_101 : decode cX6_back 101 = .ok (.ireturn, 1) := by decide +kernel
theorem dX6_count_0 : decode cX6_count 0 = .ok (.iload_n 1, 1) := by decide +kernel
theorem dX6_count_1 : decode cX6_count 1 = .ok (.i2l, 1) := by decide +kernel
theorem dX6_count_2 : decode cX6_count 2 = .ok (.lconst 0, 1) := by decide +kernel
theorem dX6_count_3 : decode cX6_count 3 = .ok (.ldc2_w 356, 3) := by decide +kernel
theorem dX6_count_6 : decode cX6_count 6 = .ok (.invokestatic 94, 3) := by decide +kernel
theorem dX6_count_9 : decode cX6_count 9 = .ok (.ifCond .ne 6, 3) := by decide +kernel
theorem dX6_count_12 : decode cX6_count 12 = .ok (.bipush (-2), 2) := by decide +kernel
theorem dX6_count_14 : decode cX6_count 14 = .ok (.ireturn, 1) := by decide +kernel
theorem dX6_count_15 : decode cX6_count 15 = .ok (.iload_n 1, 1) := by decide +kernel
theorem dX6_count_16 : decode cX6_count 16 = .ok (.bipush 6, 2) := by decide +kernel
theorem dX6_count_18 : decode cX6_count 18 = .ok (.if_icmp .ge 67, 3) := by decide +kernel
theorem dX6_count_21 : decode cX6_count 21 = .ok (.iload_n 1, 1) := by decide +kernel
theorem dX6_count_22 : decode cX6_count 22 = .ok (.ifCond .ne 10, 3) := by decide +kernel
theorem dX6_count_25 : decode cX6_count 25 = .ok (.aload_n 0, 1) := by decide +kernel
theorem dX6_count_26 : decode cX6_count 26 = .ok (.getfield 91, 3) := by decide +kernel
theorem dX6_count_29 : decode cX6_count 29 = .ok (.goto 55, 3) := by decide +kernel
theorem dX6_count_32 : decode cX6_count 32 = .ok (.iload_n 1, 1) := by decide +kernel
theorem dX6_count_33 : decode cX6_count 33 = .ok (.iconst 1, 1) := by decide +kernel
theorem dX6_count_34 : decode cX6_count 34 = .ok (.if_icmp .ne 10, 3) := by decide +kernel
theorem dX6_count_37 : decode cX6_count 37 = .ok (.aload_n 0, 1) := by decide +kernel
theorem dX6_count_38 : decode cX6_count 38 = .ok (.getfield 23, 3) := by decide +kernel
theorem dX6_count_41 : decode cX6_count 41 = .ok (.goto 43, 3) := by decide +kernel
theorem dX6_count_44 : decode cX6_count 44 = .ok (.iload_n 1, 1) := by decide +kernel
theorem dX6_count_45 : decode cX6_count 45 = .ok (.iconst 2, 1) := by decide +kernel
theorem dX6_count_46 : decode cX6_count 46 = .ok (.if_icmp .ne 10, 3) := by decide +kernel
theorem dX6_count_49 : decode cX6_count 49 = .ok (.aload_n 0, 1) := by decide +kernel
theorem dX6_count_50 : decode cX6_count 50 = .ok (.getfield 26, 3) := by decide +kernel
theorem dX6_count_53 : decode cX6_count 53 = .ok (.goto 31, 3) := by decide +kernel
theorem dX6_count_56 : decode cX6_count 56 = .ok (.iload_n 1, 1) := by decide +kernel
theorem dX6_count_57 : decode cX6_count 57 = .ok (.iconst 3, 1) := by decide +kernel
theorem dX6_count_58 : decode cX6_count 58 = .ok (.if_icmp .ne 10, 3) := by decide +kernel
theorem dX6_count_61 : decode cX6_count 61 = .ok (.aload_n 0, 1) := by decide +kernel
theorem dX6_count_62 : decode cX6_count 62 = .ok (.getfield 88, 3) := by decide +kernel
theorem dX6_count_65 : decode cX6_count 65 = .ok (.goto 19, 3) := by decide +kernel
theorem dX6_count_68 : decode cX6_count 68 = .ok (.iload_n 1, 1) := by decide +kernel
theorem dX6_count_69 : decode cX6_count 69 = .ok (.iconst 4, 1) := by decide +kernel
theorem dX6_count_70 : decode cX6_count 70 = .ok (.if_icmp .ne 10, 3) := by decide +kernel
theorem dX6_count_73 : decode cX6_count 73 = .ok (.aload_n 0, 1) := by decide +kernel
theorem dX6_count_74 : decode cX6_count 74 = .ok (.getfield 126, 3) := by decide +kernel
theorem dX6_count_77 : decode cX6_count 77 = .ok (.goto 7, 3) := by decide +kernel
theorem dX6_count_80 : decode cX6_count 80 = .ok (.aload_n 0, 1) := by decide +kernel
theorem dX6_count_81 : decode cX6_count 81 = .ok (.getfield 244, 3) := by decide +kernel
theorem dX6_count_84 : decode cX6_count 84 = .ok (.ireturn, 1) := by decide +kernel
theorem dX6_count_85 : decode cX6_count 85 = .ok (.iload_n 1, 1) := by decide +kernel
theorem dX6_count_86 : decode cX6_count 86 = .ok (.bipush 6, 2) := by decide +kernel
theorem dX6_count_88 : decode cX6_count 88 = .ok (.if_icmp .ne 8, 3) := by decide +kernel
theorem dX6_count_91 : decode cX6_count 91 = .ok (.aload_n 0, 1) := by decide +kernel
theorem dX6_count_92 : decode cX6_count 92 = .ok (.invokevirtual 325, 3) := by decide +kernel
theorem dX6_count_95 : decode cX6_count 95 = .ok (.ireturn, 1) := by decide +kernel
theorem dX6_count_96 : decode cX6_count 96 = .ok (.iconst 0, 1) := by decide +kernel
theorem dX6_count_97 : decode cX6_count 97 = .ok (.istore_n 2, 1) := by decide +kernel
theorem dX6_count_98 : decode cX6_count 98 = .ok (.iconst 0, 1) := by decide +kernel
theorem dX6_count_99 : decode cX6_count 99 = .ok (.istore_n 3, 1) := by decide +kernel
theorem dX6_count_100 : decode cX6_count 100 = .ok (.iload_n 3, 1) := by decide +kernel
theorem dX6_count_101 : decode cX6_count 101 = .ok (.aload_n 0, 1) := by decide +kernel
theorem dX6_count_102 : decode cX6_count 102 = .ok (.getfield 91, 3) := by decide +kernel
theorem dX6_count_105 : decode cX6_count 105 = .ok (.if_icmp .ge 18, 3) := by decide +kernel
theorem dX6_count_108 : decode cX6_count 108 = .ok (.iload_n 2, 1) := by decide +kernel
theorem dX6_count_109 : decode cX6_count 109 = .ok (.aload_n 0, 1) := by decide +kernel
theorem dX6_count_110 : decode cX6_count 110 = .ok (.getfield 35, 3) := by decide +kernel
theorem dX6_count_113 : decode cX6_count 113 = .ok (.iload_n 3, 1) := by decide +kernel
theorem dX6_count_114 : decode cX6_count 114 = .ok (.iaload, 1) := by decide +kernel
theorem dX6_count_115 : decode cX6_count 115 = .ok (.iadd, 1) := by decide +kernel
theorem dX6_count_116 : decode cX6_count 116 = .ok (.istore_n 2, 1) := by decide +kernel
theorem dX6_count_117 : decode cX6_count 117 = .ok (.iinc 3 1, 3) := by decide +kernel
theorem dX6_count_120 : decode cX6_count 120 = .ok (.goto (-20), 3) := by decide +kernel
theorem dX6_count_123 : decode cX6_count 123 = .ok (.iload_n 2, 1) := by decide +kernel
theorem dX6_count_124 : decode cX6_count 124 = .ok (.ireturn, 1) := by decide +kernel
theorem dX6_isSheet_0 : decode cX6_isSheet 0 = .ok (.iload_n 0, 1) := by decide +kernel
theorem dX6_isSheet_1 : decode cX6_isSheet 1 = .ok (.i2l, 1) := by decide +kernel
theorem dX6_isSheet_2 : decode cX6_isSheet 2 = .ok (.lconst 0, 1) := by decide +kernel
theorem dX6_isSheet_3 : decode cX6_isSheet 3 = .ok (.ldc2_w 299, 3) := by decide +kernel
theorem dX6_isSheet_6 : decode cX6_isSheet 6 = .ok (.invokestatic 94, 3) := by decide +kernel
theorem dX6_isSheet_9 : decode cX6_isSheet 9 = .ok (.ireturn, 1) := by decide +kernel
theorem dX6_sheet_0 : decode cX6_sheet 0 = .ok (.iload_n 1, 1) := by decide +kernel
theorem dX6_sheet_1 : decode cX6_sheet 1 = .ok (.invokestatic 303, 3) := by decide +kernel
theorem dX6_sheet_4 : decode cX6_sheet 4 = .ok (.ifCond .eq 27, 3) := by decide +kernel
theorem dX6_sheet_7 : decode cX6_sheet 7 = .ok (.iload_n 2, 1) := by decide +kernel
theorem dX6_sheet_8 : decode cX6_sheet 8 = .ok (.i2l, 1) := by decide +kernel
theorem dX6_sheet_9 : decode cX6_sheet 9 = .ok (.ldc2_w 358, 3) := by decide +kernel
theorem dX6_sheet_12 : decode cX6_sheet 12 = .ok (.ldc2_w 106, 3) := by decide +kernel
theorem dX6_sheet_15 : decode cX6_sheet 15 = .ok (.invokestatic 94, 3) := by decide +kernel
theorem dX6_sheet_18 : decode cX6_sheet 18 = .ok (.ifCond .eq 13, 3) := by decide +kernel
theorem dX6_sheet_21 : decode cX6_sheet 21 = .ok (.iload_n 2, 1) := by decide +kernel
theorem dX6_sheet_22 : decode cX6_sheet 22 = .ok (.ifCond .lt 12, 3) := by decide +kernel
theorem dX6_sheet_25 : decode cX6_sheet 25 = .ok (.iload_n 3, 1) := by decide +kernel
theorem dX6_sheet_26 : decode cX6_sheet 26 = .ok (.bipush 40, 2) := by decide +kernel
theorem dX6_sheet_28 : decode cX6_sheet 28 = .ok (.if_icmp .le 6, 3) := by decide +kernel
theorem dX6_sheet_31 : decode cX6_sheet 31 = .ok (.bipush (-2), 2) := by decide +kernel
theorem dX6_sheet_33 : decode cX6_sheet 33 = .ok (.ireturn, 1) := by decide +kernel
theorem dX6_sheet_34 : decode cX6_sheet 34 = .ok (.iload_n 2, 1) := by decide +kernel
theorem dX6_sheet_35 : decode cX6_sheet 35 = .ok (.ifCond .lt 10, 3) := by decide +kernel
theorem dX6_sheet_38 : decode cX6_sheet 38 = .ok (.iload_n 3, 1) := by decide +kernel
theorem dX6_sheet_39 : decode cX6_sheet 39 = .ok (.ifCond .ge 6, 3) := by decide +kernel
theorem dX6_sheet_42 : decode cX6_sheet 42 = .ok (.bipush (-14), 2) := by decide +kernel
theorem dX6_sheet_44 : decode cX6_sheet 44 = .ok (.ireturn, 1) := by decide +kernel
theorem dX6_sheet_45 : decode cX6_sheet 45 = .ok (.aload_n 0, 1) := by decide +kernel
theorem dX6_sheet_46 : decode cX6_sheet 46 = .ok (.getfield 71, 3) := by decide +kernel
theorem dX6_sheet_49 : decode cX6_sheet 49 = .ok (.iload_n 1, 1) := by decide +kernel
theorem dX6_sheet_50 : decode cX6_sheet 50 = .ok (.iload_n 2, 1) := by decide +kernel
theorem dX6_sheet_51 : decode cX6_sheet 51 = .ok (.ifCond .lt 7, 3) := by decide +kernel
theorem dX6_sheet_54 : decode cX6_sheet 54 = .ok (.iconst 1, 1) := by decide +kernel
theorem dX6_sheet_55 : decode cX6_sheet 55 = .ok (.goto 4, 3) := by decide +kernel
theorem dX6_sheet_58 : decode cX6_sheet 58 = .ok (.iconst 0, 1) := by decide +kernel
theorem dX6_sheet_59 : decode cX6_sheet 59 = .ok (.bastore, 1) := by decide +kernel
theorem dX6_sheet_60 : decode cX6_sheet 60 = .ok (.aload_n 0, 1) := by decide +kernel
theorem dX6_sheet_61 : decode cX6_sheet 61 = .ok (.getfield 75, 3) := by decide +kernel
theorem dX6_sheet_64 : decode cX6_sheet 64 = .ok (.iload_n 1, 1) := by decide +kernel
theorem dX6_sheet_65 : decode cX6_sheet 65 = .ok (.iload_n 2, 1) := by decide +kernel
theorem dX6_sheet_66 : decode cX6_sheet 66 = .ok (.iastore, 1) := by decide +kernel
theorem dX6_sheet_67 : decode cX6_sheet 67 = .ok (.aload_n 0, 1) := by decide +kernel
theorem dX6_sheet_68 : decode cX6_sheet 68 = .ok (.getfield 78, 3) := by decide +kernel
theorem dX6_sheet_71 : decode cX6_sheet 71 = .ok (.iload_n 1, 1) := by decide +kernel
theorem dX6_sheet_72 : decode cX6_sheet 72 = .ok (.iload_n 3, 1) := by decide +kernel
theorem dX6_sheet_73 : decode cX6_sheet 73 = .ok (.iastore, 1) := by decide +kernel
theorem dX6_sheet_74 : decode cX6_sheet 74 = .ok (.iconst 0, 1) := by decide +kernel
theorem dX6_sheet_75 : decode cX6_sheet 75 = .ok (.istore 4, 2) := by decide +kernel
theorem dX6_sheet_77 : decode cX6_sheet 77 = .ok (.iload 4, 2) := by decide +kernel
theorem dX6_sheet_79 : decode cX6_sheet 79 = .ok (.iload_n 3, 1) := by decide +kernel
theorem dX6_sheet_80 : decode cX6_sheet 80 = .ok (.if_icmp .ge 26, 3) := by decide +kernel
theorem dX6_sheet_83 : decode cX6_sheet 83 = .ok (.iload_n 2, 1) := by decide +kernel
theorem dX6_sheet_84 : decode cX6_sheet 84 = .ok (.ifCond .lt 22, 3) := by decide +kernel
theorem dX6_sheet_87 : decode cX6_sheet 87 = .ok (.aload_n 0, 1) := by decide +kernel
theorem dX6_sheet_88 : decode cX6_sheet 88 = .ok (.getfield 81, 3) := by decide +kernel
theorem dX6_sheet_91 : decode cX6_sheet 91 = .ok (.bipush 40, 2) := by decide +kernel
theorem dX6_sheet_93 : decode cX6_sheet 93 = .ok (.iload_n 1, 1) := by decide +kernel
theorem dX6_sheet_94 : decode cX6_sheet 94 = .ok (.imul, 1) := by decide +kernel
theorem dX6_sheet_95 : decode cX6_sheet 95 = .ok (.iload 4, 2) := by decide +kernel
theorem dX6_sheet_97 : decode cX6_sheet 97 = .ok (.iadd, 1) := by decide +kernel
theorem dX6_sheet_98 : decode cX6_sheet 98 = .ok (.iconst 0, 1) := by decide +kernel
theorem dX6_sheet_99 : decode cX6_sheet 99 = .ok (.iastore, 1) := by decide +kernel
theorem dX6_sheet_100 : decode cX6_sheet 100 = .ok (.iinc 4 1, 3) := by decide +kernel
theorem dX6_sheet_103 : decode cX6_sheet 103 = .ok (.goto (-26), 3) := by decide +kernel
theorem dX6_sheet_106 : decode cX6_sheet 106 = .ok (.iconst 1, 1) := by decide +kernel
theorem dX6_sheet_107 : decode cX6_sheet 107 = .ok (.ireturn, 1) := by decide +kernel
theorem dX6_cell_0 : decode cX6_cell 0 = .ok (.iload_n 1, 1) := by decide +kernel
theorem dX6_cell_1 : decode cX6_cell 1 = .ok (.invokestatic 303, 3) := by decide +kernel
theorem dX6_cell_4 : decode cX6_cell 4 = .ok (.ifCond .ne 6, 3) := by decide +kernel
theorem dX6_cell_7 : decode cX6_cell 7 = .ok (.bipush (-2), 2) := by decide +kernel
theorem dX6_cell_9 : decode cX6_cell 9 = .ok (.ireturn, 1) := by decide +kernel
theorem dX6_cell_10 : decode cX6_cell 10 = .ok (.aload_n 0, 1) := by decide +kernel
theorem dX6_cell_11 : decode cX6_cell 11 = .ok (.getfield 71, 3) := by decide +kernel
theorem dX6_cell_14 : decode cX6_cell 14 = .ok (.iload_n 1, 1) := by decide +kernel
theorem dX6_cell_15 : decode cX6_cell 15 = .ok (.baload, 1) := by decide +kernel
theorem dX6_cell_16 : decode cX6_cell 16 = .ok (.ifCond .ne 6, 3) := by decide +kernel
theorem dX6_cell_19 : decode cX6_cell 19 = .ok (.bipush (-11), 2) := by decide +kernel
theorem dX6_cell_21 : decode cX6_cell 21 = .ok (.ireturn, 1) := by decide +kernel
theorem dX6_cell_22 : decode cX6_cell 22 = .ok (.iload_n 2, 1) := by decide +kernel
theorem dX6_cell_23 : decode cX6_cell 23 = .ok (.i2l, 1) := by decide +kernel
theorem dX6_cell_24 : decode cX6_cell 24 = .ok (.lconst 0, 1) := by decide +kernel
theorem dX6_cell_25 : decode cX6_cell 25 = .ok (.aload_n 0, 1) := by decide +kernel
theorem dX6_cell_26 : decode cX6_cell 26 = .ok (.getfield 78, 3) := by decide +kernel
theorem dX6_cell_29 : decode cX6_cell 29 = .ok (.iload_n 1, 1) := by decide +kernel
theorem dX6_cell_30 : decode cX6_cell 30 = .ok (.iaload, 1) := by decide +kernel
theorem dX6_cell_31 : decode cX6_cell 31 = .ok (.iconst 1, 1) := by decide +kernel
theorem dX6_cell_32 : decode cX6_cell 32 = .ok (.isub, 1) := by decide +kernel
theorem dX6_cell_33 : decode cX6_cell 33 = .ok (.i2l, 1) := by decide +kernel
theorem dX6_cell_34 : decode cX6_cell 34 = .ok (.invokestatic 94, 3) := by decide +kernel
theorem dX6_cell_37 : decode cX6_cell 37 = .ok (.ifCond .ne 6, 3) := by decide +kernel
theorem dX6_cell_40 : decode cX6_cell 40 = .ok (.bipush (-12), 2) := by decide +kernel
theorem dX6_cell_42 : decode cX6_cell 42 = .ok (.ireturn, 1) := by decide +kernel
theorem dX6_cell_43 : decode cX6_cell 43 = .ok (.aload_n 0, 1) := by decide +kernel
theorem dX6_cell_44 : decode cX6_cell 44 = .ok (.getfield 81, 3) := by decide +kernel
theorem dX6_cell_47 : decode cX6_cell 47 = .ok (.bipush 40, 2) := by decide +kernel
theorem dX6_cell_49 : decode cX6_cell 49 = .ok (.iload_n 1, 1) := by decide +kernel
theorem dX6_cell_50 : decode cX6_cell 50 = .ok (.imul, 1) := by decide +kernel
theorem dX6_cell_51 : decode cX6_cell 51 = .ok (.iload_n 2, 1) := by decide +kernel
theorem dX6_cell_52 : decode cX6_cell 52 = .ok (.iadd, 1) := by decide +kernel
theorem dX6_cell_53 : decode cX6_cell 53 = .ok (.aload_n 0, 1) := by decide +kernel
theorem dX6_cell_54 : decode cX6_cell 54 = .ok (.getfield 75, 3) := by decide +kernel
theorem dX6_cell_57 : decode cX6_cell 57 = .ok (.iload_n 1, 1) := by decide +kernel
theorem dX6_cell_58 : decode cX6_cell 58 = .ok (.iaload, 1) := by decide +kernel
theorem dX6_cell_59 : decode cX6_cell 59 = .ok (.ifCond .ne 8, 3) := by decide +kernel
theorem dX6_cell_62 : decode cX6_cell 62 = .ok (.iload_n 3, 1) := by decide +kernel
theorem dX6_cell_63 : decode cX6_cell 63 = .ok (.i2b, 1) := by decide +kernel
theorem dX6_cell_64 : decode cX6_cell 64 = .ok (.goto 19, 3) := by decide +kernel
theorem dX6_cell_67 : decode cX6_cell 67 = .ok (.aload_n 0, 1) := by decide +kernel
theorem dX6_cell_68 : decode cX6_cell 68 = .ok (.getfield 75, 3) := by decide +kernel
theorem dX6_cell_71 : decode cX6_cell 71 = .ok (.iload_n 1, 1) := by decide +kernel
theorem dX6_cell_72 : decode cX6_cell 72 = .ok (.iaload, 1) := by decide +kernel
theorem dX6_cell_73 : decode cX6_cell 73 = .ok (.iconst 1, 1) := by decide +kernel
theorem dX6_cell_74 : decode cX6_cell 74 = .ok (.if_icmp .ne 8, 3) := by decide +kernel
theorem dX6_cell_77 : decode cX6_cell 77 = .ok (.iload_n 3, 1) := by decide +kernel
theorem dX6_cell_78 : decode cX6_cell 78 = .ok (.i2s, 1) := by decide +kernel
theorem dX6_cell_79 : decode cX6_cell 79 = .ok (.goto 4, 3) := by decide +kernel
theorem dX6_cell_82 : decode cX6_cell 82 = .ok (.iload_n 3, 1) := by decide +kernel
theorem dX6_cell_83 : decode cX6_cell 83 = .ok (.iastore, 1) := by decide +kernel
theorem dX6_cell_84 : decode cX6_cell 84 = .ok (.iconst 1, 1) := by decide +kernel
theorem dX6_cell_85 : decode cX6_cell 85 = .ok (.ireturn, 1) := by decide +kernel
theorem dX6_copy_0 : decode cX6_copy 0 = .ok (.iload_n 1, 1) := by decide +kernel
theorem dX6_copy_1 : decode cX6_copy 1 = .ok (.invokestatic 303, 3) := by decide +kernel
theorem dX6_copy_4 : decode cX6_copy 4 = .ok (.ifCond .eq 10, 3) := by decide +kernel
theorem dX6_copy_7 : decode cX6_copy 7 = .ok (.iload_n 3, 1) := by decide +kernel
theorem dX6_copy_8 : decode cX6_copy 8 = .ok (.invokestatic 303, 3) := by decide +kernel
theorem dX6_copy_11 : decode cX6_copy 11 = .ok (.ifCond .ne 6, 3) := by decide +kernel
theorem dX6_copy_14 : decode cX6_copy 14 = .ok (.bipush (-2), 2) := by decide +kernel
theorem dX6_copy_16 : decode cX6_copy 16 = .ok (.ireturn, 1) := by decide +kernel
theorem dX6_copy_17 : decode cX6_copy 17 = .ok (.aload_n 0, 1) := by decide +kernel
theorem dX6_copy_18 : decode cX6_copy 18 = .ok (.getfield 71, 3) := by decide +kernel
theorem dX6_copy_21 : decode cX6_copy 21 = .ok (.iload_n 1, 1) := by decide +kernel
theorem dX6_copy_22 : decode cX6_copy 22 = .ok (.baload, 1) := by decide +kernel
theorem dX6_copy_23 : decode cX6_copy 23 = .ok (.ifCond .eq 12, 3) := by decide +kernel
theorem dX6_copy_26 : decode cX6_copy 26 = .ok (.aload_n 0, 1) := by decide +kernel
theorem dX6_copy_27 : decode cX6_copy 27 = .ok (.getfield 71, 3) := by decide +kernel
theorem dX6_copy_30 : decode cX6_copy 30 = .ok (.iload_n 3, 1) := by decide +kernel
theorem dX6_copy_31 : decode cX6_copy 31 = .ok (.baload, 1) := by decide +kernel
theorem dX6_copy_32 : decode cX6_copy 32 = .ok (.ifCond .ne 6, 3) := by decide +kernel
theorem dX6_copy_35 : decode cX6_copy 35 = .ok (.bipush (-11), 2) := by decide +kernel
theorem dX6_copy_37 : decode cX6_copy 37 = .ok (.ireturn, 1) := by decide +kernel
theorem dX6_copy_38 : decode cX6_copy 38 = .ok (.aload_n 0, 1) := by decide +kernel
theorem dX6_copy_39 : decode cX6_copy 39 = .ok (.getfield 75, 3) := by decide +kernel
theorem dX6_copy_42 : decode cX6_copy 42 = .ok (.iload_n 1, 1) := by decide +kernel
theorem dX6_copy_43 : decode cX6_copy 43 = .ok (.iaload, 1) := by decide +kernel
theorem dX6_copy_44 : decode cX6_copy 44 = .ok (.aload_n 0, 1) := by decide +kernel
theorem dX6_copy_45 : decode cX6_copy 45 = .ok (.getfield 75, 3) := by decide +kernel
theorem dX6_copy_48 : decode cX6_copy 48 = .ok (.iload_n 3, 1) := by decide +kernel
theorem dX6_copy_49 : decode cX6_copy 49 = .ok (.iaload, 1) := by decide +kernel
theorem dX6_copy_50 : decode cX6_copy 50 = .ok (.if_icmp .eq 6, 3) := by decide +kernel
theorem dX6_copy_53 : decode cX6_copy 53 = .ok (.bipush (-13), 2) := by decide +kernel
theorem dX6_copy_55 : decode cX6_copy 55 = .ok (.ireturn, 1) := by decide +kernel
theorem dX6_copy_56 : decode cX6_copy 56 = .ok (.iload 5, 2) := by decide +kernel
theorem dX6_copy_58 : decode cX6_copy 58 = .ok (.ifCond .lt 39, 3) := by decide +kernel
theorem dX6_copy_61 : decode cX6_copy 61 = .ok (.iload_n 2, 1) := by decide +kernel
theorem dX6_copy_62 : decode cX6_copy 62 = .ok (.ifCond .lt 35, 3) := by decide +kernel
theorem dX6_copy_65 : decode cX6_copy 65 = .ok (.iload 4, 2) := by decide +kernel
theorem dX6_copy_67 : decode cX6_copy 67 = .ok (.ifCond .lt 30, 3) := by decide +kernel
theorem dX6_copy_70 : decode cX6_copy 70 = .ok (.iload_n 2, 1) := by decide +kernel
theorem dX6_copy_71 : decode cX6_copy 71 = .ok (.aload_n 0, 1) := by decide +kernel
theorem dX6_copy_72 : decode cX6_copy 72 = .ok (.getfield 78, 3) := by decide +kernel
theorem dX6_copy_75 : decode cX6_copy 75 = .ok (.iload_n 1, 1) := by decide +kernel
theorem dX6_copy_76 : decode cX6_copy 76 = .ok (.iaload, 1) := by decide +kernel
theorem dX6_copy_77 : decode cX6_copy 77 = .ok (.iload 5, 2) := by decide +kernel
theorem dX6_copy_79 : decode cX6_copy 79 = .ok (.isub, 1) := by decide +kernel
theorem dX6_copy_80 : decode cX6_copy 80 = .ok (.if_icmp .gt 17, 3) := by decide +kernel
theorem dX6_copy_83 : decode cX6_copy 83 = .ok (.iload 4, 2) := by decide +kernel
theorem dX6_copy_85 : decode cX6_copy 85 = .ok (.aload_n 0, 1) := by decide +kernel
theorem dX6_copy_86 : decode cX6_copy 86 = .ok (.getfield 78, 3) := by decide +kernel
theorem dX6_copy_89 : decode cX6_copy 89 = .ok (.iload_n 3, 1) := by decide +kernel
theorem dX6_copy_90 : decode cX6_copy 90 = .ok (.iaload, 1) := by decide +kernel
theorem dX6_copy_91 : decode cX6_copy 91 = .ok (.iload 5, 2) := by decide +kernel
theorem dX6_copy_93 : decode cX6_copy 93 = .ok (.isub, 1) := by decide +kernel
theorem dX6_copy_94 : decode cX6_copy 94 = .ok (.if_icmp .le 6, 3) := by decide +kernel
theorem dX6_copy_97 : decode cX6_copy 97 = .ok (.bipush (-12), 2) := by decide +kernel
theorem dX6_copy_99 : decode cX6_copy 99 = .ok (.ireturn, 1) := by decide +kernel
theorem dX6_copy_100 : decode cX6_copy 100 = .ok (.iload_n 1, 1) := by decide +kernel
theorem dX6_copy_101 : decode cX6_copy 101 = .ok (.iload_n 3, 1) := by decide +kernel
theorem dX6_copy_102 : decode cX6_copy 102 = .ok (.if_icmp .ne 13, 3) := by decide +kernel
theorem dX6_copy_105 : decode cX6_copy 105 = .ok (.iload_n 2, 1) := by decide +kernel
theorem dX6_copy_106 : decode cX6_copy 106 = .ok (.iload 4, 2) := by decide +kernel
theorem dX6_copy_108 : decode cX6_copy 108 = .ok (.if_icmp .ge 7, 3) := by decide +kernel
theorem dX6_copy_111 : decode cX6_copy 111 = .ok (.iconst 1, 1) := by decide +kernel
theorem dX6_copy_112 : decode cX6_copy 112 = .ok (.goto 4, 3) := by decide +kernel
theorem dX6_copy_115 : decode cX6_copy 115 = .ok (.iconst 0, 1) := by decide +kernel
theorem dX6_copy_116 : decode cX6_copy 116 = .ok (.istore 6, 2) := by decide +kernel
theorem dX6_copy_118 : decode cX6_copy 118 = .ok (.iconst 0, 1) := by decide +kernel
theorem dX6_copy_119 : decode cX6_copy 119 = .ok (.istore 7, 2) := by decide +kernel
theorem dX6_copy_121 : decode cX6_copy 121 = .ok (.iload 7, 2) := by decide +kernel
theorem dX6_copy_123 : decode cX6_copy 123 = .ok (.iload 5, 2) := by decide +kernel
theorem dX6_copy_125 : decode cX6_copy 125 = .ok (.if_icmp .ge 57, 3) := by decide +kernel
theorem dX6_copy_128 : decode cX6_copy 128 = .ok (.iload 6, 2) := by decide +kernel
theorem dX6_copy_130 : decode cX6_copy 130 = .ok (.ifCond .eq 13, 3) := by decide +kernel
theorem dX6_copy_133 : decode cX6_copy 133 = .ok (.iload 5, 2) := by decide +kernel
theorem dX6_copy_135 : decode cX6_copy 135 = .ok (.iconst 1, 1) := by decide +kernel
theorem dX6_copy_136 : decode cX6_copy 136 = .ok (.isub, 1) := by decide +kernel
theorem dX6_copy_137 : decode cX6_copy 137 = .ok (.iload 7, 2) := by decide +kernel
theorem dX6_copy_139 : decode cX6_copy 139 = .ok (.isub, 1) := by decide +kernel
theorem dX6_copy_140 : decode cX6_copy 140 = .ok (.goto 5, 3) := by decide +kernel
theorem dX6_copy_143 : decode cX6_copy 143 = .ok (.iload 7, 2) := by decide +kernel
theorem dX6_copy_145 : decode cX6_copy 145 = .ok (.istore 8, 2) := by decide +kernel
theorem dX6_copy_147 : decode cX6_copy 147 = .ok (.aload_n 0, 1) := by decide +kernel
theorem dX6_copy_148 : decode cX6_copy 148 = .ok (.getfield 81, 3) := by decide +kernel
theorem dX6_copy_151 : decode cX6_copy 151 = .ok (.bipush 40, 2) := by decide +kernel
theorem dX6_copy_153 : decode cX6_copy 153 = .ok (.iload_n 3, 1) := by decide +kernel
theorem dX6_copy_154 : decode cX6_copy 154 = .ok (.imul, 1) := by decide +kernel
theorem dX6_copy_155 : decode cX6_copy 155 = .ok (.iload 4, 2) := by decide +kernel
theorem dX6_copy_157 : decode cX6_copy 157 = .ok (.iadd, 1) := by decide +kernel
theorem dX6_copy_158 : decode cX6_copy 158 = .ok (.iload 8, 2) := by decide +kernel
theorem dX6_copy_160 : decode cX6_copy 160 = .ok (.iadd, 1) := by decide +kernel
theorem dX6_copy_161 : decode cX6_copy 161 = .ok (.aload_n 0, 1) := by decide +kernel
theorem dX6_copy_162 : decode cX6_copy 162 = .ok (.getfield 81, 3) := by decide +kernel
theorem dX6_copy_165 : decode cX6_copy 165 = .ok (.bipush 40, 2) := by decide +kernel
theorem dX6_copy_167 : decode cX6_copy 167 = .ok (.iload_n 1, 1) := by decide +kernel
theorem dX6_copy_168 : decode cX6_copy 168 = .ok (.imul, 1) := by decide +kernel
theorem dX6_copy_169 : decode cX6_copy 169 = .ok (.iload_n 2, 1) := by decide +kernel
theorem dX6_copy_170 : decode cX6_copy 170 = .ok (.iadd, 1) := by decide +kernel
theorem dX6_copy_171 : decode cX6_copy 171 = .ok (.iload 8, 2) := by decide +kernel
theorem dX6_copy_173 : decode cX6_copy 173 = .ok (.iadd, 1) := by decide +kernel
theorem dX6_copy_174 : decode cX6_copy 174 = .ok (.iaload, 1) := by decide +kernel
theorem dX6_copy_175 : decode cX6_copy 175 = .ok (.iastore, 1) := by decide +kernel
theorem dX6_copy_176 : decode cX6_copy 176 = .ok (.iinc 7 1, 3) := by decide +kernel
theorem dX6_copy_179 : decode cX6_copy 179 = .ok (.goto (-58), 3) := by decide +kernel
theorem dX6_copy_182 : decode cX6_copy 182 = .ok (.iload 5, 2) := by decide +kernel
theorem dX6_copy_184 : decode cX6_copy 184 = .ok (.ireturn, 1) := by decide +kernel
theorem dX6_eaters_0 : decode cX6_eaters 0 = .ok (.iload_n 1, 1) := by decide +kernel
theorem dX6_eaters_1 : decode cX6_eaters 1 = .ok (.invokestatic 303, 3) := by decide +kernel
theorem dX6_eaters_4 : decode cX6_eaters 4 = .ok (.ifCond .eq 28, 3) := by decide +kernel
theorem dX6_eaters_7 : decode cX6_eaters 7 = .ok (.iload_n 2, 1) := by decide +kernel
theorem dX6_eaters_8 : decode cX6_eaters 8 = .ok (.i2l, 1) := by decide +kernel
theorem dX6_eaters_9 : decode cX6_eaters 9 = .ok (.lconst 0, 1) := by decide +kernel
theorem dX6_eaters_10 : decode cX6_eaters 10 = .ok (.ldc2_w 106, 3) := by decide +kernel
theorem dX6_eaters_13 : decode cX6_eaters 13 = .ok (.invokestatic 94, 3) := by decide +kernel
theorem dX6_eaters_16 : decode cX6_eaters 16 = .ok (.ifCond .eq 16, 3) := by decide +kernel
theorem dX6_eaters_19 : decode cX6_eaters 19 = .ok (.iload 4, 2) := by decide +kernel
theorem dX6_eaters_21 : decode cX6_eaters 21 = .ok (.i2l, 1) := by decide +kernel
theorem dX6_eaters_22 : decode cX6_eaters 22 = .ok (.lconst 0, 1) := by decide +kernel
theorem dX6_eaters_23 : decode cX6_eaters 23 = .ok (.ldc2_w 112, 3) := by decide +kernel
theorem dX6_eaters_26 : decode cX6_eaters 26 = .ok (.invokestatic 94, 3) := by decide +kernel
theorem dX6_eaters_29 : decode cX6_eaters 29 = .ok (.ifCond .ne 6, 3) := by decide +kernel
theorem dX6_eaters_32 : decode cX6_eaters 32 = .ok (.bipush (-2), 2) := by decide +kernel
theorem dX6_eaters_34 : decode cX6_eaters 34 = .ok (.ireturn, 1) := by decide +kernel
theorem dX6_eaters_35 : decode cX6_eaters 35 = .ok (.aload_n 0, 1) := by decide +kernel
theorem dX6_eaters_36 : decode cX6_eaters 36 = .ok (.getfield 71, 3) := by decide +kernel
theorem dX6_eaters_39 : decode cX6_eaters 39 = .ok (.iload_n 1, 1) := by decide +kernel
theorem dX6_eaters_40 : decode cX6_eaters 40 = .ok (.baload, 1) := by decide +kernel
theorem dX6_eaters_41 : decode cX6_eaters 41 = .ok (.ifCond .eq 16, 3) := by decide +kernel
theorem dX6_eaters_44 : decode cX6_eaters 44 = .ok (.aload_n 0, 1) := by decide +kernel
theorem dX6_eaters_45 : decode cX6_eaters 45 = .ok (.getfield 75, 3) := by decide +kernel
theorem dX6_eaters_48 : decode cX6_eaters 48 = .ok (.iload_n 1, 1) := by decide +kernel
theorem dX6_eaters_49 : decode cX6_eaters 49 = .ok (.iaload, 1) := by decide +kernel
theorem dX6_eaters_50 : decode cX6_eaters 50 = .ok (.iload_n 2, 1) := by decide +kernel
theorem dX6_eaters_51 : decode cX6_eaters 51 = .ok (.if_icmp .eq 6, 3) := by decide +kernel
theorem dX6_eaters_54 : decode cX6_eaters 54 = .ok (.bipush (-13), 2) := by decide +kernel
theorem dX6_eaters_56 : decode cX6_eaters 56 = .ok (.ireturn, 1) := by decide +kernel
theorem dX6_eaters_57 : decode cX6_eaters 57 = .ok (.aload_n 0, 1) := by decide +kernel
theorem dX6_eaters_58 : decode cX6_eaters 58 = .ok (.getfield 71, 3) := by decide +kernel
theorem dX6_eaters_61 : decode cX6_eaters 61 = .ok (.iload_n 1, 1) := by decide +kernel
theorem dX6_eaters_62 : decode cX6_eaters 62 = .ok (.baload, 1) := by decide +kernel
theorem dX6_eaters_63 : decode cX6_eaters 63 = .ok (.ifCond .ne 6, 3) := by decide +kernel
theorem dX6_eaters_66 : decode cX6_eaters 66 = .ok (.bipush (-11), 2) := by decide +kernel
theorem dX6_eaters_68 : decode cX6_eaters 68 = .ok (.ireturn, 1) := by decide +kernel
theorem dX6_eaters_69 : decode cX6_eaters 69 = .ok (.iconst 0, 1) := by decide +kernel
theorem dX6_eaters_70 : decode cX6_eaters 70 = .ok (.istore 5, 2) := by decide +kernel
theorem dX6_eaters_72 : decode cX6_eaters 72 = .ok (.iconst 0, 1) := by decide +kernel
theorem dX6_eaters_73 : decode cX6_eaters 73 = .ok (.istore 6, 2) := by decide +kernel
theorem dX6_eaters_75 : decode cX6_eaters 75 = .ok (.iload 6, 2) := by decide +kernel
theorem dX6_eaters_77 : decode cX6_eaters 77 = .ok (.iload 4, 2) := by decide +kernel
theorem dX6_eaters_79 : decode cX6_eaters 79 = .ok (.if_icmp .ge 88, 3) := by decide +kernel
theorem dX6_eaters_82 : decode cX6_eaters 82 = .ok (.iload_n 3, 1) := by decide +kernel
theorem dX6_eaters_83 : decode cX6_eaters 83 = .ok (.ifCond .lt 20, 3) := by decide +kernel
theorem dX6_eaters_86 : decode cX6_eaters 86 = .ok (.iload_n 3, 1) := by decide +kernel
theorem dX6_eaters_87 : decode cX6_eaters 87 = .ok (.aload_n 0, 1) := by decide +kernel
theorem dX6_eaters_88 : decode cX6_eaters 88 = .ok (.getfield 78, 3) := by decide +kernel
theorem dX6_eaters_91 : decode cX6_eaters 91 = .ok (.iload_n 1, 1) := by decide +kernel
theorem dX6_eaters_92 : decode cX6_eaters 92 = .ok (.iaload, 1) := by decide +kernel
theorem dX6_eaters_93 : decode cX6_eaters 93 = .ok (.iconst 3, 1) := by decide +kernel
theorem dX6_eaters_94 : decode cX6_eaters 94 = .ok (.iload 6, 2) := by decide +kernel
theorem dX6_eaters_96 : decode cX6_eaters 96 = .ok (.imul, 1) := by decide +kernel
theorem dX6_eaters_97 : decode cX6_eaters 97 = .ok (.isub, 1) := by decide +kernel
theorem dX6_eaters_98 : decode cX6_eaters 98 = .ok (.iconst 3, 1) := by decide +kernel
theorem dX6_eaters_99 : decode cX6_eaters 99 = .ok (.isub, 1) := by decide +kernel
theorem dX6_eaters_100 : decode cX6_eaters 100 = .ok (.if_icmp .le 6, 3) := by decide +kernel
theorem dX6_eaters_103 : decode cX6_eaters 103 = .ok (.bipush (-12), 2) := by decide +kernel
theorem dX6_eaters_105 : decode cX6_eaters 105 = .ok (.ireturn, 1) := by decide +kernel
theorem dX6_eaters_106 : decode cX6_eaters 106 = .ok (.bipush 40, 2) := by decide +kernel
theorem dX6_eaters_108 : decode cX6_eaters 108 = .ok (.iload_n 1, 1) := by decide +kernel
theorem dX6_eaters_109 : decode cX6_eaters 109 = .ok (.imul, 1) := by decide +kernel
theorem dX6_eaters_110 : decode cX6_eaters 110 = .ok (.iload_n 3, 1) := by decide +kernel
theorem dX6_eaters_111 : decode cX6_eaters 111 = .ok (.iadd, 1) := by decide +kernel
theorem dX6_eaters_112 : decode cX6_eaters 112 = .ok (.iconst 3, 1) := by decide +kernel
theorem dX6_eaters_113 : decode cX6_eaters 113 = .ok (.iload 6, 2) := by decide +kernel
theorem dX6_eaters_115 : decode cX6_eaters 115 = .ok (.imul, 1) := by decide +kernel
theorem dX6_eaters_116 : decode cX6_eaters 116 = .ok (.iadd, 1) := by decide +kernel
theorem dX6_eaters_117 : decode cX6_eaters 117 = .ok (.istore 7, 2) := by decide +kernel
theorem dX6_eaters_119 : decode cX6_eaters 119 = .ok (.iload 5, 2) := by decide +kernel
theorem dX6_eaters_121 : decode cX6_eaters 121 = .ok (.aload_n 0, 1) := by decide +kernel
theorem dX6_eaters_122 : decode cX6_eaters 122 = .ok (.aload_n 0, 1) := by decide +kernel
theorem dX6_eaters_123 : decode cX6_eaters 123 = .ok (.getfield 81, 3) := by decide +kernel
theorem dX6_eaters_126 : decode cX6_eaters 126 = .ok (.iload 7, 2) := by decide +kernel
theorem dX6_eaters_128 : decode cX6_eaters 128 = .ok (.iaload, 1) := by decide +kernel
theorem dX6_eaters_129 : decode cX6_eaters 129 = .ok (.aload_n 0, 1) := by decide +kernel
theorem dX6_eaters_130 : decode cX6_eaters 130 = .ok (.getfield 81, 3) := by decide +kernel
theorem dX6_eaters_133 : decode cX6_eaters 133 = .ok (.iload 7, 2) := by decide +kernel
theorem dX6_eaters_135 : decode cX6_eaters 135 = .ok (.iconst 1, 1) := by decide +kernel
theorem dX6_eaters_136 : decode cX6_eaters 136 = .ok (.iadd, 1) := by decide +kernel
theorem dX6_eaters_137 : decode cX6_eaters 137 = .ok (.iaload, 1) := by decide +kernel
theorem dX6_eaters_138 : decode cX6_eaters 138 = .ok (.aload_n 0, 1) := by decide +kernel
theorem dX6_eaters_139 : decode cX6_eaters 139 = .ok (.getfield 81, 3) := by decide +kernel
theorem dX6_eaters_142 : decode cX6_eaters 142 = .ok (.iload 7, 2) := by decide +kernel
theorem dX6_eaters_144 : decode cX6_eaters 144 = .ok (.iconst 2, 1) := by decide +kernel
theorem dX6_eaters_145 : decode cX6_eaters 145 = .ok (.iadd, 1) := by decide +kernel
theorem dX6_eaters_146 : decode cX6_eaters 146 = .ok (.iaload, 1) := by decide +kernel
theorem dX6_eaters_147 : decode cX6_eaters 147 = .ok (.invokevirtual 360, 3) := by decide +kernel
theorem dX6_eaters_150 : decode cX6_eaters 150 = .ok (.ifCond .lt 7, 3) := by decide +kernel
theorem dX6_eaters_153 : decode cX6_eaters 153 = .ok (.iconst 1, 1) := by decide +kernel
theorem dX6_eaters_154 : decode cX6_eaters 154 = .ok (.goto 4, 3) := by decide +kernel
theorem dX6_eaters_157 : decode cX6_eaters 157 = .ok (.iconst 0, 1) := by decide +kernel
theorem dX6_eaters_158 : decode cX6_eaters 158 = .ok (.iadd, 1) := by decide +kernel
theorem dX6_eaters_159 : decode cX6_eaters 159 = .ok (.istore 5, 2) := by decide +kernel
theorem dX6_eaters_161 : decode cX6_eaters 161 = .ok (.iinc 6 1, 3) := by decide +kernel
theorem dX6_eaters_164 : decode cX6_eaters 164 = .ok (.goto (-89), 3) := by decide +kernel
theorem dX6_eaters_167 : decode cX6_eaters 167 = .ok (.iload 5, 2) := by decide +kernel
theorem dX6_eaters_169 : decode cX6_eaters 169 = .ok (.ireturn, 1) := by decide +kernel
theorem dX6_over_0 : decode cX6_over 0 = .ok (.iload_n 0, 1) := by decide +kernel
theorem dX6_over_1 : decode cX6_over 1 = .ok (.ifCond .ne 7, 3) := by decide +kernel
theorem dX6_over_4 : decode cX6_over 4 = .ok (.iconst (-1), 1) := by decide +kernel
theorem dX6_over_5 : decode cX6_over 5 = .ok (.goto 22, 3) := by decide +kernel
theorem dX6_over_8 : decode cX6_over 8 = .ok (.iload_n 0, 1) := by decide +kernel
theorem dX6_over_9 : decode cX6_over 9 = .ok (.iconst 3, 1) := by decide +kernel
theorem dX6_over_10 : decode cX6_over 10 = .ok (.if_icmp .ne 7, 3) := by decide +kernel
theorem dX6_over_13 : decode cX6_over 13 = .ok (.iconst 1, 1) := by decide +kernel
theorem dX6_over_14 : decode cX6_over 14 = .ok (.goto 13, 3) := by decide +kernel
theorem dX6_over_17 : decode cX6_over 17 = .ok (.iload_n 0, 1) := by decide +kernel
theorem dX6_over_18 : decode cX6_over 18 = .ok (.iconst 4, 1) := by decide +kernel
theorem dX6_over_19 : decode cX6_over 19 = .ok (.if_icmp .ne 7, 3) := by decide +kernel
theorem dX6_over_22 : decode cX6_over 22 = .ok (.iconst 2, 1) := by decide +kernel
theorem dX6_over_23 : decode cX6_over 23 = .ok (.goto 4, 3) := by decide +kernel
theorem dX6_over_26 : decode cX6_over 26 = .ok (.iconst 0, 1) := by decide +kernel
theorem dX6_over_27 : decode cX6_over 27 = .ok (.ireturn, 1) := by decide +kernel
theorem dX6_taken_0 : decode cX6_taken 0 = .ok (.iload_n 2, 1) := by decide +kernel
theorem dX6_taken_1 : decode cX6_taken 1 = .ok (.i2l, 1) := by decide +kernel
theorem dX6_taken_2 : decode cX6_taken 2 = .ok (.lconst 0, 1) := by decide +kernel
theorem dX6_taken_3 : decode cX6_taken 3 = .ok (.ldc2_w 112, 3) := by decide +kernel
theorem dX6_taken_6 : decode cX6_taken 6 = .ok (.invokestatic 94, 3) := by decide +kernel
theorem dX6_taken_9 : decode cX6_taken 9 = .ok (.ifCond .ne 6, 3) := by decide +kernel
theorem dX6_taken_12 : decode cX6_taken 12 = .ok (.bipush (-2), 2) := by decide +kernel
theorem dX6_taken_14 : decode cX6_taken 14 = .ok (.ireturn, 1) := by decide +kernel
theorem dX6_taken_15 : decode cX6_taken 15 = .ok (.aload_n 0, 1) := by decide +kernel
theorem dX6_taken_16 : decode cX6_taken 16 = .ok (.iload_n 1, 1) := by decide +kernel
theorem dX6_taken_17 : decode cX6_taken 17 = .ok (.invokevirtual 100, 3) := by decide +kernel
theorem dX6_taken_20 : decode cX6_taken 20 = .ok (.ifCond .ne 6, 3) := by decide +kernel
theorem dX6_taken_23 : decode cX6_taken 23 = .ok (.bipush (-11), 2) := by decide +kernel
theorem dX6_taken_25 : decode cX6_taken 25 = .ok (.ireturn, 1) := by decide +kernel
theorem dX6_taken_26 : decode cX6_taken 26 = .ok (.aload_n 0, 1) := by decide +kernel
theorem dX6_taken_27 : decode cX6_taken 27 = .ok (.getfield 29, 3) := by decide +kernel
theorem dX6_taken_30 : decode cX6_taken 30 = .ok (.iload_n 1, 1) := by decide +kernel
theorem dX6_taken_31 : decode cX6_taken 31 = .ok (.iaload, 1) := by decide +kernel
theorem dX6_taken_32 : decode cX6_taken 32 = .ok (.istore_n 3, 1) := by decide +kernel
theorem dX6_taken_33 : decode cX6_taken 33 = .ok (.iload_n 3, 1) := by decide +kernel
theorem dX6_taken_34 : decode cX6_taken 34 = .ok (.iconst (-1), 1) := by decide +kernel
theorem dX6_taken_35 : decode cX6_taken 35 = .ok (.if_icmp .eq 16, 3) := by decide +kernel
theorem dX6_taken_38 : decode cX6_taken 38 = .ok (.iload_n 3, 1) := by decide +kernel
theorem dX6_taken_39 : decode cX6_taken 39 = .ok (.iload_n 2, 1) := by decide +kernel
theorem dX6_taken_40 : decode cX6_taken 40 = .ok (.if_icmp .eq 11, 3) := by decide +kernel
theorem dX6_taken_43 : decode cX6_taken 43 = .ok (.iload_n 3, 1) := by decide +kernel
theorem dX6_taken_44 : decode cX6_taken 44 = .ok (.invokestatic 363, 3) := by decide +kernel
theorem dX6_taken_47 : decode cX6_taken 47 = .ok (.istore_n 3, 1) := by decide +kernel
theorem dX6_taken_48 : decode cX6_taken 48 = .ok (.goto (-15), 3) := by decide +kernel
theorem dX6_taken_51 : decode cX6_taken 51 = .ok (.iload_n 3, 1) := by decide +kernel
theorem dX6_taken_52 : decode cX6_taken 52 = .ok (.iload_n 2, 1) := by decide +kernel
theorem dX6_taken_53 : decode cX6_taken 53 = .ok (.if_icmp .ne 12, 3) := by decide +kernel
theorem dX6_taken_56 : decode cX6_taken 56 = .ok (.aload_n 0, 1) := by decide +kernel
theorem dX6_taken_57 : decode cX6_taken 57 = .ok (.getfield 32, 3) := by decide +kernel
theorem dX6_taken_60 : decode cX6_taken 60 = .ok (.iload_n 1, 1) := by decide +kernel
theorem dX6_taken_61 : decode cX6_taken 61 = .ok (.iaload, 1) := by decide +kernel
theorem dX6_taken_62 : decode cX6_taken 62 = .ok (.goto 5, 3) := by decide +kernel
theorem dX6_taken_65 : decode cX6_taken 65 = .ok (.bipush (-13), 2) := by decide +kernel
theorem dX6_taken_67 : decode cX6_taken 67 = .ok (.ireturn, 1) := by decide +kernel
