theorem dX9_init_0 : decode cX9_init 0 = .ok (.aload_n 0, 1) := by decide +kernel
theorem dX9_init_1 : decode cX9_init 1 = .ok (.invokespecial 1, 3) := by decide +kernel
theorem dX9_init_4 : decode cX9_init 4 = .ok (.aload_n 0, 1) := by decide +kernel
theorem dX9_init_5 : decode cX9_init 5 = .ok (.iconst 0, 1) := by decide +kernel
theorem dX9_init_6 : decode cX9_init 6 = .ok (.putfield 7, 3) := by decide +kernel
theorem dX9_init_9 : decode cX9_init 9 = .ok (.aload_n 0, 1) := by decide +kernel
theorem dX9_init_10 : decode cX9_init 10 = .ok (.iconst 0, 1) := by decide +kernel
theorem dX9_init_11 : decode cX9_init 11 = .ok (.putfield 13, 3) := by decide +kernel
theorem dX9_init_14 : decode cX9_init 14 = .ok (.aload_n 0, 1) := by decide +kernel
theorem dX9_init_15 : decode cX9_init 15 = .ok (.iconst 0, 1) := by decide +kernel
theorem dX9_init_16 : decode cX9_init 16 = .ok (.putfield 16, 3) := by decide +kernel
theorem dX9_init_19 : decode cX9_init 19 = .ok (.aload_n 0, 1) := by decide +kernel
theorem dX9_init_20 : decode cX9_init 20 = .ok (.bipush 8, 2) := by decide +kernel
theorem dX9_init_22 : decode cX9_init 22 = .ok (.newarray .int, 2) := by decide +kernel
theorem dX9_init_24 : decode cX9_init 24 = .ok (.putfield 19, 3) := by decide +kernel
theorem dX9_init_27 : decode cX9_init 27 = .ok (.aload_n 0, 1) := by decide +kernel
theorem dX9_init_28 : decode cX9_init 28 = .ok (.bipush 14, 2) := by decide +kernel
theorem dX9_init_30 : decode cX9_init 30 = .ok (.newarray .int, 2) := by decide +kernel
theorem dX9_init_32 : decode cX9_init 32 = .ok (.putfield 23, 3) := by decide +kernel
theorem dX9_init_35 : decode cX9_init 35 = .ok (.aload_n 0, 1) := by decide +kernel
theorem dX9_init_36 : decode cX9_init 36 = .ok (.bipush 14, 2) := by decide +kernel
theorem dX9_init_38 : decode cX9_init 38 = .ok (.newarray .int, 2) := by decide +kernel
theorem dX9_init_40 : decode cX9_init 40 = .ok (.putfield 26, 3) := by decide +kernel
theorem dX9_init_43 : decode cX9_init 43 = .ok (.aload_n 0, 1) := by decide +kernel
theorem dX9_init_44 : decode cX9_init 44 = .ok (.bipush 14, 2) := by decide +kernel
theorem dX9_init_46 : decode cX9_init 46 = .ok (.newarray .int, 2) := by decide +kernel
theorem dX9_init_48 : decode cX9_init 48 = .ok (.putfield 29, 3) := by decide +kernel
theorem dX9_init_51 : decode cX9_init 51 = .ok (.aload_n 0, 1) := by decide +kernel
theorem dX9_init_52 : decode cX9_init 52 = .ok (.bipush 14, 2) := by decide +kernel
theorem dX9_init_54 : decode cX9_init 54 = .ok (.newarray .int, 2) := by decide +kernel
theorem dX9_init_56 : decode cX9_init 56 = .ok (.putfield 32, 3) := by decide +kernel
theorem dX9_init_59 : decode cX9_init 59 = .ok (.aload_n 0, 1) := by decide +kernel
theorem dX9_init_60 : decode cX9_init 60 = .ok (.bipush 56, 2) := by decide +kernel
theorem dX9_init_62 : decode cX9_init 62 = .ok (.newarray .int, 2) := by decide +kernel
theorem dX9_init_64 : decode cX9_init 64 = .ok (.putfield 35, 3) := by decide +kernel
theorem dX9_init_67 : decode cX9_init 67 = .ok (.aload_n 0, 1) := by decide +kernel
theorem dX9_init_68 : decode cX9_init 68 = .ok (.iconst 0, 1) := by decide +kernel
theorem dX9_init_69 : decode cX9_init 69 = .ok (.putfield 38, 3) := by decide +kernel
theorem dX9_init_72 : decode cX9_init 72 = .ok (.aload_n 0, 1) := by decide +kernel
theorem dX9_init_73 : decode cX9_init 73 = .ok (.iconst 0, 1) := by decide +kernel
theorem dX9_init_74 : decode cX9_init 74 = .ok (.putfield 41, 3) := by decide +kernel
theorem dX9_init_77 : decode cX9_init 77 = .ok (.aload_n 0, 1) := by decide +kernel
theorem dX9_init_78 : decode cX9_init 78 = .ok (.iconst 0, 1) := by decide +kernel
theorem dX9_init_79 : decode cX9_init 79 = .ok (.putfield 44, 3) := by decide +kernel
theorem dX9_init_82 : decode cX9_init 82 = .ok (.aload_n 0, 1) := by decide +kernel
theorem dX9_init_83 : decode cX9_init 83 = .ok (.bipush 100, 2) := by decide +kernel
theorem dX9_init_85 : decode cX9_init 85 = .ok (.newarray .int, 2) := by decide +kernel
theorem dX9_init_87 : decode cX9_init 87 = .ok (.putfield 47, 3) := by decide +kernel
theorem dX9_init_90 : decode cX9_init 90 = .ok (.aload_n 0, 1) := by decide +kernel
theorem dX9_init_91 : decode cX9_init 91 = .ok (.bipush 10, 2) := by decide +kernel
theorem dX9_init_93 : decode cX9_init 93 = .ok (.newarray .int, 2) := by decide +kernel
theorem dX9_init_95 : decode cX9_init 95 = .ok (.putfield 50, 3) := by decide +kernel
theorem dX9_init_98 : decode cX9_init 98 = .ok (.aload_n 0, 1) := by decide +kernel
theorem dX9_init_99 : decode cX9_init 99 = .ok (.bipush 10, 2) := by decide +kernel
theorem dX9_init_101 : decode cX9_init 101 = .ok (.newarray .int, 2) := by decide +kernel
theorem dX9_init_103 : decode cX9_init 103 = .ok (.putfield 53, 3) := by decide +kernel
theorem dX9_init_106 : decode cX9_init 106 = .ok (.aload_n 0, 1) := by decide +kernel
theorem dX9_init_107 : decode cX9_init 107 = .ok (.bipush 60, 2) := by decide +kernel
theorem dX9_init_109 : decode cX9_init 109 = .ok (.newarray .int, 2) := by decide +kernel
theorem dX9_init_111 : decode cX9_init 111 = .ok (.putfield 56, 3) := by decide +kernel
theorem dX9_init_114 : decode cX9_init 114 = .ok (.aload_n 0, 1) := by decide +kernel
theorem dX9_init_115 : decode cX9_init 115 = .ok (.bipush 60, 2) := by decide +kernel
theorem dX9_init_117 : decode cX9_init 117 = .ok (.newarray .int, 2) := by decide +kernel
theorem dX9_init_119 : decode cX9_init 119 = .ok (.putfield 59, 3) := by decide +kernel
theorem dX9_init_122 : decode cX9_init 122 = .ok (.aload_n 0, 1) := by decide +kernel
theorem dX9_init_123 : decode cX9_init 123 = .ok (.bipush 60, 2) := by decide +kernel
theorem dX9_init_125 : decode cX9_init 125 = .ok (.newarray .int, 2) := by decide +kernel
theorem dX9_init_127 : decode cX9_init 127 = .ok (.putfield 62, 3) := by decide +kernel
theorem dX9_init_130 : decode cX9_init 130 = .ok (.aload_n 0, 1) := by decide +kernel
theorem dX9_init_131 : decode cX9_init 131 = .ok (.bipush 60, 2) := by decide +kernel
theorem dX9_init_133 : decode cX9_init 133 = .ok (.newarray .int, 2) := by decide +kernel
theorem dX9_init_135 : decode cX9_init 135 = .ok (.putfield 65, 3) := by decide +kernel
theorem dX9_init_138 : decode cX9_init 138 = .ok (.aload_n 0, 1) := by decide +kernel
theorem dX9_init_139 : decode cX9_init 139 = .ok (.sipush 1000, 3) := by decide +kernel
theorem dX9_init_142 : decode cX9_init 142 = .ok (.newarray .int, 2) := by decide +kernel
theorem dX9_init_144 : decode cX9_init 144 = .ok (.putfield 68, 3) := by decide +kernel
theorem dX9_init_147 : decode cX9_init 147 = .ok (.aload_n 0, 1) := by decide +kernel
theorem dX9_init_148 : decode cX9_init 148 = .ok (.iconst 0, 1) := by decide +kernel
theorem dX9_init_149 : decode cX9_init 149 = .ok (.putfield 71, 3) := by decide +kernel
theorem dX9_init_152 : decode cX9_init 152 = .ok (.aload_n 0, 1) := by decide +kernel
theorem dX9_init_153 : decode cX9_init 153 = .ok (.bipush 101, 2) := by decide +kernel
theorem dX9_init_155 : decode cX9_init 155 = .ok (.newarray .int, 2) := by decide +kernel
theorem dX9_init_157 : decode cX9_init 157 = .ok (.putfield 74, 3) := by decide +kernel
theorem dX9_init_160 : decode cX9_init 160 = .ok (.aload_n 0, 1) := by decide +kernel
theorem dX9_init_161 : decode cX9_init 161 = .ok (.iconst 0, 1) := by decide +kernel
theorem dX9_init_162 : decode cX9_init 162 = .ok (.putfield 77, 3) := by decide +kernel
theorem dX9_init_165 : decode cX9_init 165 = .ok (.aload_n 0, 1) := by decide +kernel
theorem dX9_init_166 : decode cX9_init 166 = .ok (.iconst 0, 1) := by decide +kernel
theorem dX9_init_167 : decode cX9_init 167 = .ok (.putfield 80, 3) := by decide +kernel
theorem dX9_init_170 : decode cX9_init 170 = .ok (.aload_n 0, 1) := by decide +kernel
theorem dX9_init_171 : decode cX9_init 171 = .ok (.iconst 0, 1) := by decide +kernel
theorem dX9_init_172 : decode cX9_init 172 = .ok (.putfield 83, 3) := by decide +kernel
theorem dX9_init_175 : decode cX9_init 175 = .ok (.aload_n 0, 1) := by decide +kernel
theorem dX9_init_176 : decode cX9_init 176 = .ok (.iconst 0, 1) := by decide +kernel
theorem dX9_init_177 : decode cX9_init 177 = .ok (.putfield 86, 3) := by decide +kernel
theorem dX9_init_180 : decode cX9_init 180 = .ok (.aload_n 0, 1) := by decide +kernel
theorem dX9_init_181 : decode cX9_init 181 = .ok (.iconst (-1), 1) := by decide +kernel
theorem dX9_init_182 : decode cX9_init 182 = .ok (.putfield 89, 3) := by decide +kernel
theorem dX9_init_185 : decode cX9_init 185 = .ok (.aload_n 0, 1) := by decide +kernel
theorem dX9_init_186 : decode cX9_init 186 = .ok (.bipush 8, 2) := by decide +kernel
theorem dX9_init_188 : decode cX9_init 188 = .ok (.newarray .int, 2) := by decide +kernel
theorem dX9_init_190 : decode cX9_init 190 = .ok (.putfield 92, 3) := by decide +kernel
theorem dX9_init_193 : decode cX9_init 193 = .ok (.aload_n 0, 1) := by decide +kernel
theorem dX9_init_194 : decode cX9_init 194 = .ok (.bipush 100, 2) := by decide +kernel
theorem dX9_init_196 : decode cX9_init 196 = .ok (.newarray .boolean, 2) := by decide +kernel
theorem dX9_init_198 : decode cX9_init 198 = .ok (.putfield 95, 3) := by decide +kernel
theorem dX9_init_201 : decode cX9_init 201 = .ok (.aload_n 0, 1) := by decide +kernel
theorem dX9_init_202 : decode cX9_init 202 = .ok (.bipush 14, 2) := by decide +kernel
theorem dX9_init_204 : decode cX9_init 204 = .ok (.newarray .boolean, 2) := by decide +kernel
theorem dX9_init_206 : decode cX9_init 206 = .ok (.putfield 99, 3) := by decide +kernel
theorem dX9_init_209 : decode cX9_init 209 = .ok (.aload_n 0, 1) := by decide +kernel
theorem dX9_init_210 : decode cX9_init 210 = .ok (.iconst 5, 1) := by decide +kernel
theorem dX9_init_211 : decode cX9_init 211 = .ok (.newarray .int, 2) := by decide +kernel
theorem dX9_init_213 : decode cX9_init 213 = .ok (.putfield 102, 3) := by decide +kernel
theorem dX9_init_216 : decode cX9_init 216 = .ok (.aload_n 0, 1) := by decide +kernel
theorem dX9_init_217 : decode cX9_init 217 = .ok (.iconst 5, 1) := by decide +kernel
theorem dX9_init_218 : decode cX9_init 218 = .ok (.newarray .int, 2) := by decide +kernel
theorem dX9_init_220 : decode cX9_init 220 = .ok (.putfield 105, 3) := by decide +kernel
theorem dX9_init_223 : decode cX9_init 223 = .ok (.aload_n 0, 1) := by decide +kernel
theorem dX9_init_224 : decode cX9_init 224 = .ok (.bipush 56, 2) := by decide +kernel
theorem dX9_init_226 : decode cX9_init 226 = .ok (.newarray .boolean, 2) := by decide +kernel
theorem dX9_init_228 : decode cX9_init 228 = .ok (.putfield 108, 3) := by decide +kernel
theorem dX9_init_231 : decode cX9_init 231 = .ok (.aload_n 0, 1) := by decide +kernel
theorem dX9_init_232 : decode cX9_init 232 = .ok (.bipush 100, 2) := by decide +kernel
theorem dX9_init_234 : decode cX9_init 234 = .ok (.newarray .int, 2) := by decide +kernel
theorem dX9_init_236 : decode cX9_init 236 = .ok (.putfield 111, 3) := by decide +kernel
theorem dX9_init_239 : decode cX9_init 239 = .ok (.aload_n 0, 1) := by decide +kernel
theorem dX9_init_240 : decode cX9_init 240 = .ok (.iconst 0, 1) := by decide +kernel
theorem dX9_init_241 : decode cX9_init 241 = .ok (.putfield 114, 3) := by decide +kernel
theorem dX9_init_244 : decode cX9_init 244 = .ok (.aload_n 0, 1) := by decide +kernel
theorem dX9_init_245 : decode cX9_init 245 = .ok (.bipush 20, 2) := by decide +kernel
theorem dX9_init_247 : decode cX9_init 247 = .ok (.newarray .int, 2) := by decide +kernel
theorem dX9_init_249 : decode cX9_init 249 = .ok (.putfield 117, 3) := by decide +kernel
theorem dX9_init_252 : decode cX9_init 252 = .ok (.aload_n 0, 1) := by decide +kernel
theorem dX9_init_253 : decode cX9_init 253 = .ok (.bipush 6, 2) := by decide +kernel
theorem dX9_init_255 : decode cX9_init 255 = .ok (.newarray .int, 2) := by decide +kernel
theorem dX9_init_257 : decode cX9_init 257 = .ok (.dup, 1) := by decide +kernel
theorem dX9_init_258 : decode cX9_init 258 = .ok (.iconst 0, 1) := by decide +kernel
theorem dX9_init_259 : decode cX9_init 259 = .ok (.iconst (-1), 1) := by decide +kernel
theorem dX9_init_260 : decode cX9_init 260 = .ok (.iastore, 1) := by decide +kernel
theorem dX9_init_261 : decode cX9_init 261 = .ok (.dup, 1) := by decide +kernel
theorem dX9_init_262 : decode cX9_init 262 = .ok (.iconst 1, 1) := by decide +kernel
theorem dX9_init_263 : decode cX9_init 263 = .ok (.iconst (-1), 1) := by decide +kernel
theorem dX9_init_264 : decode cX9_init 264 = .ok (.iastore, 1) := by decide +kernel
theorem dX9_init_265 : decode cX9_init 265 = .ok (.dup, 1) := by decide +kernel
theorem dX9_init_266 : decode cX9_init 266 = .ok (.iconst 2, 1) := by decide +kernel
theorem dX9_init_267 : decode cX9_init 267 = .ok (.iconst (-1), 1) := by decide +kernel
theorem dX9_init_268 : decode cX9_init 268 = .ok (.iastore, 1) := by decide +kernel
theorem dX9_init_269 : decode cX9_init 269 = .ok (.dup, 1) := by decide +kernel
theorem dX9_init_270 : decode cX9_init 270 = .ok (.iconst 3, 1) := by decide +kernel
theorem dX9_init_271 : decode cX9_init 271 = .ok (.iconst (-1), 1) := by decide +kernel
theorem dX9_init_272 : decode cX9_init 272 = .ok (.iastore, 1) := by decide +kernel
theorem dX9_init_273 : decode cX9_init 273 = .ok (.dup, 1) := by decide +kernel
theorem dX9_init_274 : decode cX9_init 274 = .ok (.iconst 4, 1) := by decide +kernel
theorem dX9_init_275 : decode cX9_init 275 = .ok (.iconst (-1), 1) := by decide +kernel
theorem dX9_init_276 : decode cX9_init 276 = .ok (.iastore, 1) := by decide +kernel
theorem dX9_init_277 : decode cX9_init 277 = .ok (.dup, 1) := by decide +kernel
theorem dX9_init_278 : decode cX9_init 278 = .ok (.iconst 5, 1) := by decide +kernel
theorem dX9_init_279 : decode cX9_init 279 = .ok (.iconst (-1), 1) := by decide +kernel
theorem dX9_init_280 : decode cX9_init 280 = .ok (.iastore, 1) := by decide +kernel
theorem dX9_init_281 : decode cX9_init 281 = .ok (.putfield 120, 3) := by decide +kernel
theorem dX9_init_284 : decode cX9_init 284 = .ok (.aload_n 0, 1) := by decide +kernel
theorem dX9_init_285 : decode cX9_init 285 = .ok (.bipush 6, 2) := by decide +kernel
theorem dX9_init_287 : decode cX9_init 287 = .ok (.newarray .int, 2) := by decide +kernel
theorem dX9_init_289 : decode cX9_init 289 = .ok (.putfield 123, 3) := by decide +kernel
theorem dX9_init_292 : decode cX9_init 292 = .ok (.aload_n 0, 1) := by decide +kernel
theorem dX9_init_293 : decode cX9_init 293 = .ok (.sipush 360, 3) := by decide +kernel
theorem dX9_init_296 : decode cX9_init 296 = .ok (.newarray .long, 2) := by decide +kernel
theorem dX9_init_298 : decode cX9_init 298 = .ok (.putfield 126, 3) := by decide +kernel
theorem dX9_init_301 : decode cX9_init 301 = .ok (.aload_n 0, 1) := by decide +kernel
theorem dX9_init_302 : decode cX9_init 302 = .ok (.bipush 60, 2) := by decide +kernel
theorem dX9_init_304 : decode cX9_init 304 = .ok (.newarray .long, 2) := by decide +kernel
theorem dX9_init_306 : decode cX9_init 306 = .ok (.putfield 130, 3) := by decide +kernel
theorem dX9_init_309 : decode cX9_init 309 = .ok (.return_, 1) := by decide +kernel
theorem dX9_in_0 : decode cX9_in 0 = .ok (.iload_n 1, 1) := by decide +kernel
theorem dX9_in_1 : decode cX9_in 1 = .ok (.iload_n 2, 1) := by decide +kernel
theorem dX9_in_2 : decode cX9_in 2 = .ok (.if_icmp .lt 12, 3) := by decide +kernel
theorem dX9_in_5 : decode cX9_in 5 = .ok (.iload_n 1, 1) := by decide +kernel
theorem dX9_in_6 : decode cX9_in 6 = .ok (.iload_n 3, 1) := by decide +kernel
theorem dX9_in_7 : decode cX9_in 7 = .ok (.if_icmp .gt 7, 3) := by decide +kernel
theorem dX9_in_10 : decode cX9_in 10 = .ok (.iconst 1, 1) := by decide +kernel
theorem dX9_in_11 : decode cX9_in 11 = .ok (.goto 4, 3) := by decide +kernel
theorem dX9_in_14 : decode cX9_in 14 = .ok (.iconst 0, 1) := by decide +kernel
theorem dX9_in_15 : decode cX9_in 15 = .ok (.ireturn, 1) := by decide +kernel
theorem dX9_ones_0 : decode cX9_ones 0 = .ok (.iconst 0, 1) := by decide +kernel
theorem dX9_ones_1 : decode cX9_ones 1 = .ok (.istore_n 2, 1) := by decide +kernel
theorem dX9_ones_2 : decode cX9_ones 2 = .ok (.iload_n 1, 1) := by decide +kernel
theorem dX9_ones_3 : decode cX9_ones 3 = .ok (.istore_n 3, 1) := by decide +kernel
theorem dX9_ones_4 : decode cX9_ones 4 = .ok (.iload_n 3, 1) := by decide +kernel
theorem dX9_ones_5 : decode cX9_ones 5 = .ok (.ifCond .eq 15, 3) := by decide +kernel
theorem dX9_ones_8 : decode cX9_ones 8 = .ok (.iinc 2 1, 3) := by decide +kernel
theorem dX9_ones_11 : decode cX9_ones 11 = .ok (.iload_n 3, 1) := by decide +kernel
theorem dX9_ones_12 : decode cX9_ones 12 = .ok (.iload_n 3, 1) := by decide +kernel
theorem dX9_ones_13 : decode cX9_ones 13 = .ok (.iconst 1, 1) := by decide +kernel
theorem dX9_ones_14 : decode cX9_ones 14 = .ok (.isub, 1) := by decide +kernel
theorem dX9_ones_15 : decode cX9_ones 15 = .ok (.iand, 1) := by decide +kernel
theorem dX9_ones_16 : decode cX9_ones 16 = .ok (.istore_n 3, 1) := by decide +kernel
theorem dX9_ones_17 : decode cX9_ones 17 = .ok (.goto (-13), 3) := by decide +kernel
theorem dX9_ones_20 : decode cX9_ones 20 = .ok (.iload_n 2, 1) := by decide +kernel
theorem dX9_ones_21 : decode cX9_ones 21 = .ok (.ireturn, 1) := by decide +kernel
theorem dX9_has_0 : decode cX9_has 0 = .ok (.iload_n 1, 1) := by decide +kernel
theorem dX9_has_1 : decode cX9_has 1 = .ok (.iload_n 2, 1) := by decide +kernel
theorem dX9_has_2 : decode cX9_has 2 = .ok (.ishr, 1) := by decide +kernel
theorem dX9_has_3 : decode cX9_has 3 = .ok (.iconst 1, 1) := by decide +kernel
theorem dX9_has_4 : decode cX9_has 4 = .ok (.iand, 1) := by decide +kernel
theorem dX9_has_5 : decode cX9_has 5 = .ok (.iconst 1, 1) := by decide +kernel
theorem dX9_has_6 : decode cX9_has 6 = .ok (.if_icmp .ne 7, 3) := by decide +kernel
theorem dX9_has_9 : decode cX9_has 9 = .ok (.iconst 1, 1) := by decide +kernel
theorem dX9_has_10 : decode cX9_has 10 = .ok (.goto 4, 3) := by decide +kernel
theorem dX9_has_13 : decode cX9_has 13 = .ok (.iconst 0, 1) := by decide +kernel
theorem dX9_has_14 : decode cX9_has 14 = .ok (.ireturn, 1) := by decide +kernel
theorem dX9_isWord_0 : decode cX9_isWord 0 = .ok (.aload_n 0, 1) := by decide +kernel
theorem dX9_isWord_1 : decode cX9_isWord 1 = .ok (.iload_n 1, 1) := by decide +kernel
theorem dX9_isWord_2 : decode cX9_isWord 2 = .ok (.iconst 0, 1) := by decide +kernel
theorem dX9_isWord_3 : decode cX9_isWord 3 = .ok (.aload_n 0, 1) := by decide +kernel
theorem dX9_isWord_4 : decode cX9_isWord 4 = .ok (.getfield 7, 3) := by decide +kernel
theorem dX9_isWord_7 : decode cX9_isWord 7 = .ok (.iconst 1, 1) := by decide +kernel
theorem dX9_isWord_8 : decode cX9_isWord 8 = .ok (.isub, 1) := by decide +kernel
theorem dX9_isWord_9 : decode cX9_isWord 9 = .ok (.invokevirtual 133, 3) := by decide +kernel
theorem dX9_isWord_12 : decode cX9_isWord 12 = .ok (.ireturn, 1) := by decide +kernel
theorem dX9_isLand_0 : decode cX9_isLand 0 = .ok (.aload_n 0, 1) := by decide +kernel
theorem dX9_isLand_1 : decode cX9_isLand 1 = .ok (.iload_n 1, 1) := by decide +kernel
theorem dX9_isLand_2 : decode cX9_isLand 2 = .ok (.iconst 0, 1) := by decide +kernel
theorem dX9_isLand_3 : decode cX9_isLand 3 = .ok (.iconst 1, 1) := by decide +kernel
theorem dX9_isLand_4 : decode cX9_isLand 4 = .ok (.invokevirtual 133, 3) := by decide +kernel
theorem dX9_isLand_7 : decode cX9_isLand 7 = .ok (.ireturn, 1) := by decide +kernel
theorem dX9_isEnd_0 : decode cX9_isEnd 0 = .ok (.aload_n 0, 1) := by decide +kernel
theorem dX9_isEnd_1 : decode cX9_isEnd 1 = .ok (.iload_n 1, 1) := by decide +kernel
theorem dX9_isEnd_2 : decode cX9_isEnd 2 = .ok (.iconst 0, 1) := by decide +kernel
theorem dX9_isEnd_3 : decode cX9_isEnd 3 = .ok (.iconst 3, 1) := by decide +kernel
theorem dX9_isEnd_4 : decode cX9_isEnd 4 = .ok (.invokevirtual 133, 3) := by decide +kernel
theorem dX9_isEnd_7 : decode cX9_isEnd 7 = .ok (.ireturn, 1) := by decide +kernel
theorem dX9_isUnder_0 : decode cX9_isUnder 0 = .ok (.iload_n 2, 1) := by decide +kernel
theorem dX9_isUnder_1 : decode cX9_isUnder 1 = .ok (.ifCond .eq 8, 3) := by decide +kernel
theorem dX9_isUnder_4 : decode cX9_isUnder 4 = .ok (.iload_n 1, 1) := by decide +kernel
theorem dX9_isUnder_5 : decode cX9_isUnder 5 = .ok (.iload_n 2, 1) := by decide +kernel
theorem dX9_isUnder_6 : decode cX9_isUnder 6 = .ok (.if_icmp .ne 5, 3) := by decide +kernel
theorem dX9_isUnder_9 : decode cX9_isUnder 9 = .ok (.iconst 1, 1) := by decide +kernel
theorem dX9_isUnder_10 : decode cX9_isUnder 10 = .ok (.ireturn, 1) := by decide +kernel
theorem dX9_isUnder_11 : decode cX9_isUnder 11 = .ok (.iload_n 2, 1) := by decide +kernel
theorem dX9_isUnder_12 : decode cX9_isUnder 12 = .ok (.iconst 1, 1) := by decide +kernel
theorem dX9_isUnder_13 : decode cX9_isUnder 13 = .ok (.if_icmp .ne 25, 3) := by decide +kernel
theorem dX9_isUnder_16 : decode cX9_isUnder 16 = .ok (.iload_n 1, 1) := by decide +kernel
theorem dX9_isUnder_17 : decode cX9_isUnder 17 = .ok (.iconst 2, 1) := by decide +kernel
theorem dX9_isUnder_18 : decode cX9_isUnder 18 = .ok (.if_icmp .eq 14, 3) := by decide +kernel
theorem dX9_isUnder_21 : decode cX9_isUnder 21 = .ok (.iload_n 1, 1) := by decide +kernel
theorem dX9_isUnder_22 : decode cX9_isUnder 22 = .ok (.iconst 5, 1) := by decide +kernel
theorem dX9_isUnder_23 : decode cX9_isUnder 23 = .ok (.if_icmp .eq 9, 3) := by decide +kernel
theorem dX9_isUnder_26 : decode cX9_isUnder 26 = .ok (.iload_n 1, 1) := by decide +kernel
theorem dX9_isUnder_27 : decode cX9_isUnder 27 = .ok (.bipush 6, 2) := by decide +kernel
theorem dX9_isUnder_29 : decode cX9_isUnder 29 = .ok (.if_icmp .ne 7, 3) := by decide +kernel
theorem dX9_isUnder_32 : decode cX9_isUnder 32 = .ok (.iconst 1, 1) := by decide +kernel
theorem dX9_isUnder_33 : decode cX9_isUnder 33 = .ok (.goto 4, 3) := by decide +kernel
theorem dX9_isUnder_36 : decode cX9_isUnder 36 = .ok (.iconst 0, 1) := by decide +kernel
theorem dX9_isUnder_37 : decode cX9_isUnder 37 = .ok (.ireturn, 1) := by decide +kernel
theorem dX9_isUnder_38 : decode cX9_isUnder 38 = .ok (.iload_n 2, 1) := by decide +kernel
theorem dX9_isUnder_39 : decode cX9_isUnder 39 = .ok (.iconst 2, 1) := by decide +kernel
theorem dX9_isUnder_40 : decode cX9_isUnder 40 = .ok (.if_icmp .ne 12, 3) := by decide +kernel
theorem dX9_isUnder_43 : decode cX9_isUnder 43 = .ok (.iload_n 1, 1) := by decide +kernel
theorem dX9_isUnder_44 : decode cX9_isUnder 44 = .ok (.iconst 5, 1) := by decide +kernel
theorem dX9_isUnder_45 : decode cX9_isUnder 45 = .ok (.if_icmp .ne 7, 3) := by decide +kernel
theorem dX9_isUnder_48 : decode cX9_isUnder 48 = .ok (.iconst 1, 1) := by decide +kernel
theorem dX9_isUnder_49 : decode cX9_isUnder 49 = .ok (.goto 4, 3) := by decide +kernel
theorem dX9_isUnder_52 : decode cX9_isUnder 52 = .ok (.iconst 0, 1) := by decide +kernel
theorem dX9_isUnder_53 : decode cX9_isUnder 53 = .ok (.ireturn, 1) := by decide +kernel
theorem dX9_known_0 : decode cX9_known 0 = .ok (.aload_n 0, 1) := by decide +kernel
theorem dX9_known_1 : decode cX9_known 1 = .ok (.iload_n 1, 1) := by decide +kernel
theorem dX9_known_2 : decode cX9_known 2 = .ok (.iconst 0, 1) := by decide +kernel
theorem dX9_known_3 : decode cX9_known 3 = .ok (.bipush 7, 2) := by decide +kernel
theorem dX9_known_5 : decode cX9_known 5 = .ok (.invokevirtual 133, 3) := by decide +kernel
theorem dX9_known_8 : decode cX9_known 8 = .ok (.ifCond .ne 5, 3) := by decide +kernel
theorem dX9_known_11 : decode cX9_known 11 = .ok (.iconst (-1), 1) := by decide +kernel
theorem dX9_known_12 : decode cX9_known 12 = .ok (.ireturn, 1) := by decide +kernel
theorem dX9_known_13 : decode cX9_known 13 = .ok (.aload_n 0, 1) := by decide +kernel
theorem dX9_known_14 : decode cX9_known 14 = .ok (.iload_n 2, 1) := by decide +kernel
theorem dX9_known_15 : decode cX9_known 15 = .ok (.iconst 0, 1) := by decide +kernel
theorem dX9_known_16 : decode cX9_known 16 = .ok (.bipush 63, 2) := by decide +kernel
theorem dX9_known_18 : decode cX9_known 18 = .ok (.invokevirtual 133, 3) := by decide +kernel
theorem dX9_known_21 : decode cX9_known 21 = .ok (.ifCond .ne 6, 3) := by decide +kernel
theorem dX9_known_24 : decode cX9_known 24 = .ok (.bipush (-2), 2) := by decide +kernel
theorem dX9_known_26 : decode cX9_known 26 = .ok (.ireturn, 1) := by decide +kernel
theorem dX9_known_27 : decode cX9_known 27 = .ok (.aload_n 0, 1) := by decide +kernel
theorem dX9_known_28 : decode cX9_known 28 = .ok (.getfield 19, 3) := by decide +kernel
theorem dX9_known_31 : decode cX9_known 31 = .ok (.iload_n 1, 1) := by decide +kernel
theorem dX9_known_32 : decode cX9_known 32 = .ok (.iaload, 1) := by decide +kernel
theorem dX9_known_33 : decode cX9_known 33 = .ok (.istore_n 3, 1) := by decide +kernel
theorem dX9_known_34 : decode cX9_known 34 = .ok (.aload_n 0, 1) := by decide +kernel
theorem dX9_known_35 : decode cX9_known 35 = .ok (.getfield 19, 3) := by decide +kernel
theorem dX9_known_38 : decode cX9_known 38 = .ok (.iload_n 1, 1) := by decide +kernel
theorem dX9_known_39 : decode cX9_known 39 = .ok (.iload_n 2, 1) := by decide +kernel
theorem dX9_known_40 : decode cX9_known 40 = .ok (.iastore, 1) := by decide +kernel
theorem dX9_known_41 : decode cX9_known 41 = .ok (.iload_n 3, 1) := by decide +kernel
theorem dX9_known_42 : decode cX9_known 42 = .ok (.ireturn, 1) := by decide +kernel
theorem dX9_word_0 : decode cX9_word 0 = .ok (.aload_n 0, 1) := by decide +kernel
theorem dX9_word_1 : decode cX9_word 1 = .ok (.iload_n 1, 1) := by decide +kernel
theorem dX9_word_2 : decode cX9_word 2 = .ok (.iconst 0, 1) := by decide +kernel
theorem dX9_word_3 : decode cX9_word 3 = .ok (.bipush 6, 2) := by decide +kernel
theorem dX9_word_5 : decode cX9_word 5 = .ok (.invokevirtual 133, 3) := by decide +kernel
theorem dX9_word_8 : decode cX9_word 8 = .ok (.ifCond .eq 14, 3) := by decide +kernel
theorem dX9_word_11 : decode cX9_word 11 = .ok (.aload_n 0, 1) := by decide +kernel
theorem dX9_word_12 : decode cX9_word 12 = .ok (.iload_n 2, 1) := by decide +kernel
theorem dX9_word_13 : decode cX9_word 13 = .ok (.iconst 0, 1) := by decide +kernel
theorem dX9_word_14 : decode cX9_word 14 = .ok (.bipush 7, 2) := by decide +kernel
theorem dX9_word_16 : decode cX9_word 16 = .ok (.invokevirtual 133, 3) := by decide +kernel
theorem dX9_word_19 : decode cX9_word 19 = .ok (.ifCond .ne 5, 3) := by decide +kernel
theorem dX9_word_22 : decode cX9_word 22 = .ok (.iconst (-1), 1) := by decide +kernel
theorem dX9_word_23 : decode cX9_word 23 = .ok (.ireturn, 1) := by decide +kernel
theorem dX9_word_24 : decode cX9_word 24 = .ok (.aload_n 0, 1) := by decide +kernel
theorem dX9_word_25 : decode cX9_word 25 = .ok (.iload_n 3, 1) := by decide +kernel
theorem dX9_word_26 : decode cX9_word 26 = .ok (.iconst 0, 1) := by decide +kernel
theorem dX9_word_27 : decode cX9_word 27 = .ok (.sipush 1023, 3) := by decide +kernel
theorem dX9_word_30 : decode cX9_word 30 = .ok (.invokevirtual 133, 3) := by decide +kernel
theorem dX9_word_33 : decode cX9_word 33 = .ok (.ifCond .ne 6, 3) := by decide +kernel
theorem dX9_word_36 : decode cX9_word 36 = .ok (.bipush (-2), 2) := by decide +kernel
theorem dX9_word_38 : decode cX9_word 38 = .ok (.ireturn, 1) := by decide +kernel
theorem dX9_word_39 : decode cX9_word 39 = .ok (.aload_n 0, 1) := by decide +kernel
theorem dX9_word_40 : decode cX9_word 40 = .ok (.getfield 7, 3) := by decide +kernel
theorem dX9_word_43 : decode cX9_word 43 = .ok (.bipush 14, 2) := by decide +kernel
theorem dX9_word_45 : decode cX9_word 45 = .ok (.if_icmp .ne 6, 3) := by decide +kernel
theorem dX9_word_48 : decode cX9_word 48 = .ok (.bipush (-4), 2) := by decide +kernel
theorem dX9_word_50 : decode cX9_word 50 = .ok (.ireturn, 1) := by decide +kernel
theorem dX9_word_51 : decode cX9_word 51 = .ok (.aload_n 0, 1) := by decide +kernel
theorem dX9_word_52 : decode cX9_word 52 = .ok (.getfield 23, 3) := by decide +kernel
theorem dX9_word_55 : decode cX9_word 55 = .ok (.aload_n 0, 1) := by decide +kernel
theorem dX9_word_56 : decode cX9_word 56 = .ok (.getfield 7, 3) := by decide +kernel
theorem dX9_word_59 : decode cX9_word 59 = .ok (.iload_n 1, 1) := by decide +kernel
theorem dX9_word_60 : decode cX9_word 60 = .ok (.iastore, 1) := by decide +kernel
theorem dX9_word_61 : decode cX9_word 61 = .ok (.aload_n 0, 1) := by decide +kernel
theorem dX9_word_62 : decode cX9_word 62 = .ok (.getfield 26, 3) := by decide +kernel
theorem dX9_word_65 : decode cX9_word 65 = .ok (.aload_n 0, 1) := by decide +kernel
theorem dX9_word_66 : decode cX9_word 66 = .ok (.getfield 7, 3) := by decide +kernel
theorem dX9_word_69 : decode cX9_word 69 = .ok (.iload_n 2, 1) := by decide +kernel
theorem dX9_word_70 : decode cX9_word 70 = .ok (.iastore, 1) := by decide +kernel
theorem dX9_word_71 : decode cX9_word 71 = .ok (.aload_n 0, 1) := by decide +kernel
theorem dX9_word_72 : decode cX9_word 72 = .ok (.getfield 29, 3) := by decide +kernel
theorem dX9_word_75 : decode cX9_word 75 = .ok (.aload_n 0, 1) := by decide +kernel
theorem dX9_word_76 : decode cX9_word 76 = .ok (.getfield 7, 3) := by decide +kernel
theorem dX9_word_79 : decode cX9_word 79 = .ok (.iload_n 3, 1) := by decide +kernel
theorem dX9_word_80 : decode cX9_word 80 = .ok (.iastore, 1) := by decide +kernel
theorem dX9_word_81 : decode cX9_word 81 = .ok (.aload_n 0, 1) := by decide +kernel
theorem dX9_word_82 : decode cX9_word 82 = .ok (.dup, 1) := by decide +kernel
theorem dX9_word_83 : decode cX9_word 83 = .ok (.getfield 7, 3) := by decide +kernel
theorem dX9_word_86 : decode cX9_word 86 = .ok (.iconst 1, 1) := by decide +kernel
theorem dX9_word_87 : decode cX9_word 87 = .ok (.iadd, 1) := by decide +kernel
theorem dX9_word_88 : decode cX9_word 88 = .ok (.putfield 7, 3) := by decide +kernel
theorem dX9_word_91 : decode cX9_word 91 = .ok (.aload_n 0, 1) := by decide +kernel
theorem dX9_word_92 : decode cX9_word 92 = .ok (.getfield 7, 3) := by decide +kernel
theorem dX9_word_95 : decode cX9_word 95 = .ok (.iconst 1, 1) := by decide +kernel
theorem dX9_word_96 : decode cX9_word 96 = .ok (.isub, 1) := by decide +kernel
theorem dX9_word_97 : decode cX9_word 97 = .ok (.ireturn, 1) := by decide +kernel
theorem dX9_roomOf_0 : decode cX9_roomOf 0 = .ok (.aload_n 0, 1) := by decide +kernel
theorem dX9_roomOf_1 : decode cX9_roomOf 1 = .ok (.getfield 23, 3) := by decide +kernel
theorem dX9_roomOf_4 : decode cX9_roomOf 4 = .ok (.iload_n 1, 1) := by decide +kernel
theorem dX9_roomOf_5 : decode cX9_roomOf 5 = .ok (.iaload, 1) := by decide +kernel
theorem dX9_roomOf_6 : decode cX9_roomOf 6 = .ok (.bipush 6, 2) := by decide +kernel
theorem dX9_roomOf_8 : decode cX9_roomOf 8 = .ok (.if_icmp .ne 7, 3) := by decide +kernel
theorem dX9_roomOf_11 : decode cX9_roomOf 11 = .ok (.iconst 1, 1) := by decide +kernel
theorem dX9_roomOf_12 : decode cX9_roomOf 12 = .ok (.goto 28, 3) := by decide +kernel
theorem dX9_roomOf_15 : decode cX9_roomOf 15 = .ok (.aload_n 0, 1) := by decide +kernel
theorem dX9_roomOf_16 : decode cX9_roomOf 16 = .ok (.getfield 23, 3) := by decide +kernel
theorem dX9_roomOf_19 : decode cX9_roomOf 19 = .ok (.iload_n 1, 1) := by decide +kernel
theorem dX9_roomOf_20 : decode cX9_roomOf 20 = .ok (.iaload, 1) := by decide +kernel
theorem dX9_roomOf_21 : decode cX9_roomOf 21 = .ok (.iconst 2, 1) := by decide +kernel
theorem dX9_roomOf_22 : decode cX9_roomOf 22 = .ok (.if_icmp .eq 13, 3) := by decide +kernel
theorem dX9_roomOf_25 : decode cX9_roomOf 25 = .ok (.aload_n 0, 1) := by decide +kernel
theorem dX9_roomOf_26 : decode cX9_roomOf 26 = .ok (.getfield 23, 3) := by decide +kernel
theorem dX9_roomOf_29 : decode cX9_roomOf 29 = .ok (.iload_n 1, 1) := by decide +kernel
theorem dX9_roomOf_30 : decode cX9_roomOf 30 = .ok (.iaload, 1) := by decide +kernel
theorem dX9_roomOf_31 : decode cX9_roomOf 31 = .ok (.iconst 5, 1) := by decide +kernel
theorem dX9_roomOf_32 : decode cX9_roomOf 32 = .ok (.if_icmp .ne 7, 3) := by decide +kernel
theorem dX9_roomOf_35 : decode cX9_roomOf 35 = .ok (.iconst 4, 1) := by decide +kernel
theorem dX9_roomOf_36 : decode cX9_roomOf 36 = .ok (.goto 4, 3) := by decide +kernel
theorem dX9_roomOf_39 : decode cX9_roomOf 39 = .ok (.iconst 0, 1) := by decide +kernel
theorem dX9_roomOf_40 : decode cX9_roomOf 40 = .ok (.ireturn, 1) := by decide +kernel
theorem dX9_hold_0 : decode cX9_hold 0 = .ok (.aload_n 0, 1) := by decide +kernel
theorem dX9_hold_1 : decode cX9_hold 1 = .ok (.iload_n 1, 1) := by decide +kernel
theorem dX9_hold_2 : decode cX9_hold 2 = .ok (.invokevirtual 137, 3) := by decide +kernel
theorem dX9_hold_5 : decode cX9_hold 5 = .ok (.ifCond .eq 11, 3) := by decide +kernel
theorem dX9_hold_8 : decode cX9_hold 8 = .ok (.aload_n 0, 1) := by decide +kernel
theorem dX9_hold_9 : decode cX9_hold 9 = .ok (.iload_n 2, 1) := by decide +kernel
theorem dX9_hold_10 : decode cX9_hold 10 = .ok (.invokevirtual 137, 3) := by decide +kernel
theorem dX9_hold_13 : decode cX9_hold 13 = .ok (.ifCond .ne 5, 3) := by decide +kernel
theorem dX9_hold_16 : decode cX9_hold 16 = .ok (.iconst (-1), 1) := by decide +kernel
theorem dX9_hold_17 : decode cX9_hold 17 = .ok (.ireturn, 1) := by decide +kernel
theorem dX9_hold_18 : decode cX9_hold 18 = .ok (.iload_n 2, 1) := by decide +kernel
theorem dX9_hold_19 : decode cX9_hold 19 = .ok (.iload_n 1, 1) := by decide +kernel
theorem dX9_hold_20 : decode cX9_hold 20 = .ok (.if_icmp .lt 6, 3) := by decide +kernel
theorem dX9_hold_23 : decode cX9_hold 23 = .ok (.bipush (-2), 2) := by decide +kernel
theorem dX9_hold_25 : decode cX9_hold 25 = .ok (.ireturn, 1) := by decide +kernel
theorem dX9_hold_26 : decode cX9_hold 26 = .ok (.aload_n 0, 1) := by decide +kernel
theorem dX9_hold_27 : decode cX9_hold 27 = .ok (.iload_n 1, 1) := by decide +kernel
theorem dX9_hold_28 : decode cX9_hold 28 = .ok (.invokevirtual 141, 3) := by decide +kernel
theorem dX9_hold_31 : decode cX9_hold 31 = .ok (.ifCond .ne 6, 3) := by decide +kernel
theorem dX9_hold_34 : decode cX9_hold 34 = .ok (.bipush (-12), 2) := by decide +kernel
theorem dX9_hold_36 : decode cX9_hold 36 = .ok (.ireturn, 1) := by decide +kernel
theorem dX9_hold_37 : decode cX9_hold 37 = .ok (.iconst 0, 1) := by decide +kernel
theorem dX9_hold_38 : decode cX9_hold 38 = .ok (.istore_n 3, 1) := by decide +kernel
theorem dX9_hold_39 : decode cX9_hold 39 = .ok (.iload_n 3, 1) := by decide +kernel
theorem dX9_hold_40 : decode cX9_hold 40 = .ok (.aload_n 0, 1) := by decide +kernel
theorem dX9_hold_41 : decode cX9_hold 41 = .ok (.getfield 32, 3) := by decide +kernel
theorem dX9_hold_44 : decode cX9_hold 44 = .ok (.iload_n 1, 1) := by decide +kernel
theorem dX9_hold_45 : decode cX9_hold 45 = .ok (.iaload, 1) := by decide +kernel
theorem dX9_hold_46 : decode cX9_hold 46 = .ok (.if_icmp .ge 26, 3) := by decide +kernel
theorem dX9_hold_49 : decode cX9_hold 49 = .ok (.aload_n 0, 1) := by decide +kernel
theorem dX9_hold_50 : decode cX9_hold 50 = .ok (.getfield 35, 3) := by decide +kernel
theorem dX9_hold_53 : decode cX9_hold 53 = .ok (.iconst 4, 1) := by decide +kernel
theorem dX9_hold_54 : decode cX9_hold 54 = .ok (.iload_n 1, 1) := by decide +kernel
theorem dX9_hold_55 : decode cX9_hold 55 = .ok (.imul, 1) := by decide +kernel
theorem dX9_hold_56 : decode cX9_hold 56 = .ok (.iload_n 3, 1) := by decide +kernel
theorem dX9_hold_57 : decode cX9_hold 57 = .ok (.iadd, 1) := by decide +kernel
theorem dX9_hold_58 : decode cX9_hold 58 = .ok (.iaload, 1) := by decide +kernel
theorem dX9_hold_59 : decode cX9_hold 59 = .ok (.iload_n 2, 1) := by decide +kernel
theorem dX9_hold_60 : decode cX9_hold 60 = .ok (.if_icmp .ne 6, 3) := by decide +kernel
theorem dX9_hold_63 : decode cX9_hold 63 = .ok (.bipush (-3), 2) := by decide +kernel
theorem dX9_hold_65 : decode cX9_hold 65 = .ok (.ireturn, 1) := by decide +kernel
theorem dX9_hold_66 : decode cX9_hold 66 = .ok (.iinc 3 1, 3) := by decide +kernel
theorem dX9_hold_69 : decode cX9_hold 69 = .ok (.goto (-30), 3) := by decide +kernel
theorem dX9_hold_72 : decode cX9_hold 72 = .ok (.aload_n 0, 1) := by decide +kernel
theorem dX9_hold_73 : decode cX9_hold 73 = .ok (.getfield 32, 3) := by decide +kernel
theorem dX9_hold_76 : decode cX9_hold 76 = .ok (.iload_n 1, 1) := by decide +kernel
theorem dX9_hold_77 : decode cX9_hold 77 = .ok (.iaload, 1) := by decide +kernel
theorem dX9_hold_78 : decode cX9_hold 78 = .ok (.aload_n 0, 1) := by decide +kernel
theorem dX9_hold_79 : decode cX9_hold 79 = .ok (.iload_n 1, 1) := by decide +kernel
theorem dX9_hold_80 : decode cX9_hold 80 = .ok (.invokevirtual 141, 3) := by decide +kernel
theorem dX9_hold_83 : decode cX9_hold 83 = .ok (.if_icmp .ne 6, 3) := by decide +kernel
theorem dX9_hold_86 : decode cX9_hold 86 = .ok (.bipush (-4), 2) := by decide +kernel
theorem dX9_hold_88 : decode cX9_hold 88 = .ok (.ireturn, 1) := by decide +kernel
theorem dX9_hold_89 : decode cX9_hold 89 = .ok (.aload_n 0, 1) := by decide +kernel
theorem dX9_hold_90 : decode cX9_hold 90 = .ok (.getfield 35, 3) := by decide +kernel
theorem dX9_hold_93 : decode cX9_hold 93 = .ok (.iconst 4, 1) := by decide +kernel
theorem dX9_hold_94 : decode cX9_hold 94 = .ok (.iload_n 1, 1) := by decide +kernel
theorem dX9_hold_95 : decode cX9_hold 95 = .ok (.imul, 1) := by decide +kernel
theorem dX9_hold_96 : decode cX9_hold 96 = .ok (.aload_n 0, 1) := by decide +kernel
theorem dX9_hold_97 : decode cX9_hold 97 = .ok (.getfield 32, 3) := by decide +kernel
theorem dX9_hold_100 : decode cX9_hold 100 = .ok (.iload_n 1, 1) := by decide +kernel
theorem dX9_hold_101 : decode cX9_hold 101 = .ok (.iaload, 1) := by decide +kernel
theorem dX9_hold_102 : decode cX9_hold 102 = .ok (.iadd, 1) := by decide +kernel
theorem dX9_hold_103 : decode cX9_hold 103 = .ok (.iload_n 2, 1) := by decide +kernel
theorem dX9_hold_104 : decode cX9_hold 104 = .ok (.iastore, 1) := by decide +kernel
theorem dX9_hold_105 : decode cX9_hold 105 = .ok (.aload_n 0, 1) := by decide +kernel
theorem dX9_hold_106 : decode cX9_hold 106 = .ok (.getfield 32, 3) := by decide +kernel
theorem dX9_hold_109 : decode cX9_hold 109 = .ok (.iload_n 1, 1) := by decide +kernel
theorem dX9_hold_110 : decode cX9_hold 110 = .ok (.dup2, 1) := by decide +kernel
theorem dX9_hold_111 : decode cX9_hold 111 = .ok (.iaload, 1) := by decide +kernel
theorem dX9_hold_112 : decode cX9_hold 112 = .ok (.iconst 1, 1) := by decide +kernel
theorem dX9_hold_113 : decode cX9_hold 113 = .ok (.iadd, 1) := by decide +kernel
theorem dX9_hold_114 : decode cX9_hold 114 = .ok (.iastore, 1) := by decide +kernel
theorem dX9_hold_115 : decode cX9_hold 115 = .ok (.aload_n 0, 1) := by decide +kernel
theorem dX9_hold_116 : decode cX9_hold 116 = .ok (.getfield 32, 3) := by decide +kernel
theorem dX9_hold_119 : decode cX9_hold 119 = .ok (.iload_n 1, 1) := by decide +kernel
theorem dX9_hold_120 : decode cX9_hold 120 = .ok (.iaload, 1) := by decide +kernel
theorem dX9_hold_121 : decode cX9_hold 121 = .ok (.ireturn, 1) := by decide +kernel
theorem dX9_of_0 : decode cX9_of 0 = .ok (.aload_n 0, 1) := by decide +kernel
theorem dX9_of_1 : decode cX9_of 1 = .ok (.iload_n 1, 1) := by decide +kernel
theorem dX9_of_2 : decode cX9_of 2 = .ok (.invokevirtual 137, 3) := by decide +kernel
theorem dX9_of_5 : decode cX9_of 5 = .ok (.ifCond .eq 14, 3) := by decide +kernel
theorem dX9_of_8 : decode cX9_of 8 = .ok (.aload_n 0, 1) := by decide +kernel
theorem dX9_of_9 : decode cX9_of 9 = .ok (.iload_n 2, 1) := by decide +kernel
theorem dX9_of_10 : decode cX9_of 10 = .ok (.iconst 0, 1) := by decide +kernel
theorem dX9_of_11 : decode cX9_of 11 = .ok (.bipush 7, 2) := by decide +kernel
theorem dX9_of_13 : decode cX9_of 13 = .ok (.invokevirtual 133, 3) := by decide +kernel
theorem dX9_of_16 : decode cX9_of 16 = .ok (.ifCond .ne 5, 3) := by decide +kernel
theorem dX9_of_19 : decode cX9_of 19 = .ok (.iconst (-1), 1) := by decide +kernel
theorem dX9_of_20 : decode cX9_of 20 = .ok (.ireturn, 1) := by decide +kernel
theorem dX9_of_21 : decode cX9_of 21 = .ok (.iload_n 2, 1) := by decide +kernel
theorem dX9_of_22 : decode cX9_of 22 = .ok (.tableswitch 58 0 3 #[30, 37, 44, 51], 30) := by decide +kernel
theorem dX9_of_52 : decode cX9_of 52 = .ok (.aload_n 0, 1) := by decide +kernel
theorem dX9_of_53 : decode cX9_of 53 = .ok (.getfield 23, 3) := by decide +kernel
theorem dX9_of_56 : decode cX9_of 56 = .ok (.iload_n 1, 1) := by decide +kernel
theorem dX9_of_57 : decode cX9_of 57 = .ok (.iaload, 1) := by decide +kernel
theorem dX9_of_58 : decode cX9_of 58 = .ok (.ireturn, 1) := by decide +kernel
theorem dX9_of_59 : decode cX9_of 59 = .ok (.aload_n 0, 1) := by decide +kernel
theorem dX9_of_60 : decode cX9_of 60 = .ok (.getfield 26, 3) := by decide +kernel
theorem dX9_of_63 : decode cX9_of 63 = .ok (.iload_n 1, 1) := by decide +kernel
theorem dX9_of_64 : decode cX9_of 64 = .ok (.iaload, 1) := by decide +kernel
theorem dX9_of_65 : decode cX9_of 65 = .ok (.ireturn, 1) := by decide +kernel
theorem dX9_of_66 : decode cX9_of 66 = .ok (.aload_n 0, 1) := by decide +kernel
theorem dX9_of_67 : decode cX9_of 67 = .ok (.getfield 29, 3) := by decide +kernel
theorem dX9_of_70 : decode cX9_of 70 = .ok (.iload_n 1, 1) := by decide +kernel
theorem dX9_of_71 : decode cX9_of 71 = .ok (.iaload, 1) := by decide +kernel
theorem dX9_of_72 : decode cX9_of 72 = .ok (.ireturn, 1) := by decide +kernel
theorem dX9_of_73 : decode cX9_of 73 = .ok (.aload_n 0, 1) := by decide +kernel
theorem dX9_of_74 : decode cX9_of 74 = .ok (.getfield 32, 3) := by decide +kernel
theorem dX9_of_77 : decode cX9_of 77 = .ok (.iload_n 1, 1) := by decide +kernel
theorem dX9_of_78 : decode cX9_of 78 = .ok (.iaload, 1) := by decide +kernel
theorem dX9_of_79 : decode cX9_of 79 = .ok (.ireturn, 1) := by decide +kernel
theorem dX9_of_80 : decode cX9_of 80 = .ok (.iload_n 2, 1) := by decide +kernel
theorem dX9_of_81 : decode cX9_of 81 = .ok (.iconst 4, 1) := by decide +kernel
theorem dX9_of_82 : decode cX9_of 82 = .ok (.isub, 1) := by decide +kernel
theorem dX9_of_83 : decode cX9_of 83 = .ok (.aload_n 0, 1) := by decide +kernel
theorem dX9_of_84 : decode cX9_of 84 = .ok (.getfield 32, 3) := by decide +kernel
theorem dX9_of_87 : decode cX9_of 87 = .ok (.iload_n 1, 1) := by decide +kernel
theorem dX9_of_88 : decode cX9_of 88 = .ok (.iaload, 1) := by decide +kernel
theorem dX9_of_89 : decode cX9_of 89 = .ok (.if_icmp .ge 18, 3) := by decide +kernel
theorem dX9_of_92 : decode cX9_of 92 = .ok (.aload_n 0, 1) := by decide +kernel
theorem dX9_of_93 : decode cX9_of 93 = .ok (.getfield 35, 3) := by decide +kernel
theorem dX9_of_96 : decode cX9_of 96 = .ok (.iconst 4, 1) := by decide +kernel
theorem dX9_of_97 : decode cX9_of 97 = .ok (.iload_n 1, 1) := by decide +kernel
theorem dX9_of_98 : decode cX9_of 98 = .ok (.imul, 1) := by decide +kernel
theorem dX9_of_99 : decode cX9_of 99 = .ok (.iload_n 2, 1) := by decide +kernel
theorem dX9_of_100 : decode cX9_of 100 = .ok (.iadd, 1) := by decide +kernel
theorem dX9_of_101 : decode cX9_of 101 = .ok (.iconst 4, 1) := by decide +kernel
theorem dX9_of_102 : decode cX9_of 102 = .ok (.isub, 1) := by decide +kernel
theorem dX9_of_103 : decode cX9_of 103 = .ok (.iaload, 1) := by decide +kernel
theorem dX9_of_104 : decode cX9_of 104 = .ok (.goto 5, 3) := by decide +kernel
theorem dX9_of_107 : decode cX9_of 107 = .ok (.bipush (-5), 2) := by decide +kernel
theorem dX9_of_109 : decode cX9_of 109 = .ok (.ireturn, 1) := by decide +kernel
theorem dX9_show_0 : decode cX9_show 0 = .ok (.aload_n 0, 1) := by decide +kernel
theorem dX9_show_1 : decode cX9_show 1 = .ok (.iload_n 1, 1) := by decide +kernel
theorem dX9_show_2 : decode cX9_show 2 = .ok (.iconst 0, 1) := by decide +kernel
theorem dX9_show_3 : decode cX9_show 3 = .ok (.sipush 1023, 3) := by decide +kernel
theorem dX9_show_6 : decode cX9_show 6 = .ok (.invokevirtual 133, 3) := by decide +kernel
theorem dX9_show_9 : decode cX9_show 9 = .ok (.ifCond .ne 6, 3) := by decide +kernel
theorem dX9_show_12 : decode cX9_show 12 = .ok (.bipush (-2), 2) := by decide +kernel
theorem dX9_show_14 : decode cX9_show 14 = .ok (.ireturn, 1) := by decide +kernel
theorem dX9_show_15 : decode cX9_show 15 = .ok (.aload_n 0, 1) := by decide +kernel
theorem dX9_show_16 : decode cX9_show 16 = .ok (.getfield 13, 3) := by decide +kernel
theorem dX9_show_19 : decode cX9_show 19 = .ok (.istore_n 2, 1) := by decide +kernel
theorem dX9_show_20 : decode cX9_show 20 = .ok (.aload_n 0, 1) := by decide +kernel
theorem dX9_show_21 : decode cX9_show 21 = .ok (.iload_n 1, 1) := by decide +kernel
theorem dX9_show_22 : decode cX9_show 22 = .ok (.putfield 13, 3) := by decide +kernel
theorem dX9_show_25 : decode cX9_show 25 = .ok (.iload_n 2, 1) := by decide +kernel
theorem dX9_show_26 : decode cX9_show 26 = .ok (.ireturn, 1) := by decide +kernel
theorem dX9_isRule_0 : decode cX9_isRule 0 = .ok (.aload_n 0, 1) := by decide +kernel
theorem dX9_isRule_1 : decode cX9_isRule 1 = .ok (.iload_n 1, 1) := by decide +kernel
theorem dX9_isRule_2 : decode cX9_isRule 2 = .ok (.iconst 0, 1) := by decide +kernel
theorem dX9_isRule_3 : decode cX9_isRule 3 = .ok (.aload_n 0, 1) := by decide +kernel
theorem dX9_isRule_4 : decode cX9_isRule 4 = .ok (.getfield 38, 3) := by decide +kernel
theorem dX9_isRule_7 : decode cX9_isRule 7 = .ok (.iconst 1, 1) := by decide +kernel
theorem dX9_isRule_8 : decode cX9_isRule 8 = .ok (.isub, 1) := by decide +kernel
theorem dX9_isRule_9 : decode cX9_isRule 9 = .ok (.invokevirtual 133, 3) := by decide +kernel
theorem dX9_isRule_12 : decode cX9_isRule 12 = .ok (.ireturn, 1) := by decide +kernel
theorem dX9_feed_0 : decode cX9_feed 0 = .ok (.aload_n 0, 1) := by decide +kernel
theorem dX9_feed_1 : decode cX9_feed 1 = .ok (.iload_n 2, 1) := by decide +kernel
theorem dX9_feed_2 : decode cX9_feed 2 = .ok (.iconst 0, 1) := by decide +kernel
theorem dX9_feed_3 : decode cX9_feed 3 = .ok (.iconst 4, 1) := by decide +kernel
theorem dX9_feed_4 : decode cX9_feed 4 = .ok (.invokevirtual 133, 3) := by decide +kernel
theorem dX9_feed_7 : decode cX9_feed 7 = .ok (.ifCond .ne 6, 3) := by decide +kernel
theorem dX9_feed_10 : decode cX9_feed 10 = .ok (.bipush (-2), 2) := by decide +kernel
theorem dX9_feed_12 : decode cX9_feed 12 = .ok (.ireturn, 1) := by decide +kernel
theorem dX9_feed_13 : decode cX9_feed 13 = .ok (.aload_n 0, 1) := by decide +kernel
theorem dX9_feed_14 : decode cX9_feed 14 = .ok (.getfield 41, 3) := by decide +kernel
theorem dX9_feed_17 : decode cX9_feed 17 = .ok (.iload_n 2, 1) := by decide +kernel
theorem dX9_feed_18 : decode cX9_feed 18 = .ok (.iadd, 1) := by decide +kernel
theorem dX9_feed_19 : decode cX9_feed 19 = .ok (.bipush 100, 2) := by decide +kernel
theorem dX9_feed_21 : decode cX9_feed 21 = .ok (.if_icmp .le 6, 3) := by decide +kernel
theorem dX9_feed_24 : decode cX9_feed 24 = .ok (.bipush (-4), 2) := by decide +kernel
theorem dX9_feed_26 : decode cX9_feed 26 = .ok (.ireturn, 1) := by decide +kernel
theorem dX9_feed_27 : decode cX9_feed 27 = .ok (.iload_n 2, 1) := by decide +kernel
theorem dX9_feed_28 : decode cX9_feed 28 = .ok (.iconst 1, 1) := by decide +kernel
theorem dX9_feed_29 : decode cX9_feed 29 = .ok (.isub, 1) := by decide +kernel
theorem dX9_feed_30 : decode cX9_feed 30 = .ok (.istore_n 3, 1) := by decide +kernel
theorem dX9_feed_31 : decode cX9_feed 31 = .ok (.iload_n 3, 1) := by decide +kernel
theorem dX9_feed_32 : decode cX9_feed 32 = .ok (.ifCond .lt 35, 3) := by decide +kernel
theorem dX9_feed_35 : decode cX9_feed 35 = .ok (.aload_n 0, 1) := by decide +kernel
theorem dX9_feed_36 : decode cX9_feed 36 = .ok (.getfield 47, 3) := by decide +kernel
theorem dX9_feed_39 : decode cX9_feed 39 = .ok (.aload_n 0, 1) := by decide +kernel
theorem dX9_feed_40 : decode cX9_feed 40 = .ok (.getfield 41, 3) := by decide +kernel
theorem dX9_feed_43 : decode cX9_feed 43 = .ok (.iload_n 1, 1) := by decide +kernel
theorem dX9_feed_44 : decode cX9_feed 44 = .ok (.bipush 8, 2) := by decide +kernel
theorem dX9_feed_46 : decode cX9_feed 46 = .ok (.iload_n 3, 1) := by decide +kernel
theorem dX9_feed_47 : decode cX9_feed 47 = .ok (.imul, 1) := by decide +kernel
theorem dX9_feed_48 : decode cX9_feed 48 = .ok (.ishr, 1) := by decide +kernel
theorem dX9_feed_49 : decode cX9_feed 49 = .ok (.i2b, 1) := by decide +kernel
theorem dX9_feed_50 : decode cX9_feed 50 = .ok (.iastore, 1) := by decide +kernel
theorem dX9_feed_51 : decode cX9_feed 51 = .ok (.aload_n 0, 1) := by decide +kernel
theorem dX9_feed_52 : decode cX9_feed 52 = .ok (.dup, 1) := by decide +kernel
theorem dX9_feed_53 : decode cX9_feed 53 = .ok (.getfield 41, 3) := by decide +kernel
theorem dX9_feed_56 : decode cX9_feed 56 = .ok (.iconst 1, 1) := by decide +kernel
theorem dX9_feed_57 : decode cX9_feed 57 = .ok (.iadd, 1) := by decide +kernel
theorem dX9_feed_58 : decode cX9_feed 58 = .ok (.putfield 41, 3) := by decide +kernel
theorem dX9_feed_61 : decode cX9_feed 61 = .ok (.iinc 3 (-1), 3) := by decide +kernel
theorem dX9_feed_64 : decode cX9_feed 64 = .ok (.goto (-33), 3) := by decide +kernel
theorem dX9_feed_67 : decode cX9_feed 67 = .ok (.aload_n 0, 1) := by decide +kernel
theorem dX9_feed_68 : decode cX9_feed 68 = .ok (.getfield 41, 3) := by decide +kernel
theorem dX9_feed_71 : decode cX9_feed 71 = .ok (.ireturn, 1) := by decide +kernel
theorem dX9_next_0 : decode cX9_next 0 = .ok (.aload_n 0, 1) := by decide +kernel
theorem dX9_next_1 : decode cX9_next 1 = .ok (.getfield 44, 3) := by decide +kernel
theorem dX9_next_4 : decode cX9_next 4 = .ok (.aload_n 0, 1) := by decide +kernel
theorem dX9_next_5 : decode cX9_next 5 = .ok (.getfield 41, 3) := by decide +kernel
theorem dX9_next_8 : decode cX9_next 8 = .ok (.if_icmp .ge 15, 3) := by decide +kernel
theorem dX9_next_11 : decode cX9_next 11 = .ok (.aload_n 0, 1) := by decide +kernel
theorem dX9_next_12 : decode cX9_next 12 = .ok (.getfield 47, 3) := by decide +kernel
theorem dX9_next_15 : decode cX9_next 15 = .ok (.aload_n 0, 1) := by decide +kernel
theorem dX9_next_16 : decode cX9_next 16 = .ok (.getfield 44, 3) := by decide +kernel
theorem dX9_next_19 : decode cX9_next 19 = .ok (.iaload, 1) := by decide +kernel
theorem dX9_next_20 : decode cX9_next 20 = .ok (.goto 4, 3) := by decide +kernel
theorem dX9_next_23 : decode cX9_next 23 = .ok (.iconst (-1), 1) := by decide +kernel
theorem dX9_next_24 : decode cX9_next 24 = .ok (.ireturn, 1) := by decide +kernel
theorem dX9_takes_0 : decode cX9_takes 0 = .ok (.aload_n 0, 1) := by decide +kernel
theorem dX9_takes_1 : decode cX9_takes 1 = .ok (.invokevirtual 145, 3) := by decide +kernel
theorem dX9_takes_4 : decode cX9_takes 4 = .ok (.iload_n 1, 1) := by decide +kernel
theorem dX9_takes_5 : decode cX9_takes 5 = .ok (.if_icmp .eq 5, 3) := by decide +kernel
theorem dX9_takes_8 : decode cX9_takes 8 = .ok (.iconst 0, 1) := by decide +kernel
theorem dX9_takes_9 : decode cX9_takes 9 = .ok (.ireturn, 1) := by decide +kernel
theorem dX9_takes_10 : decode cX9_takes 10 = .ok (.aload_n 0, 1) := by decide +kernel
theorem dX9_takes_11 : decode cX9_takes 11 = .ok (.dup, 1) := by decide +kernel
theorem dX9_takes_12 : decode cX9_takes 12 = .ok (.getfield 44, 3) := by decide +kernel
theorem dX9_takes_15 : decode cX9_takes 15 = .ok (.iconst 1, 1) := by decide +kernel
theorem dX9_takes_16 : decode cX9_takes 16 = .ok (.iadd, 1) := by decide +kernel
theorem dX9_takes_17 : decode cX9_takes 17 = .ok (.putfield 44, 3) := by decide +kernel
theorem dX9_takes_20 : decode cX9_takes 20 = .ok (.iconst 1, 1) := by decide +kernel
theorem dX9_takes_21 : decode cX9_takes 21 = .ok (.ireturn, 1) := by decide +kernel
theorem dX9_takesWord_0 : decode cX9_takesWord 0 = .ok (.iload_n 2, 1) := by decide +kernel
theorem dX9_takesWord_1 : decode cX9_takesWord 1 = .ok (.iconst 1, 1) := by decide +kernel
theorem dX9_takesWord_2 : decode cX9_takesWord 2 = .ok (.isub, 1) := by decide +kernel
theorem dX9_takesWord_3 : decode cX9_takesWord 3 = .ok (.istore_n 3, 1) := by decide +kernel
theorem dX9_takesWord_4 : decode cX9_takesWord 4 = .ok (.iload_n 3, 1) := by decide +kernel
theorem dX9_takesWord_5 : decode cX9_takesWord 5 = .ok (.ifCond .lt 29, 3) := by decide +kernel
theorem dX9_takesWord_8 : decode cX9_takesWord 8 = .ok (.aload_n 0, 1) := by decide +kernel
theorem dX9_takesWord_9 : decode cX9_takesWord 9 = .ok (.bipush 96, 2) := by decide +kernel
theorem dX9_takesWord_11 : decode cX9_takesWord 11 = .ok (.iload_n 1, 1) := by decide +kernel
theorem dX9_takesWord_12 : decode cX9_takesWord 12 = .ok (.iconst 5, 1) := by decide +kernel
theorem dX9_takesWord_13 : decode cX9_takesWord 13 = .ok (.iload_n 3, 1) := by decide +kernel
theorem dX9_takesWord_14 : decode cX9_takesWord 14 = .ok (.imul, 1) := by decide +kernel
theorem dX9_takesWord_15 : decode cX9_takesWord 15 = .ok (.ishr, 1) := by decide +kernel
theorem dX9_takesWord_16 : decode cX9_takesWord 16 = .ok (.bipush 31, 2) := by decide +kernel
theorem dX9_takesWord_18 : decode cX9_takesWord 18 = .ok (.iand, 1) := by decide +kernel
theorem dX9_takesWord_19 : decode cX9_takesWord 19 = .ok (.iadd, 1) := by decide +kernel
theorem dX9_takesWord_20 : decode cX9_takesWord 20 = .ok (.invokevirtual 149, 3) := by decide +kernel
theorem dX9_takesWord_23 : decode cX9_takesWord 23 = .ok (.ifCond .ne 5, 3) := by decide +kernel
theorem dX9_takesWord_26 : decode cX9_takesWord 26 = .ok (.iconst 0, 1) := by decide +kernel
theorem dX9_takesWord_27 : decode cX9_takesWord 27 = .ok (.ireturn, 1) := by decide +kernel
theorem dX9_takesWord_28 : decode cX9_takesWord 28 = .ok (.iinc 3 (-1), 3) := by decide +kernel
theorem dX9_takesWord_31 : decode cX9_takesWord 31 = .ok (.goto (-27), 3) := by decide +kernel
theorem dX9_takesWord_34 : decode cX9_takesWord 34 = .ok (.aload_n 0, 1) := by decide +kernel
theorem dX9_takesWord_35 : decode cX9_takesWord 35 = .ok (.bipush 32, 2) := by decide +kernel
theorem dX9_takesWord_37 : decode cX9_takesWord 37 = .ok (.invokevirtual 149, 3) := by decide +kernel
theorem dX9_takesWord_40 : decode cX9_takesWord 40 = .ok (.ireturn, 1) := by decide +kernel
theorem dX9_put_0 : decode cX9_put 0 = .ok (.aload_n 0, 1) := by decide +kernel
theorem dX9_put_1 : decode cX9_put 1 = .ok (.getfield 68, 3) := by decide +kernel
theorem dX9_put_4 : decode cX9_put 4 = .ok (.aload_n 0, 1) := by decide +kernel
theorem dX9_put_5 : decode cX9_put 5 = .ok (.getfield 71, 3) := by decide +kernel
theorem dX9_put_8 : decode cX9_put 8 = .ok (.iload_n 1, 1) := by decide +kernel
theorem dX9_put_9 : decode cX9_put 9 = .ok (.iastore, 1) := by decide +kernel
theorem dX9_put_10 : decode cX9_put 10 = .ok (.aload_n 0, 1) := by decide +kernel
theorem dX9_put_11 : decode cX9_put 11 = .ok (.dup, 1) := by decide +kernel
theorem dX9_put_12 : decode cX9_put 12 = .ok (.getfield 71, 3) := by decide +kernel
theorem dX9_put_15 : decode cX9_put 15 = .ok (.iconst 1, 1) := by decide +kernel
theorem dX9_put_16 : decode cX9_put 16 = .ok (.iadd, 1) := by decide +kernel
theorem dX9_put_17 : decode cX9_put 17 = .ok (.putfield 71, 3) := by decide +kernel
theorem dX9_put_20 : decode cX9_put 20 = .ok (.return_, 1) := by decide +kernel
theorem dX9_whole_0 : decode cX9_whole 0 = .ok (.aload_n 0, 1) := by decide +kernel
theorem dX9_whole_1 : decode cX9_whole 1 = .ok (.getfield 77, 3) := by decide +kernel
theorem dX9_whole_4 : decode cX9_whole 4 = .ok (.ifCond .le 48, 3) := by decide +kernel
theorem dX9_whole_7 : decode cX9_whole 7 = .ok (.aload_n 0, 1) := by decide +kernel
theorem dX9_whole_8 : decode cX9_whole 8 = .ok (.getfield 74, 3) := by decide +kernel
theorem dX9_whole_11 : decode cX9_whole 11 = .ok (.aload_n 0, 1) := by decide +kernel
theorem dX9_whole_12 : decode cX9_whole 12 = .ok (.getfield 77, 3) := by decide +kernel
theorem dX9_whole_15 : decode cX9_whole 15 = .ok (.iconst 1, 1) := by decide +kernel
theorem dX9_whole_16 : decode cX9_whole 16 = .ok (.isub, 1) := by decide +kernel
theorem dX9_whole_17 : decode cX9_whole 17 = .ok (.iaload, 1) := by decide +kernel
theorem dX9_whole_18 : decode cX9_whole 18 = .ok (.bipush 33, 2) := by decide +kernel
theorem dX9_whole_20 : decode cX9_whole 20 = .ok (.if_icmp .ne 32, 3) := by decide +kernel
theorem dX9_whole_23 : decode cX9_whole 23 = .ok (.aload_n 0, 1) := by decide +kernel
theorem dX9_whole_24 : decode cX9_whole 24 = .ok (.bipush 33, 2) := by decide +kernel
theorem dX9_whole_26 : decode cX9_whole 26 = .ok (.invokevirtual 152, 3) := by decide +kernel
theorem dX9_whole_29 : decode cX9_whole 29 = .ok (.aload_n 0, 1) := by decide +kernel
theorem dX9_whole_30 : decode cX9_whole 30 = .ok (.dup, 1) := by decide +kernel
theorem dX9_whole_31 : decode cX9_whole 31 = .ok (.getfield 77, 3) := by decide +kernel
theorem dX9_whole_34 : decode cX9_whole 34 = .ok (.iconst 1, 1) := by decide +kernel
theorem dX9_whole_35 : decode cX9_whole 35 = .ok (.isub, 1) := by decide +kernel
theorem dX9_whole_36 : decode cX9_whole 36 = .ok (.putfield 77, 3) := by decide +kernel
theorem dX9_whole_39 : decode cX9_whole 39 = .ok (.aload_n 0, 1) := by decide +kernel
theorem dX9_whole_40 : decode cX9_whole 40 = .ok (.dup, 1) := by decide +kernel
theorem dX9_whole_41 : decode cX9_whole 41 = .ok (.getfield 80, 3) := by decide +kernel
theorem dX9_whole_44 : decode cX9_whole 44 = .ok (.iconst 1, 1) := by decide +kernel
theorem dX9_whole_45 : decode cX9_whole 45 = .ok (.isub, 1) := by decide +kernel
theorem dX9_whole_46 : decode cX9_whole 46 = .ok (.putfield 80, 3) := by decide +kernel
theorem dX9_whole_49 : decode cX9_whole 49 = .ok (.goto (-49), 3) := by decide +kernel
theorem dX9_whole_52 : decode cX9_whole 52 = .ok (.return_, 1) := by decide +kernel
theorem dX9_settle_0 : decode cX9_settle 0 = .ok (.aload_n 0, 1) := by decide +kernel
theorem dX9_settle_1 : decode cX9_settle 1 = .ok (.getfield 77, 3) := by decide +kernel
theorem dX9_settle_4 : decode cX9_settle 4 = .ok (.ifCond .le 67, 3) := by decide +kernel
theorem dX9_settle_7 : decode cX9_settle 7 = .ok (.aload_n 0, 1) := by decide +kernel
theorem dX9_settle_8 : decode cX9_settle 8 = .ok (.getfield 74, 3) := by decide +kernel
theorem dX9_settle_11 : decode cX9_settle 11 = .ok (.aload_n 0, 1) := by decide +kernel
theorem dX9_settle_12 : decode cX9_settle 12 = .ok (.getfield 77, 3) := by decide +kernel
theorem dX9_settle_15 : decode cX9_settle 15 = .ok (.iconst 1, 1) := by decide +kernel
theorem dX9_settle_16 : decode cX9_settle 16 = .ok (.isub, 1) := by decide +kernel
theorem dX9_settle_17 : decode cX9_settle 17 = .ok (.iaload, 1) := by decide +kernel
theorem dX9_settle_18 : decode cX9_settle 18 = .ok (.bipush 38, 2) := by decide +kernel
theorem dX9_settle_20 : decode cX9_settle 20 = .ok (.if_icmp .eq 25, 3) := by decide +kernel
theorem dX9_settle_23 : decode cX9_settle 23 = .ok (.aload_n 0, 1) := by decide +kernel
theorem dX9_settle_24 : decode cX9_settle 24 = .ok (.getfield 74, 3) := by decide +kernel
theorem dX9_settle_27 : decode cX9_settle 27 = .ok (.aload_n 0, 1) := by decide +kernel
theorem dX9_settle_28 : decode cX9_settle 28 = .ok (.getfield 77, 3) := by decide +kernel
theorem dX9_settle_31 : decode cX9_settle 31 = .ok (.iconst 1, 1) := by decide +kernel
theorem dX9_settle_32 : decode cX9_settle 32 = .ok (.isub, 1) := by decide +kernel
theorem dX9_settle_33 : decode cX9_settle 33 = .ok (.iaload, 1) := by decide +kernel
theorem dX9_settle_34 : decode cX9_settle 34 = .ok (.bipush 124, 2) := by decide +kernel
theorem dX9_settle_36 : decode cX9_settle 36 = .ok (.if_icmp .ne 35, 3) := by decide +kernel
theorem dX9_settle_39 : decode cX9_settle 39 = .ok (.iload_n 1, 1) := by decide +kernel
theorem dX9_settle_40 : decode cX9_settle 40 = .ok (.bipush 38, 2) := by decide +kernel
theorem dX9_settle_42 : decode cX9_settle 42 = .ok (.if_icmp .eq 29, 3) := by decide +kernel
theorem dX9_settle_45 : decode cX9_settle 45 = .ok (.aload_n 0, 1) := by decide +kernel
theorem dX9_settle_46 : decode cX9_settle 46 = .ok (.dup, 1) := by decide +kernel
theorem dX9_settle_47 : decode cX9_settle 47 = .ok (.getfield 77, 3) := by decide +kernel
theorem dX9_settle_50 : decode cX9_settle 50 = .ok (.iconst 1, 1) := by decide +kernel
theorem dX9_settle_51 : decode cX9_settle 51 = .ok (.isub, 1) := by decide +kernel
theorem dX9_settle_52 : decode cX9_settle 52 = .ok (.putfield 77, 3) := by decide +kernel
theorem dX9_settle_55 : decode cX9_settle 55 = .ok (.aload_n 0, 1) := by decide +kernel
theorem dX9_settle_56 : decode cX9_settle 56 = .ok (.aload_n 0, 1) := by decide +kernel
theorem dX9_settle_57 : decode cX9_settle 57 = .ok (.getfield 74, 3) := by decide +kernel
theorem dX9_settle_60 : decode cX9_settle 60 = .ok (.aload_n 0, 1) := by decide +kernel
theorem dX9_settle_61 : decode cX9_settle 61 = .ok (.getfield 77, 3) := by decide +kernel
theorem dX9_settle_64 : decode cX9_settle 64 = .ok (.iaload, 1) := by decide +kernel
theorem dX9_settle_65 : decode cX9_settle 65 = .ok (.invokevirtual 152, 3) := by decide +kernel
theorem dX9_settle_68 : decode cX9_settle 68 = .ok (.goto (-68), 3) := by decide +kernel
theorem dX9_settle_71 : decode cX9_settle 71 = .ok (.return_, 1) := by decide +kernel
theorem dX9_takesTest_0 : decode cX9_takesTest 0 = .ok (.aload_n 0, 1) := by decide +kernel
theorem dX9_takesTest_1 : decode cX9_takesTest 1 = .ok (.invokevirtual 145, 3) := by decide +kernel
theorem dX9_takesTest_4 : decode cX9_takesTest 4 = .ok (.istore_n 1, 1) := by decide +kernel
theorem dX9_takesTest_5 : decode cX9_takesTest 5 = .ok (.iload_n 1, 1) := by decide +kernel
theorem dX9_takesTest_6 : decode cX9_takesTest 6 = .ok (.bipush 107, 2) := by decide +kernel
theorem dX9_takesTest_8 : decode cX9_takesTest 8 = .ok (.if_icmp .eq 9, 3) := by decide +kernel
theorem dX9_takesTest_11 : decode cX9_takesTest 11 = .ok (.iload_n 1, 1) := by decide +kernel
theorem dX9_takesTest_12 : decode cX9_takesTest 12 = .ok (.bipush 104, 2) := by decide +kernel
theorem dX9_takesTest_14 : decode cX9_takesTest 14 = .ok (.if_icmp .ne 7, 3) := by decide +kernel
theorem dX9_takesTest_17 : decode cX9_takesTest 17 = .ok (.iconst 1, 1) := by decide +kernel
theorem dX9_takesTest_18 : decode cX9_takesTest 18 = .ok (.goto 4, 3) := by decide +kernel
theorem dX9_takesTest_21 : decode cX9_takesTest 21 = .ok (.iconst 0, 1) := by decide +kernel
theorem dX9_takesTest_22 : decode cX9_takesTest 22 = .ok (.istore_n 2, 1) := by decide +kernel
theorem dX9_takesTest_23 : decode cX9_takesTest 23 = .ok (.iload_n 2, 1) := by decide +kernel
theorem dX9_takesTest_24 : decode cX9_takesTest 24 = .ok (.ifCond .ne 35, 3) := by decide +kernel
theorem dX9_takesTest_27 : decode cX9_takesTest 27 = .ok (.iload_n 1, 1) := by decide +kernel
theorem dX9_takesTest_28 : decode cX9_takesTest 28 = .ok (.bipush 117, 2) := by decide +kernel
theorem dX9_takesTest_30 : decode cX9_takesTest 30 = .ok (.if_icmp .eq 29, 3) := by decide +kernel
theorem dX9_takesTest_33 : decode cX9_takesTest 33 = .ok (.iload_n 1, 1) := by decide +kernel
theorem dX9_takesTest_34 : decode cX9_takesTest 34 = .ok (.bipush 98, 2) := by decide +kernel
theorem dX9_takesTest_36 : decode cX9_takesTest 36 = .ok (.if_icmp .eq 23, 3) := by decide +kernel
theorem dX9_takesTest_39 : decode cX9_takesTest 39 = .ok (.iload_n 1, 1) := by decide +kernel
theorem dX9_takesTest_40 : decode cX9_takesTest 40 = .ok (.bipush 99, 2) := by decide +kernel
theorem dX9_takesTest_42 : decode cX9_takesTest 42 = .ok (.if_icmp .eq 17, 3) := by decide +kernel
theorem dX9_takesTest_45 : decode cX9_takesTest 45 = .ok (.iload_n 1, 1) := by decide +kernel
theorem dX9_takesTest_46 : decode cX9_takesTest 46 = .ok (.bipush 101, 2) := by decide +kernel
theorem dX9_takesTest_48 : decode cX9_takesTest 48 = .ok (.if_icmp .eq 11, 3) := by decide +kernel
theorem dX9_takesTest_51 : decode cX9_takesTest 51 = .ok (.iload_n 1, 1) := by decide +kernel
theorem dX9_takesTest_52 : decode cX9_takesTest 52 = .ok (.bipush 115, 2) := by decide +kernel
theorem dX9_takesTest_54 : decode cX9_takesTest 54 = .ok (.if_icmp .eq 5, 3) := by decide +kernel
theorem dX9_takesTest_57 : decode cX9_takesTest 57 = .ok (.iconst 0, 1) := by decide +kernel
theorem dX9_takesTest_58 : decode cX9_takesTest 58 = .ok (.ireturn, 1) := by decide +kernel
theorem dX9_takesTest_59 : decode cX9_takesTest 59 = .ok (.aload_n 0, 1) := by decide +kernel
theorem dX9_takesTest_60 : decode cX9_takesTest 60 = .ok (.dup, 1) := by decide +kernel
theorem dX9_takesTest_61 : decode cX9_takesTest 61 = .ok (.getfield 44, 3) := by decide +kernel
theorem dX9_takesTest_64 : decode cX9_takesTest 64 = .ok (.iconst 1, 1) := by decide +kernel
theorem dX9_takesTest_65 : decode cX9_takesTest 65 = .ok (.iadd, 1) := by decide +kernel
theorem dX9_takesTest_66 : decode cX9_takesTest 66 = .ok (.putfield 44, 3) := by decide +kernel
theorem dX9_takesTest_69 : decode cX9_takesTest 69 = .ok (.aload_n 0, 1) := by decide +kernel
theorem dX9_takesTest_70 : decode cX9_takesTest 70 = .ok (.invokevirtual 145, 3) := by decide +kernel
theorem dX9_takesTest_73 : decode cX9_takesTest 73 = .ok (.istore_n 3, 1) := by decide +kernel
theorem dX9_takesTest_74 : decode cX9_takesTest 74 = .ok (.iload_n 3, 1) := by decide +kernel
theorem dX9_takesTest_75 : decode cX9_takesTest 75 = .ok (.bipush 61, 2) := by decide +kernel
theorem dX9_takesTest_77 : decode cX9_takesTest 77 = .ok (.if_icmp .eq 21, 3) := by decide +kernel
theorem dX9_takesTest_80 : decode cX9_takesTest 80 = .ok (.iload_n 2, 1) := by decide +kernel
theorem dX9_takesTest_81 : decode cX9_takesTest 81 = .ok (.ifCond .eq 15, 3) := by decide +kernel
theorem dX9_takesTest_84 : decode cX9_takesTest 84 = .ok (.iload_n 3, 1) := by decide +kernel
theorem dX9_takesTest_85 : decode cX9_takesTest 85 = .ok (.bipush 60, 2) := by decide +kernel
theorem dX9_takesTest_87 : decode cX9_takesTest 87 = .ok (.if_icmp .eq 11, 3) := by decide +kernel
theorem dX9_takesTest_90 : decode cX9_takesTest 90 = .ok (.iload_n 3, 1) := by decide +kernel
theorem dX9_takesTest_91 : decode cX9_takesTest 91 = .ok (.bipush 62, 2) := by decide +kernel
theorem dX9_takesTest_93 : decode cX9_takesTest 93 = .ok (.if_icmp .eq 5, 3) := by decide +kernel
theorem dX9_takesTest_96 : decode cX9_takesTest 96 = .ok (.iconst 0, 1) := by decide +kernel
theorem dX9_takesTest_97 : decode cX9_takesTest 97 = .ok (.ireturn, 1) := by decide +kernel
theorem dX9_takesTest_98 : decode cX9_takesTest 98 = .ok (.aload_n 0, 1) := by decide +kernel
theorem dX9_takesTest_99 : decode cX9_takesTest 99 = .ok (.dup, 1) := by decide +kernel
theorem dX9_takesTest_100 : decode cX9_takesTest 100 = .ok (.getfield 44, 3) := by decide +kernel
theorem dX9_takesTest_103 : decode cX9_takesTest 103 = .ok (.iconst 1, 1) := by decide +kernel
theorem dX9_takesTest_104 : decode cX9_takesTest 104 = .ok (.iadd, 1) := by decide +kernel
theorem dX9_takesTest_105 : decode cX9_takesTest 105 = .ok (.putfield 44, 3) := by decide +kernel
theorem dX9_takesTest_108 : decode cX9_takesTest 108 = .ok (.aload_n 0, 1) := by decide +kernel
theorem dX9_takesTest_109 : decode cX9_takesTest 109 = .ok (.invokevirtual 145, 3) := by decide +kernel
theorem dX9_takesTest_112 : decode cX9_takesTest 112 = .ok (.bipush 48, 2) := by decide +kernel
theorem dX9_takesTest_114 : decode cX9_takesTest 114 = .ok (.isub, 1) := by decide +kernel
theorem dX9_takesTest_115 : decode cX9_takesTest 115 = .ok (.istore 4, 2) := by decide +kernel
theorem dX9_takesTest_117 : decode cX9_takesTest 117 = .ok (.aload_n 0, 1) := by decide +kernel
theorem dX9_takesTest_118 : decode cX9_takesTest 118 = .ok (.iload 4, 2) := by decide +kernel
theorem dX9_takesTest_120 : decode cX9_takesTest 120 = .ok (.iconst 0, 1) := by decide +kernel
theorem dX9_takesTest_121 : decode cX9_takesTest 121 = .ok (.bipush 9, 2) := by decide +kernel
theorem dX9_takesTest_123 : decode cX9_takesTest 123 = .ok (.invokevirtual 133, 3) := by decide +kernel
theorem dX9_takesTest_126 : decode cX9_takesTest 126 = .ok (.ifCond .ne 5, 3) := by decide +kernel
theorem dX9_takesTest_129 : decode cX9_takesTest 129 = .ok (.iconst 0, 1) := by decide +kernel
theorem dX9_takesTest_130 : decode cX9_takesTest 130 = .ok (.ireturn, 1) := by decide +kernel
theorem dX9_takesTest_131 : decode cX9_takesTest 131 = .ok (.aload_n 0, 1) := by decide +kernel
theorem dX9_takesTest_132 : decode cX9_takesTest 132 = .ok (.dup, 1) := by decide +kernel
theorem dX9_takesTest_133 : decode cX9_takesTest 133 = .ok (.getfield 44, 3) := by decide +kernel
theorem dX9_takesTest_136 : decode cX9_takesTest 136 = .ok (.iconst 1, 1) := by decide +kernel
theorem dX9_takesTest_137 : decode cX9_takesTest 137 = .ok (.iadd, 1) := by decide +kernel
theorem dX9_takesTest_138 : decode cX9_takesTest 138 = .ok (.putfield 44, 3) := by decide +kernel
theorem dX9_takesTest_141 : decode cX9_takesTest 141 = .ok (.aload_n 0, 1) := by decide +kernel
theorem dX9_takesTest_142 : decode cX9_takesTest 142 = .ok (.sipush 1000, 3) := by decide +kernel
theorem dX9_takesTest_145 : decode cX9_takesTest 145 = .ok (.iload_n 1, 1) := by decide +kernel
theorem dX9_takesTest_146 : decode cX9_takesTest 146 = .ok (.imul, 1) := by decide +kernel
theorem dX9_takesTest_147 : decode cX9_takesTest 147 = .ok (.bipush 10, 2) := by decide +kernel
theorem dX9_takesTest_149 : decode cX9_takesTest 149 = .ok (.iload_n 3, 1) := by decide +kernel
theorem dX9_takesTest_150 : decode cX9_takesTest 150 = .ok (.imul, 1) := by decide +kernel
theorem dX9_takesTest_151 : decode cX9_takesTest 151 = .ok (.iadd, 1) := by decide +kernel
theorem dX9_takesTest_152 : decode cX9_takesTest 152 = .ok (.iload 4, 2) := by decide +kernel
theorem dX9_takesTest_154 : decode cX9_takesTest 154 = .ok (.iadd, 1) := by decide +kernel
theorem dX9_takesTest_155 : decode cX9_takesTest 155 = .ok (.invokevirtual 152, 3) := by decide +kernel
theorem dX9_takesTest_158 : decode cX9_takesTest 158 = .ok (.aload_n 0, 1) := by decide +kernel
theorem dX9_takesTest_159 : decode cX9_takesTest 159 = .ok (.invokevirtual 156, 3) := by decide +kernel
theorem dX9_takesTest_162 : decode cX9_takesTest 162 = .ok (.iconst 1, 1) := by decide +kernel
theorem dX9_takesTest_163 : decode cX9_takesTest 163 = .ok (.ireturn, 1) := by decide +kernel
theorem dX9_takesE_0 : decode cX9_takesE 0 = .ok (.aload_n 0, 1) := by decide +kernel
theorem dX9_takesE_1 : decode cX9_takesE 1 = .ok (.iconst 0, 1) := by decide +kernel
theorem dX9_takesE_2 : decode cX9_takesE 2 = .ok (.putfield 77, 3) := by decide +kernel
theorem dX9_takesE_5 : decode cX9_takesE 5 = .ok (.aload_n 0, 1) := by decide +kernel
theorem dX9_takesE_6 : decode cX9_takesE 6 = .ok (.iconst 0, 1) := by decide +kernel
theorem dX9_takesE_7 : decode cX9_takesE 7 = .ok (.putfield 80, 3) := by decide +kernel
theorem dX9_takesE_10 : decode cX9_takesE 10 = .ok (.iconst 1, 1) := by decide +kernel
theorem dX9_takesE_11 : decode cX9_takesE 11 = .ok (.istore_n 1, 1) := by decide +kernel
theorem dX9_takesE_12 : decode cX9_takesE 12 = .ok (.aload_n 0, 1) := by decide +kernel
theorem dX9_takesE_13 : decode cX9_takesE 13 = .ok (.invokevirtual 145, 3) := by decide +kernel
theorem dX9_takesE_16 : decode cX9_takesE 16 = .ok (.istore_n 2, 1) := by decide +kernel
theorem dX9_takesE_17 : decode cX9_takesE 17 = .ok (.iload_n 1, 1) := by decide +kernel
theorem dX9_takesE_18 : decode cX9_takesE 18 = .ok (.ifCond .eq 82, 3) := by decide +kernel
theorem dX9_takesE_21 : decode cX9_takesE 21 = .ok (.iload_n 2, 1) := by decide +kernel
theorem dX9_takesE_22 : decode cX9_takesE 22 = .ok (.bipush 33, 2) := by decide +kernel
theorem dX9_takesE_24 : decode cX9_takesE 24 = .ok (.if_icmp .eq 9, 3) := by decide +kernel
theorem dX9_takesE_27 : decode cX9_takesE 27 = .ok (.iload_n 2, 1) := by decide +kernel
theorem dX9_takesE_28 : decode cX9_takesE 28 = .ok (.bipush 40, 2) := by decide +kernel
theorem dX9_takesE_30 : decode cX9_takesE 30 = .ok (.if_icmp .ne 56, 3) := by decide +kernel
theorem dX9_takesE_33 : decode cX9_takesE 33 = .ok (.aload_n 0, 1) := by decide +kernel
theorem dX9_takesE_34 : decode cX9_takesE 34 = .ok (.getfield 80, 3) := by decide +kernel
theorem dX9_takesE_37 : decode cX9_takesE 37 = .ok (.iconst 4, 1) := by decide +kernel
theorem dX9_takesE_38 : decode cX9_takesE 38 = .ok (.if_icmp .ne 5, 3) := by decide +kernel
theorem dX9_takesE_41 : decode cX9_takesE 41 = .ok (.iconst 0, 1) := by decide +kernel
theorem dX9_takesE_42 : decode cX9_takesE 42 = .ok (.ireturn, 1) := by decide +kernel
theorem dX9_takesE_43 : decode cX9_takesE 43 = .ok (.aload_n 0, 1) := by decide +kernel
theorem dX9_takesE_44 : decode cX9_takesE 44 = .ok (.dup, 1) := by decide +kernel
theorem dX9_takesE_45 : decode cX9_takesE 45 = .ok (.getfield 80, 3) := by decide +kernel
theorem dX9_takesE_48 : decode cX9_takesE 48 = .ok (.iconst 1, 1) := by decide +kernel
theorem dX9_takesE_49 : decode cX9_takesE 49 = .ok (.iadd, 1) := by decide +kernel
theorem dX9_takesE_50 : decode cX9_takesE 50 = .ok (.putfield 80, 3) := by decide +kernel
theorem dX9_takesE_53 : decode cX9_takesE 53 = .ok (.aload_n 0, 1) := by decide +kernel
theorem dX9_takesE_54 : decode cX9_takesE 54 = .ok (.getfield 74, 3) := by decide +kernel
theorem dX9_takesE_57 : decode cX9_takesE 57 = .ok (.aload_n 0, 1) := by decide +kernel
theorem dX9_takesE_58 : decode cX9_takesE 58 = .ok (.getfield 77, 3) := by decide +kernel
theorem dX9_takesE_61 : decode cX9_takesE 61 = .ok (.iload_n 2, 1) := by decide +kernel
theorem dX9_takesE_62 : decode cX9_takesE 62 = .ok (.iastore, 1) := by decide +kernel
theorem dX9_takesE_63 : decode cX9_takesE 63 = .ok (.aload_n 0, 1) := by decide +kernel
theorem dX9_takesE_64 : decode cX9_takesE 64 = .ok (.dup, 1) := by decide +kernel
theorem dX9_takesE_65 : decode cX9_takesE 65 = .ok (.getfield 77, 3) := by decide +kernel
theorem dX9_takesE_68 : decode cX9_takesE 68 = .ok (.iconst 1, 1) := by decide +kernel
theorem dX9_takesE_69 : decode cX9_takesE 69 = .ok (.iadd, 1) := by decide +kernel
theorem dX9_takesE_70 : decode cX9_takesE 70 = .ok (.putfield 77, 3) := by decide +kernel
theorem dX9_takesE_73 : decode cX9_takesE 73 = .ok (.aload_n 0, 1) := by decide +kernel
theorem dX9_takesE_74 : decode cX9_takesE 74 = .ok (.dup, 1) := by decide +kernel
theorem dX9_takesE_75 : decode cX9_takesE 75 = .ok (.getfield 44, 3) := by decide +kernel
theorem dX9_takesE_78 : decode cX9_takesE 78 = .ok (.iconst 1, 1) := by decide +kernel
theorem dX9_takesE_79 : decode cX9_takesE 79 = .ok (.iadd, 1) := by decide +kernel
theorem dX9_takesE_80 : decode cX9_takesE 80 = .ok (.putfield 44, 3) := by decide +kernel
theorem dX9_takesE_83 : decode cX9_takesE 83 = .ok (.goto (-71), 3) := by decide +kernel
theorem dX9_takesE_86 : decode cX9_takesE 86 = .ok (.aload_n 0, 1) := by decide +kernel
theorem dX9_takesE_87 : decode cX9_takesE 87 = .ok (.invokevirtual 159, 3) := by decide +kernel
theorem dX9_takesE_90 : decode cX9_takesE 90 = .ok (.ifCond .eq 8, 3) := by decide +kernel
theorem dX9_takesE_93 : decode cX9_takesE 93 = .ok (.iconst 0, 1) := by decide +kernel
theorem dX9_takesE_94 : decode cX9_takesE 94 = .ok (.istore_n 1, 1) := by decide +kernel
theorem dX9_takesE_95 : decode cX9_takesE 95 = .ok (.goto (-83), 3) := by decide +kernel
theorem dX9_takesE_98 : decode cX9_takesE 98 = .ok (.iconst 0, 1) := by decide +kernel
theorem dX9_takesE_99 : decode cX9_takesE 99 = .ok (.ireturn, 1) := by decide +kernel
theorem dX9_takesE_100 : decode cX9_takesE 100 = .ok (.iload_n 2, 1) := by decide +kernel
theorem dX9_takesE_101 : decode cX9_takesE 101 = .ok (.bipush 38, 2) := by decide +kernel
theorem dX9_takesE_103 : decode cX9_takesE 103 = .ok (.if_icmp .eq 9, 3) := by decide +kernel
theorem dX9_takesE_106 : decode cX9_takesE 106 = .ok (.iload_n 2, 1) := by decide +kernel
theorem dX9_takesE_107 : decode cX9_takesE 107 = .ok (.bipush 124, 2) := by decide +kernel
theorem dX9_takesE_109 : decode cX9_takesE 109 = .ok (.if_icmp .ne 43, 3) := by decide +kernel
theorem dX9_takesE_112 : decode cX9_takesE 112 = .ok (.aload_n 0, 1) := by decide +kernel
theorem dX9_takesE_113 : decode cX9_takesE 113 = .ok (.iload_n 2, 1) := by decide +kernel
theorem dX9_takesE_114 : decode cX9_takesE 114 = .ok (.invokevirtual 163, 3) := by decide +kernel
theorem dX9_takesE_117 : decode cX9_takesE 117 = .ok (.aload_n 0, 1) := by decide +kernel
theorem dX9_takesE_118 : decode cX9_takesE 118 = .ok (.getfield 74, 3) := by decide +kernel
theorem dX9_takesE_121 : decode cX9_takesE 121 = .ok (.aload_n 0, 1) := by decide +kernel
theorem dX9_takesE_122 : decode cX9_takesE 122 = .ok (.getfield 77, 3) := by decide +kernel
theorem dX9_takesE_125 : decode cX9_takesE 125 = .ok (.iload_n 2, 1) := by decide +kernel
theorem dX9_takesE_126 : decode cX9_takesE 126 = .ok (.iastore, 1) := by decide +kernel
theorem dX9_takesE_127 : decode cX9_takesE 127 = .ok (.aload_n 0, 1) := by decide +kernel
theorem dX9_takesE_128 : decode cX9_takesE 128 = .ok (.dup, 1) := by decide +kernel
theorem dX9_takesE_129 : decode cX9_takesE 129 = .ok (.getfield 77, 3) := by decide +kernel
theorem dX9_takesE_132 : decode cX9_takesE 132 = .ok (.iconst 1, 1) := by decide +kernel
theorem dX9_takesE_133 : decode cX9_takesE 133 = .ok (.iadd, 1) := by decide +kernel
theorem dX9_takesE_134 : decode cX9_takesE 134 = .ok (.putfield 77, 3) := by decide +kernel
theorem dX9_takesE_137 : decode cX9_takesE 137 = .ok (.iconst 1, 1) := by decide +kernel
theorem dX9_takesE_138 : decode cX9_takesE 138 = .ok (.istore_n 1, 1) := by decide +kernel
theorem dX9_takesE_139 : decode cX9_takesE 139 = .ok (.aload_n 0, 1) := by decide +kernel
theorem dX9_takesE_140 : decode cX9_takesE 140 = .ok (.dup, 1) := by decide +kernel
theorem dX9_takesE_141 : decode cX9_takesE 141 = .ok (.getfield 44, 3) := by decide +kernel
theorem dX9_takesE_144 : decode cX9_takesE 144 = .ok (.iconst 1, 1) := by decide +kernel
theorem dX9_takesE_145 : decode cX9_takesE 145 = .ok (.iadd, 1) := by decide +kernel
theorem dX9_takesE_146 : decode cX9_takesE 146 = .ok (.putfield 44, 3) := by decide +kernel
theorem dX9_takesE_149 : decode cX9_takesE 149 = .ok (.goto (-137), 3) := by decide +kernel
theorem dX9_takesE_152 : decode cX9_takesE 152 = .ok (.aload_n 0, 1) := by decide +kernel
theorem dX9_takesE_153 : decode cX9_takesE 153 = .ok (.bipush 124, 2) := by decide +kernel
theorem dX9_takesE_155 : decode cX9_takesE 155 = .ok (.invokevirtual 163, 3) := by decide +kernel
theorem dX9_takesE_158 : decode cX9_takesE 158 = .ok (.aload_n 0, 1) := by decide +kernel
theorem dX9_takesE_159 : decode cX9_takesE 159 = .ok (.getfield 77, 3) := by decide +kernel
theorem dX9_takesE_162 : decode cX9_takesE 162 = .ok (.ifCond .ne 5, 3) := by decide +kernel
theorem dX9_takesE_165 : decode cX9_takesE 165 = .ok (.iconst 1, 1) := by decide +kernel
theorem dX9_takesE_166 : decode cX9_takesE 166 = .ok (.ireturn, 1) := by decide +kernel
theorem dX9_takesE_167 : decode cX9_takesE 167 = .ok (.iload_n 2, 1) := by decide +kernel
theorem dX9_takesE_168 : decode cX9_takesE 168 = .ok (.bipush 41, 2) := by decide +kernel
theorem dX9_takesE_170 : decode cX9_takesE 170 = .ok (.if_icmp .eq 5, 3) := by decide +kernel
theorem dX9_takesE_173 : decode cX9_takesE 173 = .ok (.iconst 0, 1) := by decide +kernel
theorem dX9_takesE_174 : decode cX9_takesE 174 = .ok (.ireturn, 1) := by decide +kernel
theorem dX9_takesE_175 : decode cX9_takesE 175 = .ok (.aload_n 0, 1) := by decide +kernel
theorem dX9_takesE_176 : decode cX9_takesE 176 = .ok (.dup, 1) := by decide +kernel
theorem dX9_takesE_177 : decode cX9_takesE 177 = .ok (.getfield 77, 3) := by decide +kernel
theorem dX9_takesE_180 : decode cX9_takesE 180 = .ok (.iconst 1, 1) := by decide +kernel
theorem dX9_takesE_181 : decode cX9_takesE 181 = .ok (.isub, 1) := by decide +kernel
theorem dX9_takesE_182 : decode cX9_takesE 182 = .ok (.putfield 77, 3) := by decide +kernel
theorem dX9_takesE_185 : decode cX9_takesE 185 = .ok (.aload_n 0, 1) := by decide +kernel
theorem dX9_takesE_186 : decode cX9_takesE 186 = .ok (.dup, 1) := by decide +kernel
theorem dX9_takesE_187 : decode cX9_takesE 187 = .ok (.getfield 80, 3) := by decide +kernel
theorem dX9_takesE_190 : decode cX9_takesE 190 = .ok (.iconst 1, 1) := by decide +kernel
theorem dX9_takesE_191 : decode cX9_takesE 191 = .ok (.isub, 1) := by decide +kernel
theorem dX9_takesE_192 : decode cX9_takesE 192 = .ok (.putfield 80, 3) := by decide +kernel
theorem dX9_takesE_195 : decode cX9_takesE 195 = .ok (.aload_n 0, 1) := by decide +kernel
theorem dX9_takesE_196 : decode cX9_takesE 196 = .ok (.dup, 1) := by decide +kernel
theorem dX9_takesE_197 : decode cX9_takesE 197 = .ok (.getfield 44, 3) := by decide +kernel
theorem dX9_takesE_200 : decode cX9_takesE 200 = .ok (.iconst 1, 1) := by decide +kernel
theorem dX9_takesE_201 : decode cX9_takesE 201 = .ok (.iadd, 1) := by decide +kernel
theorem dX9_takesE_202 : decode cX9_takesE 202 = .ok (.putfield 44, 3) := by decide +kernel
theorem dX9_takesE_205 : decode cX9_takesE 205 = .ok (.aload_n 0, 1) := by decide +kernel
theorem dX9_takesE_206 : decode cX9_takesE 206 = .ok (.invokevirtual 156, 3) := by decide +kernel
theorem dX9_takesE_209 : decode cX9_takesE 209 = .ok (.goto (-197), 3) := by decide +kernel
theorem dX9_takesHead_0 : decode cX9_takesHead 0 = .ok (.aload_n 0, 1) := by decide +kernel
theorem dX9_takesHead_1 : decode cX9_takesHead 1 = .ok (.invokevirtual 145, 3) := by decide +kernel
theorem dX9_takesHead_4 : decode cX9_takesHead 4 = .ok (.lookupswitch 84 #[(105, 52), (109, 68), (111, 36)], 36) := by decide +kernel
theorem dX9_takesHead_40 : decode cX9_takesHead 40 = .ok (.aload_n 0, 1) := by decide +kernel
theorem dX9_takesHead_41 : decode cX9_takesHead 41 = .ok (.getfield 56, 3) := by decide +kernel
theorem dX9_takesHead_44 : decode cX9_takesHead 44 = .ok (.iload_n 1, 1) := by decide +kernel
theorem dX9_takesHead_45 : decode cX9_takesHead 45 = .ok (.iconst 0, 1) := by decide +kernel
theorem dX9_takesHead_46 : decode cX9_takesHead 46 = .ok (.iastore, 1) := by decide +kernel
theorem dX9_takesHead_47 : decode cX9_takesHead 47 = .ok (.aload_n 0, 1) := by decide +kernel
theorem dX9_takesHead_48 : decode cX9_takesHead 48 = .ok (.sipush 16052, 3) := by decide +kernel
theorem dX9_takesHead_51 : decode cX9_takesHead 51 = .ok (.iconst 3, 1) := by decide +kernel
theorem dX9_takesHead_52 : decode cX9_takesHead 52 = .ok (.invokevirtual 166, 3) := by decide +kernel
theorem dX9_takesHead_55 : decode cX9_takesHead 55 = .ok (.ireturn, 1) := by decide +kernel
theorem dX9_takesHead_56 : decode cX9_takesHead 56 = .ok (.aload_n 0, 1) := by decide +kernel
theorem dX9_takesHead_57 : decode cX9_takesHead 57 = .ok (.getfield 56, 3) := by decide +kernel
theorem dX9_takesHead_60 : decode cX9_takesHead 60 = .ok (.iload_n 1, 1) := by decide +kernel
theorem dX9_takesHead_61 : decode cX9_takesHead 61 = .ok (.iconst 1, 1) := by decide +kernel
theorem dX9_takesHead_62 : decode cX9_takesHead 62 = .ok (.iastore, 1) := by decide +kernel
theorem dX9_takesHead_63 : decode cX9_takesHead 63 = .ok (.aload_n 0, 1) := by decide +kernel
theorem dX9_takesHead_64 : decode cX9_takesHead 64 = .ok (.sipush 302, 3) := by decide +kernel
theorem dX9_takesHead_67 : decode cX9_takesHead 67 = .ok (.iconst 2, 1) := by decide +kernel
theorem dX9_takesHead_68 : decode cX9_takesHead 68 = .ok (.invokevirtual 166, 3) := by decide +kernel
theorem dX9_takesHead_71 : decode cX9_takesHead 71 = .ok (.ireturn, 1) := by decide +kernel
theorem dX9_takesHead_72 : decode cX9_takesHead 72 = .ok (.aload_n 0, 1) := by decide +kernel
theorem dX9_takesHead_73 : decode cX9_takesHead 73 = .ok (.getfield 56, 3) := by decide +kernel
theorem dX9_takesHead_76 : decode cX9_takesHead 76 = .ok (.iload_n 1, 1) := by decide +kernel
theorem dX9_takesHead_77 : decode cX9_takesHead 77 = .ok (.iconst 3, 1) := by decide +kernel
theorem dX9_takesHead_78 : decode cX9_takesHead 78 = .ok (.iastore, 1) := by decide +kernel
theorem dX9_takesHead_79 : decode cX9_takesHead 79 = .ok (.aload_n 0, 1) := by decide +kernel
theorem dX9_takesHead_80 : decode cX9_takesHead 80 = .ok (.sipush 13369, 3) := by decide +kernel
theorem dX9_takesHead_83 : decode cX9_takesHead 83 = .ok (.iconst 3, 1) := by decide +kernel
theorem dX9_takesHead_84 : decode cX9_takesHead 84 = .ok (.invokevirtual 166, 3) := by decide +kernel
theorem dX9_takesHead_87 : decode cX9_takesHead 87 = .ok (.ireturn, 1) := by decide +kernel
theorem dX9_takesHead_88 : decode cX9_takesHead 88 = .ok (.aload_n 0, 1) := by decide +kernel
theorem dX9_takesHead_89 : decode cX9_takesHead 89 = .ok (.getfield 56, 3) := by decide +kernel
theorem dX9_takesHead_92 : decode cX9_takesHead 92 = .ok (.iload_n 1, 1) := by decide +kernel
theorem dX9_takesHead_93 : decode cX9_takesHead 93 = .ok (.iconst 2, 1) := by decide +kernel
theorem dX9_takesHead_94 : decode cX9_takesHead 94 = .ok (.iastore, 1) := by decide +kernel
theorem dX9_takesHead_95 : decode cX9_takesHead 95 = .ok (.aload_n 0, 1) := by decide +kernel
theorem dX9_takesHead_96 : decode cX9_takesHead 96 = .ok (.ldc 170, 2) := by decide +kernel
theorem dX9_takesHead_98 : decode cX9_takesHead 98 = .ok (.iconst 4, 1) := by decide +kernel
theorem dX9_takesHead_99 : decode cX9_takesHead 99 = .ok (.invokevirtual 166, 3) := by decide +kernel
theorem dX9_takesHead_102 : decode cX9_takesHead 102 = .ok (.ifCond .eq 18, 3) := by decide +kernel
theorem dX9_takesHead_105 : decode cX9_takesHead 105 = .ok (.aload_n 0, 1) := by decide +kernel
theorem dX9_takesHead_106 : decode cX9_takesHead 106 = .ok (.aload_n 0, 1) := by decide +kernel
theorem dX9_takesHead_107 : decode cX9_takesHead 107 = .ok (.invokevirtual 145, 3) := by decide +kernel
theorem dX9_takesHead_110 : decode cX9_takesHead 110 = .ok (.bipush 48, 2) := by decide +kernel
theorem dX9_takesHead_112 : decode cX9_takesHead 112 = .ok (.bipush 57, 2) := by decide +kernel
theorem dX9_takesHead_114 : decode cX9_takesHead 114 = .ok (.invokevirtual 133, 3) := by decide +kernel
theorem dX9_takesHead_117 : decode cX9_takesHead 117 = .ok (.ifCond .ne 5, 3) := by decide +kernel
theorem dX9_takesHead_120 : decode cX9_takesHead 120 = .ok (.iconst 0, 1) := by decide +kernel
theorem dX9_takesHead_121 : decode cX9_takesHead 121 = .ok (.ireturn, 1) := by decide +kernel
theorem dX9_takesHead_122 : decode cX9_takesHead 122 = .ok (.aload_n 0, 1) := by decide +kernel
theorem dX9_takesHead_123 : decode cX9_takesHead 123 = .ok (.getfield 59, 3) := by decide +kernel
theorem dX9_takesHead_126 : decode cX9_takesHead 126 = .ok (.iload_n 1, 1) := by decide +kernel
theorem dX9_takesHead_127 : decode cX9_takesHead 127 = .ok (.aload_n 0, 1) := by decide +kernel
theorem dX9_takesHead_128 : decode cX9_takesHead 128 = .ok (.invokevirtual 145, 3) := by decide +kernel
theorem dX9_takesHead_131 : decode cX9_takesHead 131 = .ok (.bipush 48, 2) := by decide +kernel
theorem dX9_takesHead_133 : decode cX9_takesHead 133 = .ok (.isub, 1) := by decide +kernel
theorem dX9_takesHead_134 : decode cX9_takesHead 134 = .ok (.iastore, 1) := by decide +kernel
theorem dX9_takesHead_135 : decode cX9_takesHead 135 = .ok (.aload_n 0, 1) := by decide +kernel
theorem dX9_takesHead_136 : decode cX9_takesHead 136 = .ok (.dup, 1) := by decide +kernel
theorem dX9_takesHead_137 : decode cX9_takesHead 137 = .ok (.getfield 44, 3) := by decide +kernel
theorem dX9_takesHead_140 : decode cX9_takesHead 140 = .ok (.iconst 1, 1) := by decide +kernel
theorem dX9_takesHead_141 : decode cX9_takesHead 141 = .ok (.iadd, 1) := by decide +kernel
theorem dX9_takesHead_142 : decode cX9_takesHead 142 = .ok (.putfield 44, 3) := by decide +kernel
theorem dX9_takesHead_145 : decode cX9_takesHead 145 = .ok (.aload_n 0, 1) := by decide +kernel
theorem dX9_takesHead_146 : decode cX9_takesHead 146 = .ok (.bipush 32, 2) := by decide +kernel
theorem dX9_takesHead_148 : decode cX9_takesHead 148 = .ok (.invokevirtual 149, 3) := by decide +kernel
theorem dX9_takesHead_151 : decode cX9_takesHead 151 = .ok (.ireturn, 1) := by decide +kernel
theorem dX9_goes_0 : decode cX9_goes 0 = .ok (.aload_n 0, 1) := by decide +kernel
theorem dX9_goes_1 : decode cX9_goes 1 = .ok (.iconst 0, 1) := by decide +kernel
theorem dX9_goes_2 : decode cX9_goes 2 = .ok (.putfield 44, 3) := by decide +kernel
theorem dX9_goes_5 : decode cX9_goes 5 = .ok (.aload_n 0, 1) := by decide +kernel
theorem dX9_goes_6 : decode cX9_goes 6 = .ok (.bipush 100, 2) := by decide +kernel
theorem dX9_goes_8 : decode cX9_goes 8 = .ok (.iload_n 1, 1) := by decide +kernel
theorem dX9_goes_9 : decode cX9_goes 9 = .ok (.imul, 1) := by decide +kernel
theorem dX9_goes_10 : decode cX9_goes 10 = .ok (.putfield 71, 3) := by decide +kernel
theorem dX9_goes_13 : decode cX9_goes 13 = .ok (.iconst 0, 1) := by decide +kernel
theorem dX9_goes_14 : decode cX9_goes 14 = .ok (.istore_n 2, 1) := by decide +kernel
theorem dX9_goes_15 : decode cX9_goes 15 = .ok (.bipush 6, 2) := by decide +kernel
theorem dX9_goes_17 : decode cX9_goes 17 = .ok (.iload_n 1, 1) := by decide +kernel
theorem dX9_goes_18 : decode cX9_goes 18 = .ok (.imul, 1) := by decide +kernel
theorem dX9_goes_19 : decode cX9_goes 19 = .ok (.iload_n 2, 1) := by decide +kernel
theorem dX9_goes_20 : decode cX9_goes 20 = .ok (.iadd, 1) := by decide +kernel
theorem dX9_goes_21 : decode cX9_goes 21 = .ok (.istore_n 3, 1) := by decide +kernel
theorem dX9_goes_22 : decode cX9_goes 22 = .ok (.aload_n 0, 1) := by decide +kernel
theorem dX9_goes_23 : decode cX9_goes 23 = .ok (.iload_n 3, 1) := by decide +kernel
theorem dX9_goes_24 : decode cX9_goes 24 = .ok (.invokevirtual 171, 3) := by decide +kernel
theorem dX9_goes_27 : decode cX9_goes 27 = .ok (.ifCond .ne 5, 3) := by decide +kernel
theorem dX9_goes_30 : decode cX9_goes 30 = .ok (.iconst 0, 1) := by decide +kernel
theorem dX9_goes_31 : decode cX9_goes 31 = .ok (.ireturn, 1) := by decide +kernel
theorem dX9_goes_32 : decode cX9_goes 32 = .ok (.aload_n 0, 1) := by decide +kernel
theorem dX9_goes_33 : decode cX9_goes 33 = .ok (.getfield 62, 3) := by decide +kernel
theorem dX9_goes_36 : decode cX9_goes 36 = .ok (.iload_n 3, 1) := by decide +kernel
theorem dX9_goes_37 : decode cX9_goes 37 = .ok (.aload_n 0, 1) := by decide +kernel
theorem dX9_goes_38 : decode cX9_goes 38 = .ok (.getfield 71, 3) := by decide +kernel
theorem dX9_goes_41 : decode cX9_goes 41 = .ok (.iastore, 1) := by decide +kernel
theorem dX9_goes_42 : decode cX9_goes 42 = .ok (.aload_n 0, 1) := by decide +kernel
theorem dX9_goes_43 : decode cX9_goes 43 = .ok (.invokevirtual 174, 3) := by decide +kernel
theorem dX9_goes_46 : decode cX9_goes 46 = .ok (.ifCond .ne 5, 3) := by decide +kernel
theorem dX9_goes_49 : decode cX9_goes 49 = .ok (.iconst 0, 1) := by decide +kernel
theorem dX9_goes_50 : decode cX9_goes 50 = .ok (.ireturn, 1) := by decide +kernel
theorem dX9_goes_51 : decode cX9_goes 51 = .ok (.aload_n 0, 1) := by decide +kernel
theorem dX9_goes_52 : decode cX9_goes 52 = .ok (.getfield 65, 3) := by decide +kernel
theorem dX9_goes_55 : decode cX9_goes 55 = .ok (.iload_n 3, 1) := by decide +kernel
theorem dX9_goes_56 : decode cX9_goes 56 = .ok (.aload_n 0, 1) := by decide +kernel
theorem dX9_goes_57 : decode cX9_goes 57 = .ok (.getfield 71, 3) := by decide +kernel
theorem dX9_goes_60 : decode cX9_goes 60 = .ok (.iastore, 1) := by decide +kernel
theorem dX9_goes_61 : decode cX9_goes 61 = .ok (.iinc 2 1, 3) := by decide +kernel
theorem dX9_goes_64 : decode cX9_goes 64 = .ok (.aload_n 0, 1) := by decide +kernel
theorem dX9_goes_65 : decode cX9_goes 65 = .ok (.getfield 53, 3) := by decide +kernel
theorem dX9_goes_68 : decode cX9_goes 68 = .ok (.iload_n 1, 1) := by decide +kernel
theorem dX9_goes_69 : decode cX9_goes 69 = .ok (.iload_n 2, 1) := by decide +kernel
theorem dX9_goes_70 : decode cX9_goes 70 = .ok (.iastore, 1) := by decide +kernel
theorem dX9_goes_71 : decode cX9_goes 71 = .ok (.aload_n 0, 1) := by decide +kernel
theorem dX9_goes_72 : decode cX9_goes 72 = .ok (.getfield 44, 3) := by decide +kernel
theorem dX9_goes_75 : decode cX9_goes 75 = .ok (.aload_n 0, 1) := by decide +kernel
theorem dX9_goes_76 : decode cX9_goes 76 = .ok (.getfield 41, 3) := by decide +kernel
theorem dX9_goes_79 : decode cX9_goes 79 = .ok (.if_icmp .ne 5, 3) := by decide +kernel
theorem dX9_goes_82 : decode cX9_goes 82 = .ok (.iconst 1, 1) := by decide +kernel
theorem dX9_goes_83 : decode cX9_goes 83 = .ok (.ireturn, 1) := by decide +kernel
theorem dX9_goes_84 : decode cX9_goes 84 = .ok (.iload_n 2, 1) := by decide +kernel
theorem dX9_goes_85 : decode cX9_goes 85 = .ok (.bipush 6, 2) := by decide +kernel
theorem dX9_goes_87 : decode cX9_goes 87 = .ok (.if_icmp .eq 12, 3) := by decide +kernel
theorem dX9_goes_90 : decode cX9_goes 90 = .ok (.aload_n 0, 1) := by decide +kernel
theorem dX9_goes_91 : decode cX9_goes 91 = .ok (.bipush 59, 2) := by decide +kernel
theorem dX9_goes_93 : decode cX9_goes 93 = .ok (.invokevirtual 149, 3) := by decide +kernel
theorem dX9_goes_96 : decode cX9_goes 96 = .ok (.ifCond .ne 5, 3) := by decide +kernel
theorem dX9_goes_99 : decode cX9_goes 99 = .ok (.iconst 0, 1) := by decide +kernel
theorem dX9_goes_100 : decode cX9_goes 100 = .ok (.ireturn, 1) := by decide +kernel
theorem dX9_goes_101 : decode cX9_goes 101 = .ok (.goto (-86), 3) := by decide +kernel
theorem dX9_rule_0 : decode cX9_rule 0 = .ok (.aload_n 0, 1) := by decide +kernel
theorem dX9_rule_1 : decode cX9_rule 1 = .ok (.iload_n 1, 1) := by decide +kernel
theorem dX9_rule_2 : decode cX9_rule 2 = .ok (.invokevirtual 177, 3) := by decide +kernel
theorem dX9_rule_5 : decode cX9_rule 5 = .ok (.ifCond .ne 5, 3) := by decide +kernel
theorem dX9_rule_8 : decode cX9_rule 8 = .ok (.iconst (-1), 1) := by decide +kernel
theorem dX9_rule_9 : decode cX9_rule 9 = .ok (.ireturn, 1) := by decide +kernel
theorem dX9_rule_10 : decode cX9_rule 10 = .ok (.aload_n 0, 1) := by decide +kernel
theorem dX9_rule_11 : decode cX9_rule 11 = .ok (.getfield 38, 3) := by decide +kernel
theorem dX9_rule_14 : decode cX9_rule 14 = .ok (.bipush 10, 2) := by decide +kernel
theorem dX9_rule_16 : decode cX9_rule 16 = .ok (.if_icmp .ne 6, 3) := by decide +kernel
theorem dX9_rule_19 : decode cX9_rule 19 = .ok (.bipush (-4), 2) := by decide +kernel
theorem dX9_rule_21 : decode cX9_rule 21 = .ok (.ireturn, 1) := by decide +kernel
theorem dX9_rule_22 : decode cX9_rule 22 = .ok (.aload_n 0, 1) := by decide +kernel
theorem dX9_rule_23 : decode cX9_rule 23 = .ok (.aload_n 0, 1) := by decide +kernel
theorem dX9_rule_24 : decode cX9_rule 24 = .ok (.getfield 38, 3) := by decide +kernel
theorem dX9_rule_27 : decode cX9_rule 27 = .ok (.invokevirtual 180, 3) := by decide +kernel
theorem dX9_rule_30 : decode cX9_rule 30 = .ok (.istore_n 2, 1) := by decide +kernel
theorem dX9_rule_31 : decode cX9_rule 31 = .ok (.aload_n 0, 1) := by decide +kernel
theorem dX9_rule_32 : decode cX9_rule 32 = .ok (.iconst 0, 1) := by decide +kernel
theorem dX9_rule_33 : decode cX9_rule 33 = .ok (.putfield 41, 3) := by decide +kernel
theorem dX9_rule_36 : decode cX9_rule 36 = .ok (.iload_n 2, 1) := by decide +kernel
theorem dX9_rule_37 : decode cX9_rule 37 = .ok (.ifCond .ne 11, 3) := by decide +kernel
theorem dX9_rule_40 : decode cX9_rule 40 = .ok (.bipush (-10), 2) := by decide +kernel
theorem dX9_rule_42 : decode cX9_rule 42 = .ok (.aload_n 0, 1) := by decide +kernel
theorem dX9_rule_43 : decode cX9_rule 43 = .ok (.getfield 44, 3) := by decide +kernel
theorem dX9_rule_46 : decode cX9_rule 46 = .ok (.isub, 1) := by decide +kernel
theorem dX9_rule_47 : decode cX9_rule 47 = .ok (.ireturn, 1) := by decide +kernel
theorem dX9_rule_48 : decode cX9_rule 48 = .ok (.aload_n 0, 1) := by decide +kernel
theorem dX9_rule_49 : decode cX9_rule 49 = .ok (.getfield 50, 3) := by decide +kernel
theorem dX9_rule_52 : decode cX9_rule 52 = .ok (.aload_n 0, 1) := by decide +kernel
theorem dX9_rule_53 : decode cX9_rule 53 = .ok (.getfield 38, 3) := by decide +kernel
theorem dX9_rule_56 : decode cX9_rule 56 = .ok (.iload_n 1, 1) := by decide +kernel
theorem dX9_rule_57 : decode cX9_rule 57 = .ok (.iastore, 1) := by decide +kernel
theorem dX9_rule_58 : decode cX9_rule 58 = .ok (.aload_n 0, 1) := by decide +kernel
theorem dX9_rule_59 : decode cX9_rule 59 = .ok (.dup, 1) := by decide +kernel
theorem dX9_rule_60 : decode cX9_rule 60 = .ok (.getfield 38, 3) := by decide +kernel
theorem dX9_rule_63 : decode cX9_rule 63 = .ok (.iconst 1, 1) := by decide +kernel
theorem dX9_rule_64 : decode cX9_rule 64 = .ok (.iadd, 1) := by decide +kernel
theorem dX9_rule_65 : decode cX9_rule 65 = .ok (.putfield 38, 3) := by decide +kernel
theorem dX9_rule_68 : decode cX9_rule 68 = .ok (.aload_n 0, 1) := by decide +kernel
theorem dX9_rule_69 : decode cX9_rule 69 = .ok (.getfield 38, 3) := by decide +kernel
theorem dX9_rule_72 : decode cX9_rule 72 = .ok (.iconst 1, 1) := by decide +kernel
theorem dX9_rule_73 : decode cX9_rule 73 = .ok (.isub, 1) := by decide +kernel
theorem dX9_rule_74 : decode cX9_rule 74 = .ok (.ireturn, 1) := by decide +kernel
theorem dX9_judge_0 : decode cX9_judge 0 = .ok (.aload_n 0, 1) := by decide +kernel
theorem dX9_judge_1 : decode cX9_judge 1 = .ok (.iload_n 1, 1) := by decide +kernel
theorem dX9_judge_2 : decode cX9_judge 2 = .ok (.iconst 0, 1) := by decide +kernel
theorem dX9_judge_3 : decode cX9_judge 3 = .ok (.iconst 1, 1) := by decide +kernel
theorem dX9_judge_4 : decode cX9_judge 4 = .ok (.aload_n 0, 1) := by decide +kernel
theorem dX9_judge_5 : decode cX9_judge 5 = .ok (.getfield 38, 3) := by decide +kernel
theorem dX9_judge_8 : decode cX9_judge 8 = .ok (.ishl, 1) := by decide +kernel
theorem dX9_judge_9 : decode cX9_judge 9 = .ok (.iconst 1, 1) := by decide +kernel
theorem dX9_judge_10 : decode cX9_judge 10 = .ok (.isub, 1) := by decide +kernel
theorem dX9_judge_11 : decode cX9_judge 11 = .ok (.invokevirtual 133, 3) := by decide +kernel
theorem dX9_judge_14 : decode cX9_judge 14 = .ok (.ifCond .ne 6, 3) := by decide +kernel
theorem dX9_judge_17 : decode cX9_judge 17 = .ok (.bipush (-2), 2) := by decide +kernel
theorem dX9_judge_19 : decode cX9_judge 19 = .ok (.ireturn, 1) := by decide +kernel
theorem dX9_judge_20 : decode cX9_judge 20 = .ok (.aload_n 0, 1) := by decide +kernel
theorem dX9_judge_21 : decode cX9_judge 21 = .ok (.getfield 16, 3) := by decide +kernel
theorem dX9_judge_24 : decode cX9_judge 24 = .ok (.istore_n 2, 1) := by decide +kernel
theorem dX9_judge_25 : decode cX9_judge 25 = .ok (.aload_n 0, 1) := by decide +kernel
theorem dX9_judge_26 : decode cX9_judge 26 = .ok (.iload_n 1, 1) := by decide +kernel
theorem dX9_judge_27 : decode cX9_judge 27 = .ok (.putfield 16, 3) := by decide +kernel
theorem dX9_judge_30 : decode cX9_judge 30 = .ok (.iload_n 2, 1) := by decide +kernel
theorem dX9_judge_31 : decode cX9_judge 31 = .ok (.ireturn, 1) := by decide +kernel
theorem dX9_asItIs_0 : decode cX9_asItIs 0 = .ok (.aload_n 0, 1) := by decide +kernel
theorem dX9_asItIs_1 : decode cX9_asItIs 1 = .ok (.aload_n 0, 1) := by decide +kernel
theorem dX9_asItIs_2 : decode cX9_asItIs 2 = .ok (.getfield 13, 3) := by decide +kernel
theorem dX9_asItIs_5 : decode cX9_asItIs 5 = .ok (.putfield 83, 3) := by decide +kernel
theorem dX9_asItIs_8 : decode cX9_asItIs 8 = .ok (.aload_n 0, 1) := by decide +kernel
theorem dX9_asItIs_9 : decode cX9_asItIs 9 = .ok (.aload_n 0, 1) := by decide +kernel
theorem dX9_asItIs_10 : decode cX9_asItIs 10 = .ok (.getfield 16, 3) := by decide +kernel
theorem dX9_asItIs_13 : decode cX9_asItIs 13 = .ok (.putfield 86, 3) := by decide +kernel
theorem dX9_asItIs_16 : decode cX9_asItIs 16 = .ok (.aload_n 0, 1) := by decide +kernel
theorem dX9_asItIs_17 : decode cX9_asItIs 17 = .ok (.iconst (-1), 1) := by decide +kernel
theorem dX9_asItIs_18 : decode cX9_asItIs 18 = .ok (.putfield 89, 3) := by decide +kernel
theorem dX9_asItIs_21 : decode cX9_asItIs 21 = .ok (.iconst 0, 1) := by decide +kernel
theorem dX9_asItIs_22 : decode cX9_asItIs 22 = .ok (.istore_n 1, 1) := by decide +kernel
theorem dX9_asItIs_23 : decode cX9_asItIs 23 = .ok (.iload_n 1, 1) := by decide +kernel
theorem dX9_asItIs_24 : decode cX9_asItIs 24 = .ok (.bipush 8, 2) := by decide +kernel
theorem dX9_asItIs_26 : decode cX9_asItIs 26 = .ok (.if_icmp .ge 16, 3) := by decide +kernel
theorem dX9_asItIs_29 : decode cX9_asItIs 29 = .ok (.aload_n 0, 1) := by decide +kernel
theorem dX9_asItIs_30 : decode cX9_asItIs 30 = .ok (.getfield 92, 3) := by decide +kernel
theorem dX9_asItIs_33 : decode cX9_asItIs 33 = .ok (.iload_n 1, 1) := by decide +kernel
theorem dX9_asItIs_34 : decode cX9_asItIs 34 = .ok (.iconst 0, 1) := by decide +kernel
theorem dX9_asItIs_35 : decode cX9_asItIs 35 = .ok (.iastore, 1) := by decide +kernel
theorem dX9_asItIs_36 : decode cX9_asItIs 36 = .ok (.iinc 1 1, 3) := by decide +kernel
theorem dX9_asItIs_39 : decode cX9_asItIs 39 = .ok (.goto (-16), 3) := by decide +kernel
theorem dX9_asItIs_42 : decode cX9_asItIs 42 = .ok (.return_, 1) := by decide +kernel
theorem dX9_compares_0 : decode cX9_compares 0 = .ok (.iload_n 1, 1) := by decide +kernel
theorem dX9_compares_1 : decode cX9_compares 1 = .ok (.bipush 60, 2) := by decide +kernel
theorem dX9_compares_3 : decode cX9_compares 3 = .ok (.if_icmp .ne 16, 3) := by decide +kernel
theorem dX9_compares_6 : decode cX9_compares 6 = .ok (.iload_n 2, 1) := by decide +kernel
theorem dX9_compares_7 : decode cX9_compares 7 = .ok (.iload_n 3, 1) := by decide +kernel
theorem dX9_compares_8 : decode cX9_compares 8 = .ok (.if_icmp .ge 7, 3) := by decide +kernel
theorem dX9_compares_11 : decode cX9_compares 11 = .ok (.iconst 1, 1) := by decide +kernel
theorem dX9_compares_12 : decode cX9_compares 12 = .ok (.goto 36, 3) := by decide +kernel
theorem dX9_compares_15 : decode cX9_compares 15 = .ok (.iconst 0, 1) := by decide +kernel
theorem dX9_compares_16 : decode cX9_compares 16 = .ok (.goto 32, 3) := by decide +kernel
theorem dX9_compares_19 : decode cX9_compares 19 = .ok (.iload_n 1, 1) := by decide +kernel
theorem dX9_compares_20 : decode cX9_compares 20 = .ok (.bipush 61, 2) := by decide +kernel
theorem dX9_compares_22 : decode cX9_compares 22 = .ok (.if_icmp .ne 16, 3) := by decide +kernel
theorem dX9_compares_25 : decode cX9_compares 25 = .ok (.iload_n 2, 1) := by decide +kernel
theorem dX9_compares_26 : decode cX9_compares 26 = .ok (.iload_n 3, 1) := by decide +kernel
theorem dX9_compares_27 : decode cX9_compares 27 = .ok (.if_icmp .ne 7, 3) := by decide +kernel
theorem dX9_compares_30 : decode cX9_compares 30 = .ok (.iconst 1, 1) := by decide +kernel
theorem dX9_compares_31 : decode cX9_compares 31 = .ok (.goto 17, 3) := by decide +kernel
theorem dX9_compares_34 : decode cX9_compares 34 = .ok (.iconst 0, 1) := by decide +kernel
theorem dX9_compares_35 : decode cX9_compares 35 = .ok (.goto 13, 3) := by decide +kernel
theorem dX9_compares_38 : decode cX9_compares 38 = .ok (.iload_n 2, 1) := by decide +kernel
theorem dX9_compares_39 : decode cX9_compares 39 = .ok (.iload_n 3, 1) := by decide +kernel
theorem dX9_compares_40 : decode cX9_compares 40 = .ok (.if_icmp .le 7, 3) := by decide +kernel
theorem dX9_compares_43 : decode cX9_compares 43 = .ok (.iconst 1, 1) := by decide +kernel
theorem dX9_compares_44 : decode cX9_compares 44 = .ok (.goto 4, 3) := by decide +kernel
theorem dX9_compares_47 : decode cX9_compares 47 = .ok (.iconst 0, 1) := by decide +kernel
theorem dX9_compares_48 : decode cX9_compares 48 = .ok (.ireturn, 1) := by decide +kernel
theorem dX9_test_0 : decode cX9_test 0 = .ok (.iload_n 1, 1) := by decide +kernel
theorem dX9_test_1 : decode cX9_test 1 = .ok (.bipush 10, 2) := by decide +kernel
theorem dX9_test_3 : decode cX9_test 3 = .ok (.idiv, 1) := by decide +kernel
theorem dX9_test_4 : decode cX9_test 4 = .ok (.bipush 100, 2) := by decide +kernel
theorem dX9_test_6 : decode cX9_test 6 = .ok (.irem, 1) := by decide +kernel
theorem dX9_test_7 : decode cX9_test 7 = .ok (.istore 4, 2) := by decide +kernel
theorem dX9_test_9 : decode cX9_test 9 = .ok (.iload_n 1, 1) := by decide +kernel
theorem dX9_test_10 : decode cX9_test 10 = .ok (.bipush 10, 2) := by decide +kernel
theorem dX9_test_12 : decode cX9_test 12 = .ok (.irem, 1) := by decide +kernel
theorem dX9_test_13 : decode cX9_test 13 = .ok (.istore 5, 2) := by decide +kernel
theorem dX9_test_15 : decode cX9_test 15 = .ok (.iload_n 1, 1) := by decide +kernel
theorem dX9_test_16 : decode cX9_test 16 = .ok (.sipush 1000, 3) := by decide +kernel
theorem dX9_test_19 : decode cX9_test 19 = .ok (.idiv, 1) := by decide +kernel
theorem dX9_test_20 : decode cX9_test 20 = .ok (.tableswitch 206 98 117 #[159, 176, 206, 194, 206, 206, 111, 206, 206, 96, 206, 206, 206, 206, 206, 206, 206, 206, 206, 131], 96) := by decide +kernel
theorem dX9_test_116 : decode cX9_test 116 = .ok (.aload_n 0, 1) := by decide +kernel
theorem dX9_test_117 : decode cX9_test 117 = .ok (.iload 4, 2) := by decide +kernel
theorem dX9_test_119 : decode cX9_test 119 = .ok (.aload_n 0, 1) := by decide +kernel
theorem dX9_test_120 : decode cX9_test 120 = .ok (.getfield 23, 3) := by decide +kernel
theorem dX9_test_123 : decode cX9_test 123 = .ok (.iload_n 2, 1) := by decide +kernel
theorem dX9_test_124 : decode cX9_test 124 = .ok (.iaload, 1) := by decide +kernel
theorem dX9_test_125 : decode cX9_test 125 = .ok (.iload 5, 2) := by decide +kernel
theorem dX9_test_127 : decode cX9_test 127 = .ok (.invokevirtual 183, 3) := by decide +kernel
theorem dX9_test_130 : decode cX9_test 130 = .ok (.ireturn, 1) := by decide +kernel
theorem dX9_test_131 : decode cX9_test 131 = .ok (.aload_n 0, 1) := by decide +kernel
theorem dX9_test_132 : decode cX9_test 132 = .ok (.iload 4, 2) := by decide +kernel
theorem dX9_test_134 : decode cX9_test 134 = .ok (.aload_n 0, 1) := by decide +kernel
theorem dX9_test_135 : decode cX9_test 135 = .ok (.getfield 92, 3) := by decide +kernel
theorem dX9_test_138 : decode cX9_test 138 = .ok (.aload_n 0, 1) := by decide +kernel
theorem dX9_test_139 : decode cX9_test 139 = .ok (.getfield 26, 3) := by decide +kernel
theorem dX9_test_142 : decode cX9_test 142 = .ok (.iload_n 2, 1) := by decide +kernel
theorem dX9_test_143 : decode cX9_test 143 = .ok (.iaload, 1) := by decide +kernel
theorem dX9_test_144 : decode cX9_test 144 = .ok (.iaload, 1) := by decide +kernel
theorem dX9_test_145 : decode cX9_test 145 = .ok (.iload 5, 2) := by decide +kernel
theorem dX9_test_147 : decode cX9_test 147 = .ok (.invokevirtual 183, 3) := by decide +kernel
theorem dX9_test_150 : decode cX9_test 150 = .ok (.ireturn, 1) := by decide +kernel
theorem dX9_test_151 : decode cX9_test 151 = .ok (.iload 5, 2) := by decide +kernel
theorem dX9_test_153 : decode cX9_test 153 = .ok (.bipush 7, 2) := by decide +kernel
theorem dX9_test_155 : decode cX9_test 155 = .ok (.if_icmp .ge 22, 3) := by decide +kernel
theorem dX9_test_158 : decode cX9_test 158 = .ok (.aload_n 0, 1) := by decide +kernel
theorem dX9_test_159 : decode cX9_test 159 = .ok (.aload_n 0, 1) := by decide +kernel
theorem dX9_test_160 : decode cX9_test 160 = .ok (.getfield 23, 3) := by decide +kernel
theorem dX9_test_163 : decode cX9_test 163 = .ok (.iload_n 2, 1) := by decide +kernel
theorem dX9_test_164 : decode cX9_test 164 = .ok (.iaload, 1) := by decide +kernel
theorem dX9_test_165 : decode cX9_test 165 = .ok (.iload 5, 2) := by decide +kernel
theorem dX9_test_167 : decode cX9_test 167 = .ok (.invokevirtual 186, 3) := by decide +kernel
theorem dX9_test_170 : decode cX9_test 170 = .ok (.ifCond .eq 7, 3) := by decide +kernel
theorem dX9_test_173 : decode cX9_test 173 = .ok (.iconst 1, 1) := by decide +kernel
theorem dX9_test_174 : decode cX9_test 174 = .ok (.goto 4, 3) := by decide +kernel
theorem dX9_test_177 : decode cX9_test 177 = .ok (.iconst 0, 1) := by decide +kernel
theorem dX9_test_178 : decode cX9_test 178 = .ok (.ireturn, 1) := by decide +kernel
theorem dX9_test_179 : decode cX9_test 179 = .ok (.aload_n 0, 1) := by decide +kernel
theorem dX9_test_180 : decode cX9_test 180 = .ok (.getfield 26, 3) := by decide +kernel
theorem dX9_test_183 : decode cX9_test 183 = .ok (.iload_n 2, 1) := by decide +kernel
theorem dX9_test_184 : decode cX9_test 184 = .ok (.iaload, 1) := by decide +kernel
theorem dX9_test_185 : decode cX9_test 185 = .ok (.iload 5, 2) := by decide +kernel
theorem dX9_test_187 : decode cX9_test 187 = .ok (.if_icmp .ne 7, 3) := by decide +kernel
theorem dX9_test_190 : decode cX9_test 190 = .ok (.iconst 1, 1) := by decide +kernel
theorem dX9_test_191 : decode cX9_test 191 = .ok (.goto 4, 3) := by decide +kernel
theorem dX9_test_194 : decode cX9_test 194 = .ok (.iconst 0, 1) := by decide +kernel
theorem dX9_test_195 : decode cX9_test 195 = .ok (.ireturn, 1) := by decide +kernel
theorem dX9_test_196 : decode cX9_test 196 = .ok (.aload_n 0, 1) := by decide +kernel
theorem dX9_test_197 : decode cX9_test 197 = .ok (.aload_n 0, 1) := by decide +kernel
theorem dX9_test_198 : decode cX9_test 198 = .ok (.getfield 19, 3) := by decide +kernel
theorem dX9_test_201 : decode cX9_test 201 = .ok (.aload_n 0, 1) := by decide +kernel
theorem dX9_test_202 : decode cX9_test 202 = .ok (.getfield 26, 3) := by decide +kernel
theorem dX9_test_205 : decode cX9_test 205 = .ok (.iload_n 2, 1) := by decide +kernel
theorem dX9_test_206 : decode cX9_test 206 = .ok (.iaload, 1) := by decide +kernel
theorem dX9_test_207 : decode cX9_test 207 = .ok (.iaload, 1) := by decide +kernel
theorem dX9_test_208 : decode cX9_test 208 = .ok (.iload 5, 2) := by decide +kernel
theorem dX9_test_210 : decode cX9_test 210 = .ok (.invokevirtual 189, 3) := by decide +kernel
theorem dX9_test_213 : decode cX9_test 213 = .ok (.ireturn, 1) := by decide +kernel
theorem dX9_test_214 : decode cX9_test 214 = .ok (.iload_n 3, 1) := by decide +kernel
theorem dX9_test_215 : decode cX9_test 215 = .ok (.iload 5, 2) := by decide +kernel
theorem dX9_test_217 : decode cX9_test 217 = .ok (.if_icmp .ne 7, 3) := by decide +kernel
theorem dX9_test_220 : decode cX9_test 220 = .ok (.iconst 1, 1) := by decide +kernel
theorem dX9_test_221 : decode cX9_test 221 = .ok (.goto 4, 3) := by decide +kernel
theorem dX9_test_224 : decode cX9_test 224 = .ok (.iconst 0, 1) := by decide +kernel
theorem dX9_test_225 : decode cX9_test 225 = .ok (.ireturn, 1) := by decide +kernel
theorem dX9_test_226 : decode cX9_test 226 = .ok (.aload_n 0, 1) := by decide +kernel
theorem dX9_test_227 : decode cX9_test 227 = .ok (.aload_n 0, 1) := by decide +kernel
theorem dX9_test_228 : decode cX9_test 228 = .ok (.getfield 83, 3) := by decide +kernel
theorem dX9_test_231 : decode cX9_test 231 = .ok (.iload 5, 2) := by decide +kernel
theorem dX9_test_233 : decode cX9_test 233 = .ok (.invokevirtual 189, 3) := by decide +kernel
theorem dX9_test_236 : decode cX9_test 236 = .ok (.ireturn, 1) := by decide +kernel
theorem dX9_holds_0 : decode cX9_holds 0 = .ok (.iconst 0, 1) := by decide +kernel
theorem dX9_holds_1 : decode cX9_holds 1 = .ok (.istore 4, 2) := by decide +kernel
theorem dX9_holds_3 : decode cX9_holds 3 = .ok (.aload_n 0, 1) := by decide +kernel
theorem dX9_holds_4 : decode cX9_holds 4 = .ok (.getfield 62, 3) := by decide +kernel
theorem dX9_holds_7 : decode cX9_holds 7 = .ok (.iload_n 1, 1) := by decide +kernel
theorem dX9_holds_8 : decode cX9_holds 8 = .ok (.iaload, 1) := by decide +kernel
theorem dX9_holds_9 : decode cX9_holds 9 = .ok (.istore 5, 2) := by decide +kernel
theorem dX9_holds_11 : decode cX9_holds 11 = .ok (.iload 5, 2) := by decide +kernel
theorem dX9_holds_13 : decode cX9_holds 13 = .ok (.aload_n 0, 1) := by decide +kernel
theorem dX9_holds_14 : decode cX9_holds 14 = .ok (.getfield 65, 3) := by decide +kernel
theorem dX9_holds_17 : decode cX9_holds 17 = .ok (.iload_n 1, 1) := by decide +kernel
theorem dX9_holds_18 : decode cX9_holds 18 = .ok (.iaload, 1) := by decide +kernel
theorem dX9_holds_19 : decode cX9_holds 19 = .ok (.if_icmp .ge 165, 3) := by decide +kernel
theorem dX9_holds_22 : decode cX9_holds 22 = .ok (.aload_n 0, 1) := by decide +kernel
theorem dX9_holds_23 : decode cX9_holds 23 = .ok (.getfield 68, 3) := by decide +kernel
theorem dX9_holds_26 : decode cX9_holds 26 = .ok (.iload 5, 2) := by decide +kernel
theorem dX9_holds_28 : decode cX9_holds 28 = .ok (.iaload, 1) := by decide +kernel
theorem dX9_holds_29 : decode cX9_holds 29 = .ok (.istore 6, 2) := by decide +kernel
theorem dX9_holds_31 : decode cX9_holds 31 = .ok (.iload 6, 2) := by decide +kernel
theorem dX9_holds_33 : decode cX9_holds 33 = .ok (.bipush 33, 2) := by decide +kernel
theorem dX9_holds_35 : decode cX9_holds 35 = .ok (.if_icmp .ne 32, 3) := by decide +kernel
theorem dX9_holds_38 : decode cX9_holds 38 = .ok (.aload_n 0, 1) := by decide +kernel
theorem dX9_holds_39 : decode cX9_holds 39 = .ok (.getfield 95, 3) := by decide +kernel
theorem dX9_holds_42 : decode cX9_holds 42 = .ok (.iload 4, 2) := by decide +kernel
theorem dX9_holds_44 : decode cX9_holds 44 = .ok (.iconst 1, 1) := by decide +kernel
theorem dX9_holds_45 : decode cX9_holds 45 = .ok (.isub, 1) := by decide +kernel
theorem dX9_holds_46 : decode cX9_holds 46 = .ok (.aload_n 0, 1) := by decide +kernel
theorem dX9_holds_47 : decode cX9_holds 47 = .ok (.getfield 95, 3) := by decide +kernel
theorem dX9_holds_50 : decode cX9_holds 50 = .ok (.iload 4, 2) := by decide +kernel
theorem dX9_holds_52 : decode cX9_holds 52 = .ok (.iconst 1, 1) := by decide +kernel
theorem dX9_holds_53 : decode cX9_holds 53 = .ok (.isub, 1) := by decide +kernel
theorem dX9_holds_54 : decode cX9_holds 54 = .ok (.baload, 1) := by decide +kernel
theorem dX9_holds_55 : decode cX9_holds 55 = .ok (.ifCond .ne 7, 3) := by decide +kernel
theorem dX9_holds_58 : decode cX9_holds 58 = .ok (.iconst 1, 1) := by decide +kernel
theorem dX9_holds_59 : decode cX9_holds 59 = .ok (.goto 4, 3) := by decide +kernel
theorem dX9_holds_62 : decode cX9_holds 62 = .ok (.iconst 0, 1) := by decide +kernel
theorem dX9_holds_63 : decode cX9_holds 63 = .ok (.bastore, 1) := by decide +kernel
theorem dX9_holds_64 : decode cX9_holds 64 = .ok (.goto 114, 3) := by decide +kernel
theorem dX9_holds_67 : decode cX9_holds 67 = .ok (.iload 6, 2) := by decide +kernel
theorem dX9_holds_69 : decode cX9_holds 69 = .ok (.bipush 38, 2) := by decide +kernel
theorem dX9_holds_71 : decode cX9_holds 71 = .ok (.if_icmp .eq 10, 3) := by decide +kernel
theorem dX9_holds_74 : decode cX9_holds 74 = .ok (.iload 6, 2) := by decide +kernel
theorem dX9_holds_76 : decode cX9_holds 76 = .ok (.bipush 124, 2) := by decide +kernel
theorem dX9_holds_78 : decode cX9_holds 78 = .ok (.if_icmp .ne 82, 3) := by decide +kernel
theorem dX9_holds_81 : decode cX9_holds 81 = .ok (.iinc 4 (-1), 3) := by decide +kernel
theorem dX9_holds_84 : decode cX9_holds 84 = .ok (.aload_n 0, 1) := by decide +kernel
theorem dX9_holds_85 : decode cX9_holds 85 = .ok (.getfield 95, 3) := by decide +kernel
theorem dX9_holds_88 : decode cX9_holds 88 = .ok (.iload 4, 2) := by decide +kernel
theorem dX9_holds_90 : decode cX9_holds 90 = .ok (.iconst 1, 1) := by decide +kernel
theorem dX9_holds_91 : decode cX9_holds 91 = .ok (.isub, 1) := by decide +kernel
theorem dX9_holds_92 : decode cX9_holds 92 = .ok (.iload 6, 2) := by decide +kernel
theorem dX9_holds_94 : decode cX9_holds 94 = .ok (.bipush 38, 2) := by decide +kernel
theorem dX9_holds_96 : decode cX9_holds 96 = .ok (.if_icmp .ne 33, 3) := by decide +kernel
theorem dX9_holds_99 : decode cX9_holds 99 = .ok (.aload_n 0, 1) := by decide +kernel
theorem dX9_holds_100 : decode cX9_holds 100 = .ok (.getfield 95, 3) := by decide +kernel
theorem dX9_holds_103 : decode cX9_holds 103 = .ok (.iload 4, 2) := by decide +kernel
theorem dX9_holds_105 : decode cX9_holds 105 = .ok (.iconst 1, 1) := by decide +kernel
theorem dX9_holds_106 : decode cX9_holds 106 = .ok (.isub, 1) := by decide +kernel
theorem dX9_holds_107 : decode cX9_holds 107 = .ok (.baload, 1) := by decide +kernel
theorem dX9_holds_108 : decode cX9_holds 108 = .ok (.ifCond .eq 17, 3) := by decide +kernel
theorem dX9_holds_111 : decode cX9_holds 111 = .ok (.aload_n 0, 1) := by decide +kernel
theorem dX9_holds_112 : decode cX9_holds 112 = .ok (.getfield 95, 3) := by decide +kernel
theorem dX9_holds_115 : decode cX9_holds 115 = .ok (.iload 4, 2) := by decide +kernel
theorem dX9_holds_117 : decode cX9_holds 117 = .ok (.baload, 1) := by decide +kernel
theorem dX9_holds_118 : decode cX9_holds 118 = .ok (.ifCond .eq 7, 3) := by decide +kernel
theorem dX9_holds_121 : decode cX9_holds 121 = .ok (.iconst 1, 1) := by decide +kernel
theorem dX9_holds_122 : decode cX9_holds 122 = .ok (.goto 34, 3) := by decide +kernel
theorem dX9_holds_125 : decode cX9_holds 125 = .ok (.iconst 0, 1) := by decide +kernel
theorem dX9_holds_126 : decode cX9_holds 126 = .ok (.goto 30, 3) := by decide +kernel
theorem dX9_holds_129 : decode cX9_holds 129 = .ok (.aload_n 0, 1) := by decide +kernel
theorem dX9_holds_130 : decode cX9_holds 130 = .ok (.getfield 95, 3) := by decide +kernel
theorem dX9_holds_133 : decode cX9_holds 133 = .ok (.iload 4, 2) := by decide +kernel
theorem dX9_holds_135 : decode cX9_holds 135 = .ok (.iconst 1, 1) := by decide +kernel
theorem dX9_holds_136 : decode cX9_holds 136 = .ok (.isub, 1) := by decide +kernel
theorem dX9_holds_137 : decode cX9_holds 137 = .ok (.baload, 1) := by decide +kernel
theorem dX9_holds_138 : decode cX9_holds 138 = .ok (.ifCond .ne 13, 3) := by decide +kernel
theorem dX9_holds_141 : decode cX9_holds 141 = .ok (.aload_n 0, 1) := by decide +kernel
theorem dX9_holds_142 : decode cX9_holds 142 = .ok (.getfield 95, 3) := by decide +kernel
theorem dX9_holds_145 : decode cX9_holds 145 = .ok (.iload 4, 2) := by decide +kernel
theorem dX9_holds_147 : decode cX9_holds 147 = .ok (.baload, 1) := by decide +kernel
theorem dX9_holds_148 : decode cX9_holds 148 = .ok (.ifCond .eq 7, 3) := by decide +kernel
theorem dX9_holds_151 : decode cX9_holds 151 = .ok (.iconst 1, 1) := by decide +kernel
theorem dX9_holds_152 : decode cX9_holds 152 = .ok (.goto 4, 3) := by decide +kernel
theorem dX9_holds_155 : decode cX9_holds 155 = .ok (.iconst 0, 1) := by decide +kernel
theorem dX9_holds_156 : decode cX9_holds 156 = .ok (.bastore, 1) := by decide +kernel
theorem dX9_holds_157 : decode cX9_holds 157 = .ok (.goto 21, 3) := by decide +kernel
theorem dX9_holds_160 : decode cX9_holds 160 = .ok (.aload_n 0, 1) := by decide +kernel
theorem dX9_holds_161 : decode cX9_holds 161 = .ok (.getfield 95, 3) := by decide +kernel
theorem dX9_holds_164 : decode cX9_holds 164 = .ok (.iload 4, 2) := by decide +kernel
theorem dX9_holds_166 : decode cX9_holds 166 = .ok (.aload_n 0, 1) := by decide +kernel
theorem dX9_holds_167 : decode cX9_holds 167 = .ok (.iload 6, 2) := by decide +kernel
theorem dX9_holds_169 : decode cX9_holds 169 = .ok (.iload_n 2, 1) := by decide +kernel
theorem dX9_holds_170 : decode cX9_holds 170 = .ok (.iload_n 3, 1) := by decide +kernel
theorem dX9_holds_171 : decode cX9_holds 171 = .ok (.invokevirtual 192, 3) := by decide +kernel
theorem dX9_holds_174 : decode cX9_holds 174 = .ok (.bastore, 1) := by decide +kernel
theorem dX9_holds_175 : decode cX9_holds 175 = .ok (.iinc 4 1, 3) := by decide +kernel
theorem dX9_holds_178 : decode cX9_holds 178 = .ok (.iinc 5 1, 3) := by decide +kernel
theorem dX9_holds_181 : decode cX9_holds 181 = .ok (.goto (-170), 3) := by decide +kernel
theorem dX9_holds_184 : decode cX9_holds 184 = .ok (.aload_n 0, 1) := by decide +kernel
theorem dX9_holds_185 : decode cX9_holds 185 = .ok (.getfield 95, 3) := by decide +kernel
theorem dX9_holds_188 : decode cX9_holds 188 = .ok (.iconst 0, 1) := by decide +kernel
theorem dX9_holds_189 : decode cX9_holds 189 = .ok (.baload, 1) := by decide +kernel
theorem dX9_holds_190 : decode cX9_holds 190 = .ok (.ireturn, 1) := by decide +kernel
theorem dX9_firstOf_0 : decode cX9_firstOf 0 = .ok (.iconst 0, 1) := by decide +kernel
theorem dX9_firstOf_1 : decode cX9_firstOf 1 = .ok (.istore 5, 2) := by decide +kernel
theorem dX9_firstOf_3 : decode cX9_firstOf 3 = .ok (.iload 5, 2) := by decide +kernel
theorem dX9_firstOf_5 : decode cX9_firstOf 5 = .ok (.aload_n 0, 1) := by decide +kernel
theorem dX9_firstOf_6 : decode cX9_firstOf 6 = .ok (.getfield 53, 3) := by decide +kernel
theorem dX9_firstOf_9 : decode cX9_firstOf 9 = .ok (.iload_n 1, 1) := by decide +kernel
theorem dX9_firstOf_10 : decode cX9_firstOf 10 = .ok (.iaload, 1) := by decide +kernel
theorem dX9_firstOf_11 : decode cX9_firstOf 11 = .ok (.if_icmp .ge 45, 3) := by decide +kernel
theorem dX9_firstOf_14 : decode cX9_firstOf 14 = .ok (.aload_n 0, 1) := by decide +kernel
theorem dX9_firstOf_15 : decode cX9_firstOf 15 = .ok (.getfield 56, 3) := by decide +kernel
theorem dX9_firstOf_18 : decode cX9_firstOf 18 = .ok (.bipush 6, 2) := by decide +kernel
theorem dX9_firstOf_20 : decode cX9_firstOf 20 = .ok (.iload_n 1, 1) := by decide +kernel
theorem dX9_firstOf_21 : decode cX9_firstOf 21 = .ok (.imul, 1) := by decide +kernel
theorem dX9_firstOf_22 : decode cX9_firstOf 22 = .ok (.iload 5, 2) := by decide +kernel
theorem dX9_firstOf_24 : decode cX9_firstOf 24 = .ok (.iadd, 1) := by decide +kernel
theorem dX9_firstOf_25 : decode cX9_firstOf 25 = .ok (.iaload, 1) := by decide +kernel
theorem dX9_firstOf_26 : decode cX9_firstOf 26 = .ok (.iload_n 2, 1) := by decide +kernel
theorem dX9_firstOf_27 : decode cX9_firstOf 27 = .ok (.if_icmp .ne 23, 3) := by decide +kernel
theorem dX9_firstOf_30 : decode cX9_firstOf 30 = .ok (.aload_n 0, 1) := by decide +kernel
theorem dX9_firstOf_31 : decode cX9_firstOf 31 = .ok (.bipush 6, 2) := by decide +kernel
theorem dX9_firstOf_33 : decode cX9_firstOf 33 = .ok (.iload_n 1, 1) := by decide +kernel
theorem dX9_firstOf_34 : decode cX9_firstOf 34 = .ok (.imul, 1) := by decide +kernel
theorem dX9_firstOf_35 : decode cX9_firstOf 35 = .ok (.iload 5, 2) := by decide +kernel
theorem dX9_firstOf_37 : decode cX9_firstOf 37 = .ok (.iadd, 1) := by decide +kernel
theorem dX9_firstOf_38 : decode cX9_firstOf 38 = .ok (.iload_n 3, 1) := by decide +kernel
theorem dX9_firstOf_39 : decode cX9_firstOf 39 = .ok (.iload 4, 2) := by decide +kernel
theorem dX9_firstOf_41 : decode cX9_firstOf 41 = .ok (.invokevirtual 195, 3) := by decide +kernel
theorem dX9_firstOf_44 : decode cX9_firstOf 44 = .ok (.ifCond .eq 6, 3) := by decide +kernel
theorem dX9_firstOf_47 : decode cX9_firstOf 47 = .ok (.iload 5, 2) := by decide +kernel
theorem dX9_firstOf_49 : decode cX9_firstOf 49 = .ok (.ireturn, 1) := by decide +kernel
theorem dX9_firstOf_50 : decode cX9_firstOf 50 = .ok (.iinc 5 1, 3) := by decide +kernel
theorem dX9_firstOf_53 : decode cX9_firstOf 53 = .ok (.goto (-50), 3) := by decide +kernel
theorem dX9_firstOf_56 : decode cX9_firstOf 56 = .ok (.iconst (-1), 1) := by decide +kernel
theorem dX9_firstOf_57 : decode cX9_firstOf 57 = .ok (.ireturn, 1) := by decide +kernel
theorem dX9_lacks_0 : decode cX9_lacks 0 = .ok (.iconst 0, 1) := by decide +kernel
theorem dX9_lacks_1 : decode cX9_lacks 1 = .ok (.istore 4, 2) := by decide +kernel
theorem dX9_lacks_3 : decode cX9_lacks 3 = .ok (.iload 4, 2) := by decide +kernel
theorem dX9_lacks_5 : decode cX9_lacks 5 = .ok (.aload_n 0, 1) := by decide +kernel
theorem dX9_lacks_6 : decode cX9_lacks 6 = .ok (.getfield 53, 3) := by decide +kernel
theorem dX9_lacks_9 : decode cX9_lacks 9 = .ok (.iload_n 1, 1) := by decide +kernel
theorem dX9_lacks_10 : decode cX9_lacks 10 = .ok (.iaload, 1) := by decide +kernel
theorem dX9_lacks_11 : decode cX9_lacks 11 = .ok (.if_icmp .ge 66, 3) := by decide +kernel
theorem dX9_lacks_14 : decode cX9_lacks 14 = .ok (.aload_n 0, 1) := by decide +kernel
theorem dX9_lacks_15 : decode cX9_lacks 15 = .ok (.getfield 56, 3) := by decide +kernel
theorem dX9_lacks_18 : decode cX9_lacks 18 = .ok (.bipush 6, 2) := by decide +kernel
theorem dX9_lacks_20 : decode cX9_lacks 20 = .ok (.iload_n 1, 1) := by decide +kernel
theorem dX9_lacks_21 : decode cX9_lacks 21 = .ok (.imul, 1) := by decide +kernel
theorem dX9_lacks_22 : decode cX9_lacks 22 = .ok (.iload 4, 2) := by decide +kernel
theorem dX9_lacks_24 : decode cX9_lacks 24 = .ok (.iadd, 1) := by decide +kernel
theorem dX9_lacks_25 : decode cX9_lacks 25 = .ok (.iaload, 1) := by decide +kernel
theorem dX9_lacks_26 : decode cX9_lacks 26 = .ok (.iconst 2, 1) := by decide +kernel
theorem dX9_lacks_27 : decode cX9_lacks 27 = .ok (.if_icmp .ne 44, 3) := by decide +kernel
theorem dX9_lacks_30 : decode cX9_lacks 30 = .ok (.aload_n 0, 1) := by decide +kernel
theorem dX9_lacks_31 : decode cX9_lacks 31 = .ok (.aload_n 0, 1) := by decide +kernel
theorem dX9_lacks_32 : decode cX9_lacks 32 = .ok (.getfield 83, 3) := by decide +kernel
theorem dX9_lacks_35 : decode cX9_lacks 35 = .ok (.aload_n 0, 1) := by decide +kernel
theorem dX9_lacks_36 : decode cX9_lacks 36 = .ok (.getfield 59, 3) := by decide +kernel
theorem dX9_lacks_39 : decode cX9_lacks 39 = .ok (.bipush 6, 2) := by decide +kernel
theorem dX9_lacks_41 : decode cX9_lacks 41 = .ok (.iload_n 1, 1) := by decide +kernel
theorem dX9_lacks_42 : decode cX9_lacks 42 = .ok (.imul, 1) := by decide +kernel
theorem dX9_lacks_43 : decode cX9_lacks 43 = .ok (.iload 4, 2) := by decide +kernel
theorem dX9_lacks_45 : decode cX9_lacks 45 = .ok (.iadd, 1) := by decide +kernel
theorem dX9_lacks_46 : decode cX9_lacks 46 = .ok (.iaload, 1) := by decide +kernel
theorem dX9_lacks_47 : decode cX9_lacks 47 = .ok (.invokevirtual 189, 3) := by decide +kernel
theorem dX9_lacks_50 : decode cX9_lacks 50 = .ok (.ifCond .ne 21, 3) := by decide +kernel
theorem dX9_lacks_53 : decode cX9_lacks 53 = .ok (.aload_n 0, 1) := by decide +kernel
theorem dX9_lacks_54 : decode cX9_lacks 54 = .ok (.bipush 6, 2) := by decide +kernel
theorem dX9_lacks_56 : decode cX9_lacks 56 = .ok (.iload_n 1, 1) := by decide +kernel
theorem dX9_lacks_57 : decode cX9_lacks 57 = .ok (.imul, 1) := by decide +kernel
theorem dX9_lacks_58 : decode cX9_lacks 58 = .ok (.iload 4, 2) := by decide +kernel
theorem dX9_lacks_60 : decode cX9_lacks 60 = .ok (.iadd, 1) := by decide +kernel
theorem dX9_lacks_61 : decode cX9_lacks 61 = .ok (.iload_n 2, 1) := by decide +kernel
theorem dX9_lacks_62 : decode cX9_lacks 62 = .ok (.iload_n 3, 1) := by decide +kernel
theorem dX9_lacks_63 : decode cX9_lacks 63 = .ok (.invokevirtual 195, 3) := by decide +kernel
theorem dX9_lacks_66 : decode cX9_lacks 66 = .ok (.ifCond .eq 5, 3) := by decide +kernel
theorem dX9_lacks_69 : decode cX9_lacks 69 = .ok (.iconst 1, 1) := by decide +kernel
theorem dX9_lacks_70 : decode cX9_lacks 70 = .ok (.ireturn, 1) := by decide +kernel
theorem dX9_lacks_71 : decode cX9_lacks 71 = .ok (.iinc 4 1, 3) := by decide +kernel
theorem dX9_lacks_74 : decode cX9_lacks 74 = .ok (.goto (-71), 3) := by decide +kernel
theorem dX9_lacks_77 : decode cX9_lacks 77 = .ok (.iconst 0, 1) := by decide +kernel
theorem dX9_lacks_78 : decode cX9_lacks 78 = .ok (.ireturn, 1) := by decide +kernel
theorem dX9_keepsOut_0 : decode cX9_keepsOut 0 = .ok (.aload_n 0, 1) := by decide +kernel
theorem dX9_keepsOut_1 : decode cX9_keepsOut 1 = .ok (.iload_n 1, 1) := by decide +kernel
theorem dX9_keepsOut_2 : decode cX9_keepsOut 2 = .ok (.iconst 0, 1) := by decide +kernel
theorem dX9_keepsOut_3 : decode cX9_keepsOut 3 = .ok (.iload_n 2, 1) := by decide +kernel
theorem dX9_keepsOut_4 : decode cX9_keepsOut 4 = .ok (.iload_n 3, 1) := by decide +kernel
theorem dX9_keepsOut_5 : decode cX9_keepsOut 5 = .ok (.invokevirtual 198, 3) := by decide +kernel
theorem dX9_keepsOut_8 : decode cX9_keepsOut 8 = .ok (.ifCond .lt 16, 3) := by decide +kernel
theorem dX9_keepsOut_11 : decode cX9_keepsOut 11 = .ok (.aload_n 0, 1) := by decide +kernel
theorem dX9_keepsOut_12 : decode cX9_keepsOut 12 = .ok (.iload_n 1, 1) := by decide +kernel
theorem dX9_keepsOut_13 : decode cX9_keepsOut 13 = .ok (.iconst 1, 1) := by decide +kernel
theorem dX9_keepsOut_14 : decode cX9_keepsOut 14 = .ok (.iload_n 2, 1) := by decide +kernel
theorem dX9_keepsOut_15 : decode cX9_keepsOut 15 = .ok (.iload_n 3, 1) := by decide +kernel
theorem dX9_keepsOut_16 : decode cX9_keepsOut 16 = .ok (.invokevirtual 198, 3) := by decide +kernel
theorem dX9_keepsOut_19 : decode cX9_keepsOut 19 = .ok (.ifCond .ge 5, 3) := by decide +kernel
theorem dX9_keepsOut_22 : decode cX9_keepsOut 22 = .ok (.iconst 1, 1) := by decide +kernel
theorem dX9_keepsOut_23 : decode cX9_keepsOut 23 = .ok (.ireturn, 1) := by decide +kernel
theorem dX9_keepsOut_24 : decode cX9_keepsOut 24 = .ok (.aload_n 0, 1) := by decide +kernel
theorem dX9_keepsOut_25 : decode cX9_keepsOut 25 = .ok (.iload_n 1, 1) := by decide +kernel
theorem dX9_keepsOut_26 : decode cX9_keepsOut 26 = .ok (.iload_n 2, 1) := by decide +kernel
theorem dX9_keepsOut_27 : decode cX9_keepsOut 27 = .ok (.iload_n 3, 1) := by decide +kernel
theorem dX9_keepsOut_28 : decode cX9_keepsOut 28 = .ok (.invokevirtual 202, 3) := by decide +kernel
theorem dX9_keepsOut_31 : decode cX9_keepsOut 31 = .ok (.ifCond .eq 5, 3) := by decide +kernel
theorem dX9_keepsOut_34 : decode cX9_keepsOut 34 = .ok (.iconst 1, 1) := by decide +kernel
theorem dX9_keepsOut_35 : decode cX9_keepsOut 35 = .ok (.ireturn, 1) := by decide +kernel
theorem dX9_keepsOut_36 : decode cX9_keepsOut 36 = .ok (.aload_n 0, 1) := by decide +kernel
theorem dX9_keepsOut_37 : decode cX9_keepsOut 37 = .ok (.aload_n 0, 1) := by decide +kernel
theorem dX9_keepsOut_38 : decode cX9_keepsOut 38 = .ok (.getfield 86, 3) := by decide +kernel
theorem dX9_keepsOut_41 : decode cX9_keepsOut 41 = .ok (.iload_n 1, 1) := by decide +kernel
theorem dX9_keepsOut_42 : decode cX9_keepsOut 42 = .ok (.invokevirtual 189, 3) := by decide +kernel
theorem dX9_keepsOut_45 : decode cX9_keepsOut 45 = .ok (.ifCond .ne 18, 3) := by decide +kernel
theorem dX9_keepsOut_48 : decode cX9_keepsOut 48 = .ok (.aload_n 0, 1) := by decide +kernel
theorem dX9_keepsOut_49 : decode cX9_keepsOut 49 = .ok (.iload_n 1, 1) := by decide +kernel
theorem dX9_keepsOut_50 : decode cX9_keepsOut 50 = .ok (.iconst 3, 1) := by decide +kernel
theorem dX9_keepsOut_51 : decode cX9_keepsOut 51 = .ok (.iload_n 2, 1) := by decide +kernel
theorem dX9_keepsOut_52 : decode cX9_keepsOut 52 = .ok (.iload_n 3, 1) := by decide +kernel
theorem dX9_keepsOut_53 : decode cX9_keepsOut 53 = .ok (.invokevirtual 198, 3) := by decide +kernel
theorem dX9_keepsOut_56 : decode cX9_keepsOut 56 = .ok (.ifCond .lt 7, 3) := by decide +kernel
theorem dX9_keepsOut_59 : decode cX9_keepsOut 59 = .ok (.iconst 1, 1) := by decide +kernel
theorem dX9_keepsOut_60 : decode cX9_keepsOut 60 = .ok (.goto 4, 3) := by decide +kernel
theorem dX9_keepsOut_63 : decode cX9_keepsOut 63 = .ok (.iconst 0, 1) := by decide +kernel
theorem dX9_keepsOut_64 : decode cX9_keepsOut 64 = .ok (.ireturn, 1) := by decide +kernel
theorem dX9_wayOf_0 : decode cX9_wayOf 0 = .ok (.aload_n 0, 1) := by decide +kernel
theorem dX9_wayOf_1 : decode cX9_wayOf 1 = .ok (.iload_n 1, 1) := by decide +kernel
theorem dX9_wayOf_2 : decode cX9_wayOf 2 = .ok (.iconst 0, 1) := by decide +kernel
theorem dX9_wayOf_3 : decode cX9_wayOf 3 = .ok (.iload_n 2, 1) := by decide +kernel
theorem dX9_wayOf_4 : decode cX9_wayOf 4 = .ok (.iload_n 3, 1) := by decide +kernel
theorem dX9_wayOf_5 : decode cX9_wayOf 5 = .ok (.invokevirtual 198, 3) := by decide +kernel
theorem dX9_wayOf_8 : decode cX9_wayOf 8 = .ok (.ifCond .ge 7, 3) := by decide +kernel
theorem dX9_wayOf_11 : decode cX9_wayOf 11 = .ok (.iconst (-1), 1) := by decide +kernel
theorem dX9_wayOf_12 : decode cX9_wayOf 12 = .ok (.goto 11, 3) := by decide +kernel
theorem dX9_wayOf_15 : decode cX9_wayOf 15 = .ok (.aload_n 0, 1) := by decide +kernel
theorem dX9_wayOf_16 : decode cX9_wayOf 16 = .ok (.iload_n 1, 1) := by decide +kernel
theorem dX9_wayOf_17 : decode cX9_wayOf 17 = .ok (.iconst 1, 1) := by decide +kernel
theorem dX9_wayOf_18 : decode cX9_wayOf 18 = .ok (.iload_n 2, 1) := by decide +kernel
theorem dX9_wayOf_19 : decode cX9_wayOf 19 = .ok (.iload_n 3, 1) := by decide +kernel
theorem dX9_wayOf_20 : decode cX9_wayOf 20 = .ok (.invokevirtual 198, 3) := by decide +kernel
theorem dX9_wayOf_23 : decode cX9_wayOf 23 = .ok (.ireturn, 1) := by decide +kernel
theorem dX9_meetsIt_0 : decode cX9_meetsIt 0 = .ok (.iconst 0, 1) := by decide +kernel
theorem dX9_meetsIt_1 : decode cX9_meetsIt 1 = .ok (.istore 4, 2) := by decide +kernel
theorem dX9_meetsIt_3 : decode cX9_meetsIt 3 = .ok (.iload 4, 2) := by decide +kernel
theorem dX9_meetsIt_5 : decode cX9_meetsIt 5 = .ok (.aload_n 0, 1) := by decide +kernel
theorem dX9_meetsIt_6 : decode cX9_meetsIt 6 = .ok (.getfield 53, 3) := by decide +kernel
theorem dX9_meetsIt_9 : decode cX9_meetsIt 9 = .ok (.iload_n 1, 1) := by decide +kernel
theorem dX9_meetsIt_10 : decode cX9_meetsIt 10 = .ok (.iaload, 1) := by decide +kernel
theorem dX9_meetsIt_11 : decode cX9_meetsIt 11 = .ok (.if_icmp .ge 27, 3) := by decide +kernel
theorem dX9_meetsIt_14 : decode cX9_meetsIt 14 = .ok (.aload_n 0, 1) := by decide +kernel
theorem dX9_meetsIt_15 : decode cX9_meetsIt 15 = .ok (.bipush 6, 2) := by decide +kernel
theorem dX9_meetsIt_17 : decode cX9_meetsIt 17 = .ok (.iload_n 1, 1) := by decide +kernel
theorem dX9_meetsIt_18 : decode cX9_meetsIt 18 = .ok (.imul, 1) := by decide +kernel
theorem dX9_meetsIt_19 : decode cX9_meetsIt 19 = .ok (.iload 4, 2) := by decide +kernel
theorem dX9_meetsIt_21 : decode cX9_meetsIt 21 = .ok (.iadd, 1) := by decide +kernel
theorem dX9_meetsIt_22 : decode cX9_meetsIt 22 = .ok (.iload_n 2, 1) := by decide +kernel
theorem dX9_meetsIt_23 : decode cX9_meetsIt 23 = .ok (.iload_n 3, 1) := by decide +kernel
theorem dX9_meetsIt_24 : decode cX9_meetsIt 24 = .ok (.invokevirtual 195, 3) := by decide +kernel
theorem dX9_meetsIt_27 : decode cX9_meetsIt 27 = .ok (.ifCond .eq 5, 3) := by decide +kernel
theorem dX9_meetsIt_30 : decode cX9_meetsIt 30 = .ok (.iconst 1, 1) := by decide +kernel
theorem dX9_meetsIt_31 : decode cX9_meetsIt 31 = .ok (.ireturn, 1) := by decide +kernel
theorem dX9_meetsIt_32 : decode cX9_meetsIt 32 = .ok (.iinc 4 1, 3) := by decide +kernel
theorem dX9_meetsIt_35 : decode cX9_meetsIt 35 = .ok (.goto (-32), 3) := by decide +kernel
theorem dX9_meetsIt_38 : decode cX9_meetsIt 38 = .ok (.iconst 0, 1) := by decide +kernel
theorem dX9_meetsIt_39 : decode cX9_meetsIt 39 = .ok (.ireturn, 1) := by decide +kernel
theorem dX9_meets_0 : decode cX9_meets 0 = .ok (.aload_n 0, 1) := by decide +kernel
theorem dX9_meets_1 : decode cX9_meets 1 = .ok (.iload_n 1, 1) := by decide +kernel
theorem dX9_meets_2 : decode cX9_meets 2 = .ok (.invokevirtual 205, 3) := by decide +kernel
theorem dX9_meets_5 : decode cX9_meets 5 = .ok (.ifCond .eq 30, 3) := by decide +kernel
theorem dX9_meets_8 : decode cX9_meets 8 = .ok (.aload_n 0, 1) := by decide +kernel
theorem dX9_meets_9 : decode cX9_meets 9 = .ok (.iload_n 2, 1) := by decide +kernel
theorem dX9_meets_10 : decode cX9_meets 10 = .ok (.invokevirtual 137, 3) := by decide +kernel
theorem dX9_meets_13 : decode cX9_meets 13 = .ok (.ifCond .eq 22, 3) := by decide +kernel
theorem dX9_meets_16 : decode cX9_meets 16 = .ok (.aload_n 0, 1) := by decide +kernel
theorem dX9_meets_17 : decode cX9_meets 17 = .ok (.iload_n 3, 1) := by decide +kernel
theorem dX9_meets_18 : decode cX9_meets 18 = .ok (.invokevirtual 208, 3) := by decide +kernel
theorem dX9_meets_21 : decode cX9_meets 21 = .ok (.ifCond .eq 14, 3) := by decide +kernel
theorem dX9_meets_24 : decode cX9_meets 24 = .ok (.aload_n 0, 1) := by decide +kernel
theorem dX9_meets_25 : decode cX9_meets 25 = .ok (.iload 4, 2) := by decide +kernel
theorem dX9_meets_27 : decode cX9_meets 27 = .ok (.iconst 0, 1) := by decide +kernel
theorem dX9_meets_28 : decode cX9_meets 28 = .ok (.iconst 2, 1) := by decide +kernel
theorem dX9_meets_29 : decode cX9_meets 29 = .ok (.invokevirtual 133, 3) := by decide +kernel
theorem dX9_meets_32 : decode cX9_meets 32 = .ok (.ifCond .ne 5, 3) := by decide +kernel
theorem dX9_meets_35 : decode cX9_meets 35 = .ok (.iconst (-1), 1) := by decide +kernel
theorem dX9_meets_36 : decode cX9_meets 36 = .ok (.ireturn, 1) := by decide +kernel
theorem dX9_meets_37 : decode cX9_meets 37 = .ok (.aload_n 0, 1) := by decide +kernel
theorem dX9_meets_38 : decode cX9_meets 38 = .ok (.invokevirtual 211, 3) := by decide +kernel
theorem dX9_meets_41 : decode cX9_meets 41 = .ok (.iload 4, 2) := by decide +kernel
theorem dX9_meets_43 : decode cX9_meets 43 = .ok (.ifCond .ne 19, 3) := by decide +kernel
theorem dX9_meets_46 : decode cX9_meets 46 = .ok (.aload_n 0, 1) := by decide +kernel
theorem dX9_meets_47 : decode cX9_meets 47 = .ok (.iload_n 1, 1) := by decide +kernel
theorem dX9_meets_48 : decode cX9_meets 48 = .ok (.iload_n 2, 1) := by decide +kernel
theorem dX9_meets_49 : decode cX9_meets 49 = .ok (.iload_n 3, 1) := by decide +kernel
theorem dX9_meets_50 : decode cX9_meets 50 = .ok (.invokevirtual 214, 3) := by decide +kernel
theorem dX9_meets_53 : decode cX9_meets 53 = .ok (.ifCond .eq 7, 3) := by decide +kernel
theorem dX9_meets_56 : decode cX9_meets 56 = .ok (.iconst 1, 1) := by decide +kernel
theorem dX9_meets_57 : decode cX9_meets 57 = .ok (.goto 4, 3) := by decide +kernel
theorem dX9_meets_60 : decode cX9_meets 60 = .ok (.iconst 0, 1) := by decide +kernel
theorem dX9_meets_61 : decode cX9_meets 61 = .ok (.ireturn, 1) := by decide +kernel
theorem dX9_meets_62 : decode cX9_meets 62 = .ok (.iload 4, 2) := by decide +kernel
theorem dX9_meets_64 : decode cX9_meets 64 = .ok (.iconst 1, 1) := by decide +kernel
theorem dX9_meets_65 : decode cX9_meets 65 = .ok (.if_icmp .ne 19, 3) := by decide +kernel
theorem dX9_meets_68 : decode cX9_meets 68 = .ok (.aload_n 0, 1) := by decide +kernel
theorem dX9_meets_69 : decode cX9_meets 69 = .ok (.iload_n 1, 1) := by decide +kernel
theorem dX9_meets_70 : decode cX9_meets 70 = .ok (.iload_n 2, 1) := by decide +kernel
theorem dX9_meets_71 : decode cX9_meets 71 = .ok (.iload_n 3, 1) := by decide +kernel
theorem dX9_meets_72 : decode cX9_meets 72 = .ok (.invokevirtual 217, 3) := by decide +kernel
theorem dX9_meets_75 : decode cX9_meets 75 = .ok (.ifCond .eq 7, 3) := by decide +kernel
theorem dX9_meets_78 : decode cX9_meets 78 = .ok (.iconst 1, 1) := by decide +kernel
theorem dX9_meets_79 : decode cX9_meets 79 = .ok (.goto 4, 3) := by decide +kernel
theorem dX9_meets_82 : decode cX9_meets 82 = .ok (.iconst 0, 1) := by decide +kernel
theorem dX9_meets_83 : decode cX9_meets 83 = .ok (.ireturn, 1) := by decide +kernel
theorem dX9_meets_84 : decode cX9_meets 84 = .ok (.aload_n 0, 1) := by decide +kernel
theorem dX9_meets_85 : decode cX9_meets 85 = .ok (.iload_n 1, 1) := by decide +kernel
theorem dX9_meets_86 : decode cX9_meets 86 = .ok (.iload_n 2, 1) := by decide +kernel
theorem dX9_meets_87 : decode cX9_meets 87 = .ok (.iload_n 3, 1) := by decide +kernel
theorem dX9_meets_88 : decode cX9_meets 88 = .ok (.invokevirtual 220, 3) := by decide +kernel
theorem dX9_meets_91 : decode cX9_meets 91 = .ok (.ifCond .ge 8, 3) := by decide +kernel
theorem dX9_meets_94 : decode cX9_meets 94 = .ok (.bipush (-5), 2) := by decide +kernel
theorem dX9_meets_96 : decode cX9_meets 96 = .ok (.goto 10, 3) := by decide +kernel
theorem dX9_meets_99 : decode cX9_meets 99 = .ok (.aload_n 0, 1) := by decide +kernel
theorem dX9_meets_100 : decode cX9_meets 100 = .ok (.iload_n 1, 1) := by decide +kernel
theorem dX9_meets_101 : decode cX9_meets 101 = .ok (.iload_n 2, 1) := by decide +kernel
theorem dX9_meets_102 : decode cX9_meets 102 = .ok (.iload_n 3, 1) := by decide +kernel
theorem dX9_meets_103 : decode cX9_meets 103 = .ok (.invokevirtual 220, 3) := by decide +kernel
theorem dX9_meets_106 : decode cX9_meets 106 = .ok (.ireturn, 1) := by decide +kernel
theorem dX9_keeper_0 : decode cX9_keeper 0 = .ok (.iconst 0, 1) := by decide +kernel
theorem dX9_keeper_1 : decode cX9_keeper 1 = .ok (.istore 4, 2) := by decide +kernel
theorem dX9_keeper_3 : decode cX9_keeper 3 = .ok (.iload 4, 2) := by decide +kernel
theorem dX9_keeper_5 : decode cX9_keeper 5 = .ok (.aload_n 0, 1) := by decide +kernel
theorem dX9_keeper_6 : decode cX9_keeper 6 = .ok (.getfield 38, 3) := by decide +kernel
theorem dX9_keeper_9 : decode cX9_keeper 9 = .ok (.if_icmp .ge 34, 3) := by decide +kernel
theorem dX9_keeper_12 : decode cX9_keeper 12 = .ok (.aload_n 0, 1) := by decide +kernel
theorem dX9_keeper_13 : decode cX9_keeper 13 = .ok (.getfield 50, 3) := by decide +kernel
theorem dX9_keeper_16 : decode cX9_keeper 16 = .ok (.iload 4, 2) := by decide +kernel
theorem dX9_keeper_18 : decode cX9_keeper 18 = .ok (.iaload, 1) := by decide +kernel
theorem dX9_keeper_19 : decode cX9_keeper 19 = .ok (.iload_n 3, 1) := by decide +kernel
theorem dX9_keeper_20 : decode cX9_keeper 20 = .ok (.if_icmp .ne 17, 3) := by decide +kernel
theorem dX9_keeper_23 : decode cX9_keeper 23 = .ok (.aload_n 0, 1) := by decide +kernel
theorem dX9_keeper_24 : decode cX9_keeper 24 = .ok (.iload 4, 2) := by decide +kernel
theorem dX9_keeper_26 : decode cX9_keeper 26 = .ok (.iload_n 1, 1) := by decide +kernel
theorem dX9_keeper_27 : decode cX9_keeper 27 = .ok (.iload_n 2, 1) := by decide +kernel
theorem dX9_keeper_28 : decode cX9_keeper 28 = .ok (.invokevirtual 217, 3) := by decide +kernel
theorem dX9_keeper_31 : decode cX9_keeper 31 = .ok (.ifCond .eq 6, 3) := by decide +kernel
theorem dX9_keeper_34 : decode cX9_keeper 34 = .ok (.iload 4, 2) := by decide +kernel
theorem dX9_keeper_36 : decode cX9_keeper 36 = .ok (.ireturn, 1) := by decide +kernel
theorem dX9_keeper_37 : decode cX9_keeper 37 = .ok (.iinc 4 1, 3) := by decide +kernel
theorem dX9_keeper_40 : decode cX9_keeper 40 = .ok (.goto (-37), 3) := by decide +kernel
theorem dX9_keeper_43 : decode cX9_keeper 43 = .ok (.iconst (-1), 1) := by decide +kernel
theorem dX9_keeper_44 : decode cX9_keeper 44 = .ok (.ireturn, 1) := by decide +kernel
theorem dX9_arePartsHeard_0 : decode cX9_arePartsHeard 0 = .ok (.iconst 0, 1) := by decide +kernel
theorem dX9_arePartsHeard_1 : decode cX9_arePartsHeard 1 = .ok (.istore_n 3, 1) := by decide +kernel
theorem dX9_arePartsHeard_2 : decode cX9_arePartsHeard 2 = .ok (.iload_n 3, 1) := by decide +kernel
theorem dX9_arePartsHeard_3 : decode cX9_arePartsHeard 3 = .ok (.aload_n 0, 1) := by decide +kernel
theorem dX9_arePartsHeard_4 : decode cX9_arePartsHeard 4 = .ok (.getfield 32, 3) := by decide +kernel
theorem dX9_arePartsHeard_7 : decode cX9_arePartsHeard 7 = .ok (.iload_n 1, 1) := by decide +kernel
theorem dX9_arePartsHeard_8 : decode cX9_arePartsHeard 8 = .ok (.iaload, 1) := by decide +kernel
theorem dX9_arePartsHeard_9 : decode cX9_arePartsHeard 9 = .ok (.if_icmp .ge 38, 3) := by decide +kernel
theorem dX9_arePartsHeard_12 : decode cX9_arePartsHeard 12 = .ok (.aload_n 0, 1) := by decide +kernel
theorem dX9_arePartsHeard_13 : decode cX9_arePartsHeard 13 = .ok (.iload_n 2, 1) := by decide +kernel
theorem dX9_arePartsHeard_14 : decode cX9_arePartsHeard 14 = .ok (.iload_n 3, 1) := by decide +kernel
theorem dX9_arePartsHeard_15 : decode cX9_arePartsHeard 15 = .ok (.invokevirtual 189, 3) := by decide +kernel
theorem dX9_arePartsHeard_18 : decode cX9_arePartsHeard 18 = .ok (.ifCond .ne 23, 3) := by decide +kernel
theorem dX9_arePartsHeard_21 : decode cX9_arePartsHeard 21 = .ok (.aload_n 0, 1) := by decide +kernel
theorem dX9_arePartsHeard_22 : decode cX9_arePartsHeard 22 = .ok (.getfield 99, 3) := by decide +kernel
theorem dX9_arePartsHeard_25 : decode cX9_arePartsHeard 25 = .ok (.aload_n 0, 1) := by decide +kernel
theorem dX9_arePartsHeard_26 : decode cX9_arePartsHeard 26 = .ok (.getfield 35, 3) := by decide +kernel
theorem dX9_arePartsHeard_29 : decode cX9_arePartsHeard 29 = .ok (.iconst 4, 1) := by decide +kernel
theorem dX9_arePartsHeard_30 : decode cX9_arePartsHeard 30 = .ok (.iload_n 1, 1) := by decide +kernel
theorem dX9_arePartsHeard_31 : decode cX9_arePartsHeard 31 = .ok (.imul, 1) := by decide +kernel
theorem dX9_arePartsHeard_32 : decode cX9_arePartsHeard 32 = .ok (.iload_n 3, 1) := by decide +kernel
theorem dX9_arePartsHeard_33 : decode cX9_arePartsHeard 33 = .ok (.iadd, 1) := by decide +kernel
theorem dX9_arePartsHeard_34 : decode cX9_arePartsHeard 34 = .ok (.iaload, 1) := by decide +kernel
theorem dX9_arePartsHeard_35 : decode cX9_arePartsHeard 35 = .ok (.baload, 1) := by decide +kernel
theorem dX9_arePartsHeard_36 : decode cX9_arePartsHeard 36 = .ok (.ifCond .ne 5, 3) := by decide +kernel
theorem dX9_arePartsHeard_39 : decode cX9_arePartsHeard 39 = .ok (.iconst 0, 1) := by decide +kernel
theorem dX9_arePartsHeard_40 : decode cX9_arePartsHeard 40 = .ok (.ireturn, 1) := by decide +kernel
theorem dX9_arePartsHeard_41 : decode cX9_arePartsHeard 41 = .ok (.iinc 3 1, 3) := by decide +kernel
theorem dX9_arePartsHeard_44 : decode cX9_arePartsHeard 44 = .ok (.goto (-42), 3) := by decide +kernel
theorem dX9_arePartsHeard_47 : decode cX9_arePartsHeard 47 = .ok (.iconst 1, 1) := by decide +kernel
theorem dX9_arePartsHeard_48 : decode cX9_arePartsHeard 48 = .ok (.ireturn, 1) := by decide +kernel
theorem dX9_findHeard_0 : decode cX9_findHeard 0 = .ok (.iconst 0, 1) := by decide +kernel
theorem dX9_findHeard_1 : decode cX9_findHeard 1 = .ok (.istore_n 3, 1) := by decide +kernel
theorem dX9_findHeard_2 : decode cX9_findHeard 2 = .ok (.iload_n 3, 1) := by decide +kernel
theorem dX9_findHeard_3 : decode cX9_findHeard 3 = .ok (.iload_n 1, 1) := by decide +kernel
theorem dX9_findHeard_4 : decode cX9_findHeard 4 = .ok (.if_icmp .ge 47, 3) := by decide +kernel
theorem dX9_findHeard_7 : decode cX9_findHeard 7 = .ok (.aload_n 0, 1) := by decide +kernel
theorem dX9_findHeard_8 : decode cX9_findHeard 8 = .ok (.getfield 99, 3) := by decide +kernel
theorem dX9_findHeard_11 : decode cX9_findHeard 11 = .ok (.iload_n 3, 1) := by decide +kernel
theorem dX9_findHeard_12 : decode cX9_findHeard 12 = .ok (.iload_n 3, 1) := by decide +kernel
theorem dX9_findHeard_13 : decode cX9_findHeard 13 = .ok (.aload_n 0, 1) := by decide +kernel
theorem dX9_findHeard_14 : decode cX9_findHeard 14 = .ok (.getfield 89, 3) := by decide +kernel
theorem dX9_findHeard_17 : decode cX9_findHeard 17 = .ok (.if_icmp .eq 26, 3) := by decide +kernel
theorem dX9_findHeard_20 : decode cX9_findHeard 20 = .ok (.aload_n 0, 1) := by decide +kernel
theorem dX9_findHeard_21 : decode cX9_findHeard 21 = .ok (.iload_n 3, 1) := by decide +kernel
theorem dX9_findHeard_22 : decode cX9_findHeard 22 = .ok (.iconst 0, 1) := by decide +kernel
theorem dX9_findHeard_23 : decode cX9_findHeard 23 = .ok (.invokevirtual 224, 3) := by decide +kernel
theorem dX9_findHeard_26 : decode cX9_findHeard 26 = .ok (.ifCond .eq 17, 3) := by decide +kernel
theorem dX9_findHeard_29 : decode cX9_findHeard 29 = .ok (.aload_n 0, 1) := by decide +kernel
theorem dX9_findHeard_30 : decode cX9_findHeard 30 = .ok (.iload_n 3, 1) := by decide +kernel
theorem dX9_findHeard_31 : decode cX9_findHeard 31 = .ok (.iconst 0, 1) := by decide +kernel
theorem dX9_findHeard_32 : decode cX9_findHeard 32 = .ok (.iload_n 2, 1) := by decide +kernel
theorem dX9_findHeard_33 : decode cX9_findHeard 33 = .ok (.invokevirtual 227, 3) := by decide +kernel
theorem dX9_findHeard_36 : decode cX9_findHeard 36 = .ok (.ifCond .ge 7, 3) := by decide +kernel
theorem dX9_findHeard_39 : decode cX9_findHeard 39 = .ok (.iconst 1, 1) := by decide +kernel
theorem dX9_findHeard_40 : decode cX9_findHeard 40 = .ok (.goto 4, 3) := by decide +kernel
theorem dX9_findHeard_43 : decode cX9_findHeard 43 = .ok (.iconst 0, 1) := by decide +kernel
theorem dX9_findHeard_44 : decode cX9_findHeard 44 = .ok (.bastore, 1) := by decide +kernel
theorem dX9_findHeard_45 : decode cX9_findHeard 45 = .ok (.iinc 3 1, 3) := by decide +kernel
theorem dX9_findHeard_48 : decode cX9_findHeard 48 = .ok (.goto (-46), 3) := by decide +kernel
theorem dX9_findHeard_51 : decode cX9_findHeard 51 = .ok (.return_, 1) := by decide +kernel
theorem dX9_isHeard_0 : decode cX9_isHeard 0 = .ok (.aload_n 0, 1) := by decide +kernel
theorem dX9_isHeard_1 : decode cX9_isHeard 1 = .ok (.iload_n 1, 1) := by decide +kernel
theorem dX9_isHeard_2 : decode cX9_isHeard 2 = .ok (.iload_n 2, 1) := by decide +kernel
theorem dX9_isHeard_3 : decode cX9_isHeard 3 = .ok (.iload_n 3, 1) := by decide +kernel
theorem dX9_isHeard_4 : decode cX9_isHeard 4 = .ok (.invokevirtual 227, 3) := by decide +kernel
theorem dX9_isHeard_7 : decode cX9_isHeard 7 = .ok (.ifCond .lt 5, 3) := by decide +kernel
theorem dX9_isHeard_10 : decode cX9_isHeard 10 = .ok (.iconst 0, 1) := by decide +kernel
theorem dX9_isHeard_11 : decode cX9_isHeard 11 = .ok (.ireturn, 1) := by decide +kernel
theorem dX9_isHeard_12 : decode cX9_isHeard 12 = .ok (.iload_n 2, 1) := by decide +kernel
theorem dX9_isHeard_13 : decode cX9_isHeard 13 = .ok (.iconst 1, 1) := by decide +kernel
theorem dX9_isHeard_14 : decode cX9_isHeard 14 = .ok (.if_icmp .ne 5, 3) := by decide +kernel
theorem dX9_isHeard_17 : decode cX9_isHeard 17 = .ok (.iconst 1, 1) := by decide +kernel
theorem dX9_isHeard_18 : decode cX9_isHeard 18 = .ok (.ireturn, 1) := by decide +kernel
theorem dX9_isHeard_19 : decode cX9_isHeard 19 = .ok (.aload_n 0, 1) := by decide +kernel
theorem dX9_isHeard_20 : decode cX9_isHeard 20 = .ok (.iload_n 1, 1) := by decide +kernel
theorem dX9_isHeard_21 : decode cX9_isHeard 21 = .ok (.iload_n 3, 1) := by decide +kernel
theorem dX9_isHeard_22 : decode cX9_isHeard 22 = .ok (.invokevirtual 230, 3) := by decide +kernel
theorem dX9_isHeard_25 : decode cX9_isHeard 25 = .ok (.aload_n 0, 1) := by decide +kernel
theorem dX9_isHeard_26 : decode cX9_isHeard 26 = .ok (.iload_n 1, 1) := by decide +kernel
theorem dX9_isHeard_27 : decode cX9_isHeard 27 = .ok (.iconst 0, 1) := by decide +kernel
theorem dX9_isHeard_28 : decode cX9_isHeard 28 = .ok (.invokevirtual 224, 3) := by decide +kernel
theorem dX9_isHeard_31 : decode cX9_isHeard 31 = .ok (.ireturn, 1) := by decide +kernel
theorem dX9_isLayer_0 : decode cX9_isLayer 0 = .ok (.aload_n 0, 1) := by decide +kernel
theorem dX9_isLayer_1 : decode cX9_isLayer 1 = .ok (.iload_n 1, 1) := by decide +kernel
theorem dX9_isLayer_2 : decode cX9_isLayer 2 = .ok (.invokevirtual 137, 3) := by decide +kernel
theorem dX9_isLayer_5 : decode cX9_isLayer 5 = .ok (.ifCond .eq 23, 3) := by decide +kernel
theorem dX9_isLayer_8 : decode cX9_isLayer 8 = .ok (.aload_n 0, 1) := by decide +kernel
theorem dX9_isLayer_9 : decode cX9_isLayer 9 = .ok (.iload_n 2, 1) := by decide +kernel
theorem dX9_isLayer_10 : decode cX9_isLayer 10 = .ok (.invokevirtual 208, 3) := by decide +kernel
theorem dX9_isLayer_13 : decode cX9_isLayer 13 = .ok (.ifCond .eq 15, 3) := by decide +kernel
theorem dX9_isLayer_16 : decode cX9_isLayer 16 = .ok (.aload_n 0, 1) := by decide +kernel
theorem dX9_isLayer_17 : decode cX9_isLayer 17 = .ok (.iload_n 3, 1) := by decide +kernel
theorem dX9_isLayer_18 : decode cX9_isLayer 18 = .ok (.invokevirtual 177, 3) := by decide +kernel
theorem dX9_isLayer_21 : decode cX9_isLayer 21 = .ok (.ifCond .eq 7, 3) := by decide +kernel
theorem dX9_isLayer_24 : decode cX9_isLayer 24 = .ok (.iconst 1, 1) := by decide +kernel
theorem dX9_isLayer_25 : decode cX9_isLayer 25 = .ok (.goto 4, 3) := by decide +kernel
theorem dX9_isLayer_28 : decode cX9_isLayer 28 = .ok (.iconst 0, 1) := by decide +kernel
theorem dX9_isLayer_29 : decode cX9_isLayer 29 = .ok (.ireturn, 1) := by decide +kernel
theorem dX9_heard_0 : decode cX9_heard 0 = .ok (.aload_n 0, 1) := by decide +kernel
theorem dX9_heard_1 : decode cX9_heard 1 = .ok (.iload_n 1, 1) := by decide +kernel
theorem dX9_heard_2 : decode cX9_heard 2 = .ok (.iload_n 2, 1) := by decide +kernel
theorem dX9_heard_3 : decode cX9_heard 3 = .ok (.iload_n 3, 1) := by decide +kernel
theorem dX9_heard_4 : decode cX9_heard 4 = .ok (.invokevirtual 234, 3) := by decide +kernel
theorem dX9_heard_7 : decode cX9_heard 7 = .ok (.ifCond .ne 5, 3) := by decide +kernel
theorem dX9_heard_10 : decode cX9_heard 10 = .ok (.iconst (-1), 1) := by decide +kernel
theorem dX9_heard_11 : decode cX9_heard 11 = .ok (.ireturn, 1) := by decide +kernel
theorem dX9_heard_12 : decode cX9_heard 12 = .ok (.aload_n 0, 1) := by decide +kernel
theorem dX9_heard_13 : decode cX9_heard 13 = .ok (.invokevirtual 211, 3) := by decide +kernel
theorem dX9_heard_16 : decode cX9_heard 16 = .ok (.aload_n 0, 1) := by decide +kernel
theorem dX9_heard_17 : decode cX9_heard 17 = .ok (.iload_n 1, 1) := by decide +kernel
theorem dX9_heard_18 : decode cX9_heard 18 = .ok (.iload_n 2, 1) := by decide +kernel
theorem dX9_heard_19 : decode cX9_heard 19 = .ok (.iload_n 3, 1) := by decide +kernel
theorem dX9_heard_20 : decode cX9_heard 20 = .ok (.invokevirtual 237, 3) := by decide +kernel
theorem dX9_heard_23 : decode cX9_heard 23 = .ok (.ifCond .eq 7, 3) := by decide +kernel
theorem dX9_heard_26 : decode cX9_heard 26 = .ok (.iconst 1, 1) := by decide +kernel
theorem dX9_heard_27 : decode cX9_heard 27 = .ok (.goto 4, 3) := by decide +kernel
theorem dX9_heard_30 : decode cX9_heard 30 = .ok (.iconst 0, 1) := by decide +kernel
theorem dX9_heard_31 : decode cX9_heard 31 = .ok (.ireturn, 1) := by decide +kernel
theorem dX9_why_0 : decode cX9_why 0 = .ok (.aload_n 0, 1) := by decide +kernel
theorem dX9_why_1 : decode cX9_why 1 = .ok (.iload_n 1, 1) := by decide +kernel
theorem dX9_why_2 : decode cX9_why 2 = .ok (.iload_n 2, 1) := by decide +kernel
theorem dX9_why_3 : decode cX9_why 3 = .ok (.iload_n 3, 1) := by decide +kernel
theorem dX9_why_4 : decode cX9_why 4 = .ok (.invokevirtual 234, 3) := by decide +kernel
theorem dX9_why_7 : decode cX9_why 7 = .ok (.ifCond .ne 5, 3) := by decide +kernel
theorem dX9_why_10 : decode cX9_why 10 = .ok (.iconst (-1), 1) := by decide +kernel
theorem dX9_why_11 : decode cX9_why 11 = .ok (.ireturn, 1) := by decide +kernel
theorem dX9_why_12 : decode cX9_why 12 = .ok (.aload_n 0, 1) := by decide +kernel
theorem dX9_why_13 : decode cX9_why 13 = .ok (.invokevirtual 211, 3) := by decide +kernel
theorem dX9_why_16 : decode cX9_why 16 = .ok (.aload_n 0, 1) := by decide +kernel
theorem dX9_why_17 : decode cX9_why 17 = .ok (.aload_n 0, 1) := by decide +kernel
theorem dX9_why_18 : decode cX9_why 18 = .ok (.getfield 7, 3) := by decide +kernel
theorem dX9_why_21 : decode cX9_why 21 = .ok (.iload_n 3, 1) := by decide +kernel
theorem dX9_why_22 : decode cX9_why 22 = .ok (.invokevirtual 230, 3) := by decide +kernel
theorem dX9_why_25 : decode cX9_why 25 = .ok (.iload_n 1, 1) := by decide +kernel
theorem dX9_why_26 : decode cX9_why 26 = .ok (.istore 4, 2) := by decide +kernel
theorem dX9_why_28 : decode cX9_why 28 = .ok (.iload_n 2, 1) := by decide +kernel
theorem dX9_why_29 : decode cX9_why 29 = .ok (.istore 5, 2) := by decide +kernel
theorem dX9_why_31 : decode cX9_why 31 = .ok (.aload_n 0, 1) := by decide +kernel
theorem dX9_why_32 : decode cX9_why 32 = .ok (.iload 4, 2) := by decide +kernel
theorem dX9_why_34 : decode cX9_why 34 = .ok (.iload 5, 2) := by decide +kernel
theorem dX9_why_36 : decode cX9_why 36 = .ok (.iload_n 3, 1) := by decide +kernel
theorem dX9_why_37 : decode cX9_why 37 = .ok (.invokevirtual 227, 3) := by decide +kernel
theorem dX9_why_40 : decode cX9_why 40 = .ok (.istore 6, 2) := by decide +kernel
theorem dX9_why_42 : decode cX9_why 42 = .ok (.iload 6, 2) := by decide +kernel
theorem dX9_why_44 : decode cX9_why 44 = .ok (.ifCond .lt 12, 3) := by decide +kernel
theorem dX9_why_47 : decode cX9_why 47 = .ok (.bipush 100, 2) := by decide +kernel
theorem dX9_why_49 : decode cX9_why 49 = .ok (.iload 4, 2) := by decide +kernel
theorem dX9_why_51 : decode cX9_why 51 = .ok (.imul, 1) := by decide +kernel
theorem dX9_why_52 : decode cX9_why 52 = .ok (.iload 6, 2) := by decide +kernel
theorem dX9_why_54 : decode cX9_why 54 = .ok (.iadd, 1) := by decide +kernel
theorem dX9_why_55 : decode cX9_why 55 = .ok (.ireturn, 1) := by decide +kernel
theorem dX9_why_56 : decode cX9_why 56 = .ok (.iconst 0, 1) := by decide +kernel
theorem dX9_why_57 : decode cX9_why 57 = .ok (.istore 7, 2) := by decide +kernel
theorem dX9_why_59 : decode cX9_why 59 = .ok (.iload 7, 2) := by decide +kernel
theorem dX9_why_61 : decode cX9_why 61 = .ok (.aload_n 0, 1) := by decide +kernel
theorem dX9_why_62 : decode cX9_why 62 = .ok (.getfield 32, 3) := by decide +kernel
theorem dX9_why_65 : decode cX9_why 65 = .ok (.iload 4, 2) := by decide +kernel
theorem dX9_why_67 : decode cX9_why 67 = .ok (.iaload, 1) := by decide +kernel
theorem dX9_why_68 : decode cX9_why 68 = .ok (.if_icmp .ge 35, 3) := by decide +kernel
theorem dX9_why_71 : decode cX9_why 71 = .ok (.iload 5, 2) := by decide +kernel
theorem dX9_why_73 : decode cX9_why 73 = .ok (.iconst 1, 1) := by decide +kernel
theorem dX9_why_74 : decode cX9_why 74 = .ok (.if_icmp .eq 23, 3) := by decide +kernel
theorem dX9_why_77 : decode cX9_why 77 = .ok (.aload_n 0, 1) := by decide +kernel
theorem dX9_why_78 : decode cX9_why 78 = .ok (.getfield 99, 3) := by decide +kernel
theorem dX9_why_81 : decode cX9_why 81 = .ok (.aload_n 0, 1) := by decide +kernel
theorem dX9_why_82 : decode cX9_why 82 = .ok (.getfield 35, 3) := by decide +kernel
theorem dX9_why_85 : decode cX9_why 85 = .ok (.iconst 4, 1) := by decide +kernel
theorem dX9_why_86 : decode cX9_why 86 = .ok (.iload 4, 2) := by decide +kernel
theorem dX9_why_88 : decode cX9_why 88 = .ok (.imul, 1) := by decide +kernel
theorem dX9_why_89 : decode cX9_why 89 = .ok (.iload 7, 2) := by decide +kernel
theorem dX9_why_91 : decode cX9_why 91 = .ok (.iadd, 1) := by decide +kernel
theorem dX9_why_92 : decode cX9_why 92 = .ok (.iaload, 1) := by decide +kernel
theorem dX9_why_93 : decode cX9_why 93 = .ok (.baload, 1) := by decide +kernel
theorem dX9_why_94 : decode cX9_why 94 = .ok (.ifCond .eq 9, 3) := by decide +kernel
theorem dX9_why_97 : decode cX9_why 97 = .ok (.iinc 7 1, 3) := by decide +kernel
theorem dX9_why_100 : decode cX9_why 100 = .ok (.goto (-41), 3) := by decide +kernel
theorem dX9_why_103 : decode cX9_why 103 = .ok (.iload 7, 2) := by decide +kernel
theorem dX9_why_105 : decode cX9_why 105 = .ok (.aload_n 0, 1) := by decide +kernel
theorem dX9_why_106 : decode cX9_why 106 = .ok (.getfield 32, 3) := by decide +kernel
theorem dX9_why_109 : decode cX9_why 109 = .ok (.iload 4, 2) := by decide +kernel
theorem dX9_why_111 : decode cX9_why 111 = .ok (.iaload, 1) := by decide +kernel
theorem dX9_why_112 : decode cX9_why 112 = .ok (.if_icmp .ne 6, 3) := by decide +kernel
theorem dX9_why_115 : decode cX9_why 115 = .ok (.bipush (-5), 2) := by decide +kernel
theorem dX9_why_117 : decode cX9_why 117 = .ok (.ireturn, 1) := by decide +kernel
theorem dX9_why_118 : decode cX9_why 118 = .ok (.aload_n 0, 1) := by decide +kernel
theorem dX9_why_119 : decode cX9_why 119 = .ok (.getfield 35, 3) := by decide +kernel
theorem dX9_why_122 : decode cX9_why 122 = .ok (.iconst 4, 1) := by decide +kernel
theorem dX9_why_123 : decode cX9_why 123 = .ok (.iload 4, 2) := by decide +kernel
theorem dX9_why_125 : decode cX9_why 125 = .ok (.imul, 1) := by decide +kernel
theorem dX9_why_126 : decode cX9_why 126 = .ok (.iload 7, 2) := by decide +kernel
theorem dX9_why_128 : decode cX9_why 128 = .ok (.iadd, 1) := by decide +kernel
theorem dX9_why_129 : decode cX9_why 129 = .ok (.iaload, 1) := by decide +kernel
theorem dX9_why_130 : decode cX9_why 130 = .ok (.istore 4, 2) := by decide +kernel
theorem dX9_why_132 : decode cX9_why 132 = .ok (.iconst 0, 1) := by decide +kernel
theorem dX9_why_133 : decode cX9_why 133 = .ok (.istore 5, 2) := by decide +kernel
theorem dX9_why_135 : decode cX9_why 135 = .ok (.goto (-104), 3) := by decide +kernel
theorem dX9_least_0 : decode cX9_least 0 = .ok (.aload_n 0, 1) := by decide +kernel
theorem dX9_least_1 : decode cX9_least 1 = .ok (.iload_n 1, 1) := by decide +kernel
theorem dX9_least_2 : decode cX9_least 2 = .ok (.iload_n 2, 1) := by decide +kernel
theorem dX9_least_3 : decode cX9_least 3 = .ok (.iload_n 3, 1) := by decide +kernel
theorem dX9_least_4 : decode cX9_least 4 = .ok (.invokevirtual 234, 3) := by decide +kernel
theorem dX9_least_7 : decode cX9_least 7 = .ok (.ifCond .eq 14, 3) := by decide +kernel
theorem dX9_least_10 : decode cX9_least 10 = .ok (.aload_n 0, 1) := by decide +kernel
theorem dX9_least_11 : decode cX9_least 11 = .ok (.iload 4, 2) := by decide +kernel
theorem dX9_least_13 : decode cX9_least 13 = .ok (.iconst 0, 1) := by decide +kernel
theorem dX9_least_14 : decode cX9_least 14 = .ok (.iconst 1, 1) := by decide +kernel
theorem dX9_least_15 : decode cX9_least 15 = .ok (.invokevirtual 133, 3) := by decide +kernel
theorem dX9_least_18 : decode cX9_least 18 = .ok (.ifCond .ne 5, 3) := by decide +kernel
theorem dX9_least_21 : decode cX9_least 21 = .ok (.iconst (-1), 1) := by decide +kernel
theorem dX9_least_22 : decode cX9_least 22 = .ok (.ireturn, 1) := by decide +kernel
theorem dX9_least_23 : decode cX9_least 23 = .ok (.aload_n 0, 1) := by decide +kernel
theorem dX9_least_24 : decode cX9_least 24 = .ok (.invokevirtual 211, 3) := by decide +kernel
theorem dX9_least_27 : decode cX9_least 27 = .ok (.bipush (-5), 2) := by decide +kernel
theorem dX9_least_29 : decode cX9_least 29 = .ok (.istore 5, 2) := by decide +kernel
theorem dX9_least_31 : decode cX9_least 31 = .ok (.iconst 0, 1) := by decide +kernel
theorem dX9_least_32 : decode cX9_least 32 = .ok (.istore 6, 2) := by decide +kernel
theorem dX9_least_34 : decode cX9_least 34 = .ok (.iconst 0, 1) := by decide +kernel
theorem dX9_least_35 : decode cX9_least 35 = .ok (.istore 7, 2) := by decide +kernel
theorem dX9_least_37 : decode cX9_least 37 = .ok (.iload 7, 2) := by decide +kernel
theorem dX9_least_39 : decode cX9_least 39 = .ok (.bipush 11, 2) := by decide +kernel
theorem dX9_least_41 : decode cX9_least 41 = .ok (.if_icmp .ge 96, 3) := by decide +kernel
theorem dX9_least_44 : decode cX9_least 44 = .ok (.iload 5, 2) := by decide +kernel
theorem dX9_least_46 : decode cX9_least 46 = .ok (.ifCond .ge 91, 3) := by decide +kernel
theorem dX9_least_49 : decode cX9_least 49 = .ok (.iconst 0, 1) := by decide +kernel
theorem dX9_least_50 : decode cX9_least 50 = .ok (.istore 8, 2) := by decide +kernel
theorem dX9_least_52 : decode cX9_least 52 = .ok (.iload 8, 2) := by decide +kernel
theorem dX9_least_54 : decode cX9_least 54 = .ok (.sipush 1024, 3) := by decide +kernel
theorem dX9_least_57 : decode cX9_least 57 = .ok (.if_icmp .ge 74, 3) := by decide +kernel
theorem dX9_least_60 : decode cX9_least 60 = .ok (.aload_n 0, 1) := by decide +kernel
theorem dX9_least_61 : decode cX9_least 61 = .ok (.iload 8, 2) := by decide +kernel
theorem dX9_least_63 : decode cX9_least 63 = .ok (.invokevirtual 240, 3) := by decide +kernel
theorem dX9_least_66 : decode cX9_least 66 = .ok (.iload 7, 2) := by decide +kernel
theorem dX9_least_68 : decode cX9_least 68 = .ok (.if_icmp .ne 57, 3) := by decide +kernel
theorem dX9_least_71 : decode cX9_least 71 = .ok (.iload 8, 2) := by decide +kernel
theorem dX9_least_73 : decode cX9_least 73 = .ok (.aload_n 0, 1) := by decide +kernel
theorem dX9_least_74 : decode cX9_least 74 = .ok (.getfield 13, 3) := by decide +kernel
theorem dX9_least_77 : decode cX9_least 77 = .ok (.iand, 1) := by decide +kernel
theorem dX9_least_78 : decode cX9_least 78 = .ok (.ifCond .eq 6, 3) := by decide +kernel
theorem dX9_least_81 : decode cX9_least 81 = .ok (.goto 44, 3) := by decide +kernel
theorem dX9_least_84 : decode cX9_least 84 = .ok (.aload_n 0, 1) := by decide +kernel
theorem dX9_least_85 : decode cX9_least 85 = .ok (.aload_n 0, 1) := by decide +kernel
theorem dX9_least_86 : decode cX9_least 86 = .ok (.getfield 13, 3) := by decide +kernel
theorem dX9_least_89 : decode cX9_least 89 = .ok (.iload 8, 2) := by decide +kernel
theorem dX9_least_91 : decode cX9_least 91 = .ok (.ior, 1) := by decide +kernel
theorem dX9_least_92 : decode cX9_least 92 = .ok (.putfield 83, 3) := by decide +kernel
theorem dX9_least_95 : decode cX9_least 95 = .ok (.aload_n 0, 1) := by decide +kernel
theorem dX9_least_96 : decode cX9_least 96 = .ok (.iload_n 1, 1) := by decide +kernel
theorem dX9_least_97 : decode cX9_least 97 = .ok (.iload_n 2, 1) := by decide +kernel
theorem dX9_least_98 : decode cX9_least 98 = .ok (.iload_n 3, 1) := by decide +kernel
theorem dX9_least_99 : decode cX9_least 99 = .ok (.invokevirtual 237, 3) := by decide +kernel
theorem dX9_least_102 : decode cX9_least 102 = .ok (.ifCond .ne 6, 3) := by decide +kernel
theorem dX9_least_105 : decode cX9_least 105 = .ok (.goto 20, 3) := by decide +kernel
theorem dX9_least_108 : decode cX9_least 108 = .ok (.iinc 6 1, 3) := by decide +kernel
theorem dX9_least_111 : decode cX9_least 111 = .ok (.iload 5, 2) := by decide +kernel
theorem dX9_least_113 : decode cX9_least 113 = .ok (.ifCond .ge 8, 3) := by decide +kernel
theorem dX9_least_116 : decode cX9_least 116 = .ok (.iload 8, 2) := by decide +kernel
theorem dX9_least_118 : decode cX9_least 118 = .ok (.goto 5, 3) := by decide +kernel
theorem dX9_least_121 : decode cX9_least 121 = .ok (.iload 5, 2) := by decide +kernel
theorem dX9_least_123 : decode cX9_least 123 = .ok (.istore 5, 2) := by decide +kernel
theorem dX9_least_125 : decode cX9_least 125 = .ok (.iinc 8 1, 3) := by decide +kernel
theorem dX9_least_128 : decode cX9_least 128 = .ok (.goto (-76), 3) := by decide +kernel
theorem dX9_least_131 : decode cX9_least 131 = .ok (.iinc 7 1, 3) := by decide +kernel
theorem dX9_least_134 : decode cX9_least 134 = .ok (.goto (-97), 3) := by decide +kernel
theorem dX9_least_137 : decode cX9_least 137 = .ok (.iload 4, 2) := by decide +kernel
theorem dX9_least_139 : decode cX9_least 139 = .ok (.ifCond .ne 8, 3) := by decide +kernel
theorem dX9_least_142 : decode cX9_least 142 = .ok (.iload 5, 2) := by decide +kernel
theorem dX9_least_144 : decode cX9_least 144 = .ok (.goto 5, 3) := by decide +kernel
theorem dX9_least_147 : decode cX9_least 147 = .ok (.iload 6, 2) := by decide +kernel
theorem dX9_least_149 : decode cX9_least 149 = .ok (.ireturn, 1) := by decide +kernel
theorem dX9_ends_0 : decode cX9_ends 0 = .ok (.aload_n 0, 1) := by decide +kernel
theorem dX9_ends_1 : decode cX9_ends 1 = .ok (.iload_n 1, 1) := by decide +kernel
theorem dX9_ends_2 : decode cX9_ends 2 = .ok (.invokevirtual 137, 3) := by decide +kernel
theorem dX9_ends_5 : decode cX9_ends 5 = .ok (.ifCond .eq 11, 3) := by decide +kernel
theorem dX9_ends_8 : decode cX9_ends 8 = .ok (.aload_n 0, 1) := by decide +kernel
theorem dX9_ends_9 : decode cX9_ends 9 = .ok (.iload_n 2, 1) := by decide +kernel
theorem dX9_ends_10 : decode cX9_ends 10 = .ok (.invokevirtual 177, 3) := by decide +kernel
theorem dX9_ends_13 : decode cX9_ends 13 = .ok (.ifCond .ne 5, 3) := by decide +kernel
theorem dX9_ends_16 : decode cX9_ends 16 = .ok (.iconst (-1), 1) := by decide +kernel
theorem dX9_ends_17 : decode cX9_ends 17 = .ok (.ireturn, 1) := by decide +kernel
theorem dX9_ends_18 : decode cX9_ends 18 = .ok (.aload_n 0, 1) := by decide +kernel
theorem dX9_ends_19 : decode cX9_ends 19 = .ok (.invokevirtual 211, 3) := by decide +kernel
theorem dX9_ends_22 : decode cX9_ends 22 = .ok (.iconst 0, 1) := by decide +kernel
theorem dX9_ends_23 : decode cX9_ends 23 = .ok (.istore_n 3, 1) := by decide +kernel
theorem dX9_ends_24 : decode cX9_ends 24 = .ok (.iconst 0, 1) := by decide +kernel
theorem dX9_ends_25 : decode cX9_ends 25 = .ok (.istore 4, 2) := by decide +kernel
theorem dX9_ends_27 : decode cX9_ends 27 = .ok (.iload 4, 2) := by decide +kernel
theorem dX9_ends_29 : decode cX9_ends 29 = .ok (.iconst 4, 1) := by decide +kernel
theorem dX9_ends_30 : decode cX9_ends 30 = .ok (.if_icmp .ge 31, 3) := by decide +kernel
theorem dX9_ends_33 : decode cX9_ends 33 = .ok (.iload_n 3, 1) := by decide +kernel
theorem dX9_ends_34 : decode cX9_ends 34 = .ok (.aload_n 0, 1) := by decide +kernel
theorem dX9_ends_35 : decode cX9_ends 35 = .ok (.iload_n 1, 1) := by decide +kernel
theorem dX9_ends_36 : decode cX9_ends 36 = .ok (.iload 4, 2) := by decide +kernel
theorem dX9_ends_38 : decode cX9_ends 38 = .ok (.iload_n 2, 1) := by decide +kernel
theorem dX9_ends_39 : decode cX9_ends 39 = .ok (.invokevirtual 237, 3) := by decide +kernel
theorem dX9_ends_42 : decode cX9_ends 42 = .ok (.ifCond .eq 10, 3) := by decide +kernel
theorem dX9_ends_45 : decode cX9_ends 45 = .ok (.iconst 1, 1) := by decide +kernel
theorem dX9_ends_46 : decode cX9_ends 46 = .ok (.iload 4, 2) := by decide +kernel
theorem dX9_ends_48 : decode cX9_ends 48 = .ok (.ishl, 1) := by decide +kernel
theorem dX9_ends_49 : decode cX9_ends 49 = .ok (.goto 4, 3) := by decide +kernel
theorem dX9_ends_52 : decode cX9_ends 52 = .ok (.iconst 0, 1) := by decide +kernel
theorem dX9_ends_53 : decode cX9_ends 53 = .ok (.ior, 1) := by decide +kernel
theorem dX9_ends_54 : decode cX9_ends 54 = .ok (.istore_n 3, 1) := by decide +kernel
theorem dX9_ends_55 : decode cX9_ends 55 = .ok (.iinc 4 1, 3) := by decide +kernel
theorem dX9_ends_58 : decode cX9_ends 58 = .ok (.goto (-31), 3) := by decide +kernel
theorem dX9_ends_61 : decode cX9_ends 61 = .ok (.iload_n 3, 1) := by decide +kernel
theorem dX9_ends_62 : decode cX9_ends 62 = .ok (.ireturn, 1) := by decide +kernel
theorem dX9_cut_0 : decode cX9_cut 0 = .ok (.aload_n 0, 1) := by decide +kernel
theorem dX9_cut_1 : decode cX9_cut 1 = .ok (.iload_n 1, 1) := by decide +kernel
theorem dX9_cut_2 : decode cX9_cut 2 = .ok (.iload_n 2, 1) := by decide +kernel
theorem dX9_cut_3 : decode cX9_cut 3 = .ok (.iload_n 3, 1) := by decide +kernel
theorem dX9_cut_4 : decode cX9_cut 4 = .ok (.invokevirtual 234, 3) := by decide +kernel
theorem dX9_cut_7 : decode cX9_cut 7 = .ok (.ifCond .eq 14, 3) := by decide +kernel
theorem dX9_cut_10 : decode cX9_cut 10 = .ok (.aload_n 0, 1) := by decide +kernel
theorem dX9_cut_11 : decode cX9_cut 11 = .ok (.iload 4, 2) := by decide +kernel
theorem dX9_cut_13 : decode cX9_cut 13 = .ok (.iconst 0, 1) := by decide +kernel
theorem dX9_cut_14 : decode cX9_cut 14 = .ok (.iconst 1, 1) := by decide +kernel
theorem dX9_cut_15 : decode cX9_cut 15 = .ok (.invokevirtual 133, 3) := by decide +kernel
theorem dX9_cut_18 : decode cX9_cut 18 = .ok (.ifCond .ne 5, 3) := by decide +kernel
theorem dX9_cut_21 : decode cX9_cut 21 = .ok (.iconst (-1), 1) := by decide +kernel
theorem dX9_cut_22 : decode cX9_cut 22 = .ok (.ireturn, 1) := by decide +kernel
theorem dX9_cut_23 : decode cX9_cut 23 = .ok (.aload_n 0, 1) := by decide +kernel
theorem dX9_cut_24 : decode cX9_cut 24 = .ok (.invokevirtual 211, 3) := by decide +kernel
theorem dX9_cut_27 : decode cX9_cut 27 = .ok (.aload_n 0, 1) := by decide +kernel
theorem dX9_cut_28 : decode cX9_cut 28 = .ok (.iload_n 1, 1) := by decide +kernel
theorem dX9_cut_29 : decode cX9_cut 29 = .ok (.iload_n 2, 1) := by decide +kernel
theorem dX9_cut_30 : decode cX9_cut 30 = .ok (.iload_n 3, 1) := by decide +kernel
theorem dX9_cut_31 : decode cX9_cut 31 = .ok (.invokevirtual 227, 3) := by decide +kernel
theorem dX9_cut_34 : decode cX9_cut 34 = .ok (.ifCond .lt 6, 3) := by decide +kernel
theorem dX9_cut_37 : decode cX9_cut 37 = .ok (.bipush (-5), 2) := by decide +kernel
theorem dX9_cut_39 : decode cX9_cut 39 = .ok (.ireturn, 1) := by decide +kernel
theorem dX9_cut_40 : decode cX9_cut 40 = .ok (.aload_n 0, 1) := by decide +kernel
theorem dX9_cut_41 : decode cX9_cut 41 = .ok (.iload_n 1, 1) := by decide +kernel
theorem dX9_cut_42 : decode cX9_cut 42 = .ok (.iload_n 3, 1) := by decide +kernel
theorem dX9_cut_43 : decode cX9_cut 43 = .ok (.invokevirtual 230, 3) := by decide +kernel
theorem dX9_cut_46 : decode cX9_cut 46 = .ok (.bipush (-5), 2) := by decide +kernel
theorem dX9_cut_48 : decode cX9_cut 48 = .ok (.istore 5, 2) := by decide +kernel
theorem dX9_cut_50 : decode cX9_cut 50 = .ok (.iconst 0, 1) := by decide +kernel
theorem dX9_cut_51 : decode cX9_cut 51 = .ok (.istore 6, 2) := by decide +kernel
theorem dX9_cut_53 : decode cX9_cut 53 = .ok (.iload 6, 2) := by decide +kernel
theorem dX9_cut_55 : decode cX9_cut 55 = .ok (.iconst 1, 1) := by decide +kernel
theorem dX9_cut_56 : decode cX9_cut 56 = .ok (.aload_n 0, 1) := by decide +kernel
theorem dX9_cut_57 : decode cX9_cut 57 = .ok (.getfield 32, 3) := by decide +kernel
theorem dX9_cut_60 : decode cX9_cut 60 = .ok (.iload_n 1, 1) := by decide +kernel
theorem dX9_cut_61 : decode cX9_cut 61 = .ok (.iaload, 1) := by decide +kernel
theorem dX9_cut_62 : decode cX9_cut 62 = .ok (.ishl, 1) := by decide +kernel
theorem dX9_cut_63 : decode cX9_cut 63 = .ok (.if_icmp .ge 48, 3) := by decide +kernel
theorem dX9_cut_66 : decode cX9_cut 66 = .ok (.iload 5, 2) := by decide +kernel
theorem dX9_cut_68 : decode cX9_cut 68 = .ok (.ifCond .lt 18, 3) := by decide +kernel
theorem dX9_cut_71 : decode cX9_cut 71 = .ok (.aload_n 0, 1) := by decide +kernel
theorem dX9_cut_72 : decode cX9_cut 72 = .ok (.iload 6, 2) := by decide +kernel
theorem dX9_cut_74 : decode cX9_cut 74 = .ok (.invokevirtual 240, 3) := by decide +kernel
theorem dX9_cut_77 : decode cX9_cut 77 = .ok (.aload_n 0, 1) := by decide +kernel
theorem dX9_cut_78 : decode cX9_cut 78 = .ok (.iload 5, 2) := by decide +kernel
theorem dX9_cut_80 : decode cX9_cut 80 = .ok (.invokevirtual 240, 3) := by decide +kernel
theorem dX9_cut_83 : decode cX9_cut 83 = .ok (.if_icmp .ge 22, 3) := by decide +kernel
theorem dX9_cut_86 : decode cX9_cut 86 = .ok (.iload_n 2, 1) := by decide +kernel
theorem dX9_cut_87 : decode cX9_cut 87 = .ok (.iconst 1, 1) := by decide +kernel
theorem dX9_cut_88 : decode cX9_cut 88 = .ok (.if_icmp .eq 13, 3) := by decide +kernel
theorem dX9_cut_91 : decode cX9_cut 91 = .ok (.aload_n 0, 1) := by decide +kernel
theorem dX9_cut_92 : decode cX9_cut 92 = .ok (.iload_n 1, 1) := by decide +kernel
theorem dX9_cut_93 : decode cX9_cut 93 = .ok (.iload 6, 2) := by decide +kernel
theorem dX9_cut_95 : decode cX9_cut 95 = .ok (.invokevirtual 224, 3) := by decide +kernel
theorem dX9_cut_98 : decode cX9_cut 98 = .ok (.ifCond .eq 7, 3) := by decide +kernel
theorem dX9_cut_101 : decode cX9_cut 101 = .ok (.iload 6, 2) := by decide +kernel
theorem dX9_cut_103 : decode cX9_cut 103 = .ok (.istore 5, 2) := by decide +kernel
theorem dX9_cut_105 : decode cX9_cut 105 = .ok (.iinc 6 1, 3) := by decide +kernel
theorem dX9_cut_108 : decode cX9_cut 108 = .ok (.goto (-55), 3) := by decide +kernel
theorem dX9_cut_111 : decode cX9_cut 111 = .ok (.iload 4, 2) := by decide +kernel
theorem dX9_cut_113 : decode cX9_cut 113 = .ok (.ifCond .ne 6, 3) := by decide +kernel
theorem dX9_cut_116 : decode cX9_cut 116 = .ok (.iload 5, 2) := by decide +kernel
theorem dX9_cut_118 : decode cX9_cut 118 = .ok (.ireturn, 1) := by decide +kernel
theorem dX9_cut_119 : decode cX9_cut 119 = .ok (.aload_n 0, 1) := by decide +kernel
theorem dX9_cut_120 : decode cX9_cut 120 = .ok (.getfield 29, 3) := by decide +kernel
theorem dX9_cut_123 : decode cX9_cut 123 = .ok (.iload_n 1, 1) := by decide +kernel
theorem dX9_cut_124 : decode cX9_cut 124 = .ok (.iaload, 1) := by decide +kernel
theorem dX9_cut_125 : decode cX9_cut 125 = .ok (.istore 6, 2) := by decide +kernel
theorem dX9_cut_127 : decode cX9_cut 127 = .ok (.iconst 0, 1) := by decide +kernel
theorem dX9_cut_128 : decode cX9_cut 128 = .ok (.istore 7, 2) := by decide +kernel
theorem dX9_cut_130 : decode cX9_cut 130 = .ok (.iload 7, 2) := by decide +kernel
theorem dX9_cut_132 : decode cX9_cut 132 = .ok (.aload_n 0, 1) := by decide +kernel
theorem dX9_cut_133 : decode cX9_cut 133 = .ok (.getfield 32, 3) := by decide +kernel
theorem dX9_cut_136 : decode cX9_cut 136 = .ok (.iload_n 1, 1) := by decide +kernel
theorem dX9_cut_137 : decode cX9_cut 137 = .ok (.iaload, 1) := by decide +kernel
theorem dX9_cut_138 : decode cX9_cut 138 = .ok (.if_icmp .ge 47, 3) := by decide +kernel
theorem dX9_cut_141 : decode cX9_cut 141 = .ok (.iload 6, 2) := by decide +kernel
theorem dX9_cut_143 : decode cX9_cut 143 = .ok (.aload_n 0, 1) := by decide +kernel
theorem dX9_cut_144 : decode cX9_cut 144 = .ok (.iload 5, 2) := by decide +kernel
theorem dX9_cut_146 : decode cX9_cut 146 = .ok (.iload 7, 2) := by decide +kernel
theorem dX9_cut_148 : decode cX9_cut 148 = .ok (.invokevirtual 189, 3) := by decide +kernel
theorem dX9_cut_151 : decode cX9_cut 151 = .ok (.ifCond .eq 24, 3) := by decide +kernel
theorem dX9_cut_154 : decode cX9_cut 154 = .ok (.aload_n 0, 1) := by decide +kernel
theorem dX9_cut_155 : decode cX9_cut 155 = .ok (.getfield 29, 3) := by decide +kernel
theorem dX9_cut_158 : decode cX9_cut 158 = .ok (.aload_n 0, 1) := by decide +kernel
theorem dX9_cut_159 : decode cX9_cut 159 = .ok (.getfield 35, 3) := by decide +kernel
theorem dX9_cut_162 : decode cX9_cut 162 = .ok (.iconst 4, 1) := by decide +kernel
theorem dX9_cut_163 : decode cX9_cut 163 = .ok (.iload_n 1, 1) := by decide +kernel
theorem dX9_cut_164 : decode cX9_cut 164 = .ok (.imul, 1) := by decide +kernel
theorem dX9_cut_165 : decode cX9_cut 165 = .ok (.iload 7, 2) := by decide +kernel
theorem dX9_cut_167 : decode cX9_cut 167 = .ok (.iadd, 1) := by decide +kernel
theorem dX9_cut_168 : decode cX9_cut 168 = .ok (.iaload, 1) := by decide +kernel
theorem dX9_cut_169 : decode cX9_cut 169 = .ok (.iaload, 1) := by decide +kernel
theorem dX9_cut_170 : decode cX9_cut 170 = .ok (.iconst (-1), 1) := by decide +kernel
theorem dX9_cut_171 : decode cX9_cut 171 = .ok (.ixor, 1) := by decide +kernel
theorem dX9_cut_172 : decode cX9_cut 172 = .ok (.goto 4, 3) := by decide +kernel
theorem dX9_cut_175 : decode cX9_cut 175 = .ok (.iconst (-1), 1) := by decide +kernel
theorem dX9_cut_176 : decode cX9_cut 176 = .ok (.iand, 1) := by decide +kernel
theorem dX9_cut_177 : decode cX9_cut 177 = .ok (.istore 6, 2) := by decide +kernel
theorem dX9_cut_179 : decode cX9_cut 179 = .ok (.iinc 7 1, 3) := by decide +kernel
theorem dX9_cut_182 : decode cX9_cut 182 = .ok (.goto (-52), 3) := by decide +kernel
theorem dX9_cut_185 : decode cX9_cut 185 = .ok (.iload 6, 2) := by decide +kernel
theorem dX9_cut_187 : decode cX9_cut 187 = .ok (.ireturn, 1) := by decide +kernel
theorem dX9_opened_0 : decode cX9_opened 0 = .ok (.aload_n 0, 1) := by decide +kernel
theorem dX9_opened_1 : decode cX9_opened 1 = .ok (.iload_n 1, 1) := by decide +kernel
theorem dX9_opened_2 : decode cX9_opened 2 = .ok (.invokevirtual 137, 3) := by decide +kernel
theorem dX9_opened_5 : decode cX9_opened 5 = .ok (.ifCond .eq 11, 3) := by decide +kernel
theorem dX9_opened_8 : decode cX9_opened 8 = .ok (.aload_n 0, 1) := by decide +kernel
theorem dX9_opened_9 : decode cX9_opened 9 = .ok (.iload_n 2, 1) := by decide +kernel
theorem dX9_opened_10 : decode cX9_opened 10 = .ok (.invokevirtual 177, 3) := by decide +kernel
theorem dX9_opened_13 : decode cX9_opened 13 = .ok (.ifCond .ne 5, 3) := by decide +kernel
theorem dX9_opened_16 : decode cX9_opened 16 = .ok (.iconst (-1), 1) := by decide +kernel
theorem dX9_opened_17 : decode cX9_opened 17 = .ok (.ireturn, 1) := by decide +kernel
theorem dX9_opened_18 : decode cX9_opened 18 = .ok (.aload_n 0, 1) := by decide +kernel
theorem dX9_opened_19 : decode cX9_opened 19 = .ok (.invokevirtual 211, 3) := by decide +kernel
theorem dX9_opened_22 : decode cX9_opened 22 = .ok (.aload_n 0, 1) := by decide +kernel
theorem dX9_opened_23 : decode cX9_opened 23 = .ok (.aload_n 0, 1) := by decide +kernel
theorem dX9_opened_24 : decode cX9_opened 24 = .ok (.getfield 7, 3) := by decide +kernel
theorem dX9_opened_27 : decode cX9_opened 27 = .ok (.iload_n 2, 1) := by decide +kernel
theorem dX9_opened_28 : decode cX9_opened 28 = .ok (.invokevirtual 230, 3) := by decide +kernel
theorem dX9_opened_31 : decode cX9_opened 31 = .ok (.aload_n 0, 1) := by decide +kernel
theorem dX9_opened_32 : decode cX9_opened 32 = .ok (.getfield 99, 3) := by decide +kernel
theorem dX9_opened_35 : decode cX9_opened 35 = .ok (.iload_n 1, 1) := by decide +kernel
theorem dX9_opened_36 : decode cX9_opened 36 = .ok (.baload, 1) := by decide +kernel
theorem dX9_opened_37 : decode cX9_opened 37 = .ok (.ifCond .ne 6, 3) := by decide +kernel
theorem dX9_opened_40 : decode cX9_opened 40 = .ok (.bipush (-3), 2) := by decide +kernel
theorem dX9_opened_42 : decode cX9_opened 42 = .ok (.ireturn, 1) := by decide +kernel
theorem dX9_opened_43 : decode cX9_opened 43 = .ok (.iconst 0, 1) := by decide +kernel
theorem dX9_opened_44 : decode cX9_opened 44 = .ok (.istore_n 3, 1) := by decide +kernel
theorem dX9_opened_45 : decode cX9_opened 45 = .ok (.iconst 0, 1) := by decide +kernel
theorem dX9_opened_46 : decode cX9_opened 46 = .ok (.istore 4, 2) := by decide +kernel
theorem dX9_opened_48 : decode cX9_opened 48 = .ok (.iload 4, 2) := by decide +kernel
theorem dX9_opened_50 : decode cX9_opened 50 = .ok (.aload_n 0, 1) := by decide +kernel
theorem dX9_opened_51 : decode cX9_opened 51 = .ok (.getfield 7, 3) := by decide +kernel
theorem dX9_opened_54 : decode cX9_opened 54 = .ok (.if_icmp .ge 30, 3) := by decide +kernel
theorem dX9_opened_57 : decode cX9_opened 57 = .ok (.iload_n 3, 1) := by decide +kernel
theorem dX9_opened_58 : decode cX9_opened 58 = .ok (.aload_n 0, 1) := by decide +kernel
theorem dX9_opened_59 : decode cX9_opened 59 = .ok (.getfield 99, 3) := by decide +kernel
theorem dX9_opened_62 : decode cX9_opened 62 = .ok (.iload 4, 2) := by decide +kernel
theorem dX9_opened_64 : decode cX9_opened 64 = .ok (.baload, 1) := by decide +kernel
theorem dX9_opened_65 : decode cX9_opened 65 = .ok (.ifCond .eq 10, 3) := by decide +kernel
theorem dX9_opened_68 : decode cX9_opened 68 = .ok (.iconst 1, 1) := by decide +kernel
theorem dX9_opened_69 : decode cX9_opened 69 = .ok (.iload 4, 2) := by decide +kernel
theorem dX9_opened_71 : decode cX9_opened 71 = .ok (.ishl, 1) := by decide +kernel
theorem dX9_opened_72 : decode cX9_opened 72 = .ok (.goto 4, 3) := by decide +kernel
theorem dX9_opened_75 : decode cX9_opened 75 = .ok (.iconst 0, 1) := by decide +kernel
theorem dX9_opened_76 : decode cX9_opened 76 = .ok (.ior, 1) := by decide +kernel
theorem dX9_opened_77 : decode cX9_opened 77 = .ok (.istore_n 3, 1) := by decide +kernel
theorem dX9_opened_78 : decode cX9_opened 78 = .ok (.iinc 4 1, 3) := by decide +kernel
theorem dX9_opened_81 : decode cX9_opened 81 = .ok (.goto (-33), 3) := by decide +kernel
theorem dX9_opened_84 : decode cX9_opened 84 = .ok (.aload_n 0, 1) := by decide +kernel
theorem dX9_opened_85 : decode cX9_opened 85 = .ok (.aload_n 0, 1) := by decide +kernel
theorem dX9_opened_86 : decode cX9_opened 86 = .ok (.getfield 13, 3) := by decide +kernel
theorem dX9_opened_89 : decode cX9_opened 89 = .ok (.aload_n 0, 1) := by decide +kernel
theorem dX9_opened_90 : decode cX9_opened 90 = .ok (.getfield 29, 3) := by decide +kernel
theorem dX9_opened_93 : decode cX9_opened 93 = .ok (.iload_n 1, 1) := by decide +kernel
theorem dX9_opened_94 : decode cX9_opened 94 = .ok (.iaload, 1) := by decide +kernel
theorem dX9_opened_95 : decode cX9_opened 95 = .ok (.ior, 1) := by decide +kernel
theorem dX9_opened_96 : decode cX9_opened 96 = .ok (.putfield 83, 3) := by decide +kernel
theorem dX9_opened_99 : decode cX9_opened 99 = .ok (.aload_n 0, 1) := by decide +kernel
theorem dX9_opened_100 : decode cX9_opened 100 = .ok (.getfield 92, 3) := by decide +kernel
theorem dX9_opened_103 : decode cX9_opened 103 = .ok (.aload_n 0, 1) := by decide +kernel
theorem dX9_opened_104 : decode cX9_opened 104 = .ok (.getfield 26, 3) := by decide +kernel
theorem dX9_opened_107 : decode cX9_opened 107 = .ok (.iload_n 1, 1) := by decide +kernel
theorem dX9_opened_108 : decode cX9_opened 108 = .ok (.iaload, 1) := by decide +kernel
theorem dX9_opened_109 : decode cX9_opened 109 = .ok (.iconst 1, 1) := by decide +kernel
theorem dX9_opened_110 : decode cX9_opened 110 = .ok (.iastore, 1) := by decide +kernel
theorem dX9_opened_111 : decode cX9_opened 111 = .ok (.aload_n 0, 1) := by decide +kernel
theorem dX9_opened_112 : decode cX9_opened 112 = .ok (.aload_n 0, 1) := by decide +kernel
theorem dX9_opened_113 : decode cX9_opened 113 = .ok (.getfield 7, 3) := by decide +kernel
theorem dX9_opened_116 : decode cX9_opened 116 = .ok (.iload_n 2, 1) := by decide +kernel
theorem dX9_opened_117 : decode cX9_opened 117 = .ok (.invokevirtual 230, 3) := by decide +kernel
theorem dX9_opened_120 : decode cX9_opened 120 = .ok (.iconst 0, 1) := by decide +kernel
theorem dX9_opened_121 : decode cX9_opened 121 = .ok (.istore 4, 2) := by decide +kernel
theorem dX9_opened_123 : decode cX9_opened 123 = .ok (.iconst 0, 1) := by decide +kernel
theorem dX9_opened_124 : decode cX9_opened 124 = .ok (.istore 5, 2) := by decide +kernel
theorem dX9_opened_126 : decode cX9_opened 126 = .ok (.iload 5, 2) := by decide +kernel
theorem dX9_opened_128 : decode cX9_opened 128 = .ok (.aload_n 0, 1) := by decide +kernel
theorem dX9_opened_129 : decode cX9_opened 129 = .ok (.getfield 7, 3) := by decide +kernel
theorem dX9_opened_132 : decode cX9_opened 132 = .ok (.if_icmp .ge 48, 3) := by decide +kernel
theorem dX9_opened_135 : decode cX9_opened 135 = .ok (.iload 4, 2) := by decide +kernel
theorem dX9_opened_137 : decode cX9_opened 137 = .ok (.iload 5, 2) := by decide +kernel
theorem dX9_opened_139 : decode cX9_opened 139 = .ok (.iload_n 1, 1) := by decide +kernel
theorem dX9_opened_140 : decode cX9_opened 140 = .ok (.if_icmp .eq 30, 3) := by decide +kernel
theorem dX9_opened_143 : decode cX9_opened 143 = .ok (.aload_n 0, 1) := by decide +kernel
theorem dX9_opened_144 : decode cX9_opened 144 = .ok (.getfield 99, 3) := by decide +kernel
theorem dX9_opened_147 : decode cX9_opened 147 = .ok (.iload 5, 2) := by decide +kernel
theorem dX9_opened_149 : decode cX9_opened 149 = .ok (.baload, 1) := by decide +kernel
theorem dX9_opened_150 : decode cX9_opened 150 = .ok (.ifCond .eq 20, 3) := by decide +kernel
theorem dX9_opened_153 : decode cX9_opened 153 = .ok (.aload_n 0, 1) := by decide +kernel
theorem dX9_opened_154 : decode cX9_opened 154 = .ok (.iload_n 3, 1) := by decide +kernel
theorem dX9_opened_155 : decode cX9_opened 155 = .ok (.iload 5, 2) := by decide +kernel
theorem dX9_opened_157 : decode cX9_opened 157 = .ok (.invokevirtual 189, 3) := by decide +kernel
theorem dX9_opened_160 : decode cX9_opened 160 = .ok (.ifCond .ne 10, 3) := by decide +kernel
theorem dX9_opened_163 : decode cX9_opened 163 = .ok (.iconst 1, 1) := by decide +kernel
theorem dX9_opened_164 : decode cX9_opened 164 = .ok (.iload 5, 2) := by decide +kernel
theorem dX9_opened_166 : decode cX9_opened 166 = .ok (.ishl, 1) := by decide +kernel
theorem dX9_opened_167 : decode cX9_opened 167 = .ok (.goto 4, 3) := by decide +kernel
theorem dX9_opened_170 : decode cX9_opened 170 = .ok (.iconst 0, 1) := by decide +kernel
theorem dX9_opened_171 : decode cX9_opened 171 = .ok (.ior, 1) := by decide +kernel
theorem dX9_opened_172 : decode cX9_opened 172 = .ok (.istore 4, 2) := by decide +kernel
theorem dX9_opened_174 : decode cX9_opened 174 = .ok (.iinc 5 1, 3) := by decide +kernel
theorem dX9_opened_177 : decode cX9_opened 177 = .ok (.goto (-51), 3) := by decide +kernel
theorem dX9_opened_180 : decode cX9_opened 180 = .ok (.iload 4, 2) := by decide +kernel
theorem dX9_opened_182 : decode cX9_opened 182 = .ok (.ireturn, 1) := by decide +kernel
theorem dX9_provedOf_0 : decode cX9_provedOf 0 = .ok (.iconst (-1), 1) := by decide +kernel
theorem dX9_provedOf_1 : decode cX9_provedOf 1 = .ok (.istore_n 2, 1) := by decide +kernel
theorem dX9_provedOf_2 : decode cX9_provedOf 2 = .ok (.aload_n 0, 1) := by decide +kernel
theorem dX9_provedOf_3 : decode cX9_provedOf 3 = .ok (.aload_n 0, 1) := by decide +kernel
theorem dX9_provedOf_4 : decode cX9_provedOf 4 = .ok (.getfield 13, 3) := by decide +kernel
theorem dX9_provedOf_7 : decode cX9_provedOf 7 = .ok (.putfield 83, 3) := by decide +kernel
theorem dX9_provedOf_10 : decode cX9_provedOf 10 = .ok (.aload_n 0, 1) := by decide +kernel
theorem dX9_provedOf_11 : decode cX9_provedOf 11 = .ok (.getfield 83, 3) := by decide +kernel
theorem dX9_provedOf_14 : decode cX9_provedOf 14 = .ok (.iload_n 2, 1) := by decide +kernel
theorem dX9_provedOf_15 : decode cX9_provedOf 15 = .ok (.if_icmp .eq 64, 3) := by decide +kernel
theorem dX9_provedOf_18 : decode cX9_provedOf 18 = .ok (.aload_n 0, 1) := by decide +kernel
theorem dX9_provedOf_19 : decode cX9_provedOf 19 = .ok (.getfield 83, 3) := by decide +kernel
theorem dX9_provedOf_22 : decode cX9_provedOf 22 = .ok (.istore_n 2, 1) := by decide +kernel
theorem dX9_provedOf_23 : decode cX9_provedOf 23 = .ok (.aload_n 0, 1) := by decide +kernel
theorem dX9_provedOf_24 : decode cX9_provedOf 24 = .ok (.aload_n 0, 1) := by decide +kernel
theorem dX9_provedOf_25 : decode cX9_provedOf 25 = .ok (.getfield 7, 3) := by decide +kernel
theorem dX9_provedOf_28 : decode cX9_provedOf 28 = .ok (.iload_n 1, 1) := by decide +kernel
theorem dX9_provedOf_29 : decode cX9_provedOf 29 = .ok (.invokevirtual 230, 3) := by decide +kernel
theorem dX9_provedOf_32 : decode cX9_provedOf 32 = .ok (.iconst 0, 1) := by decide +kernel
theorem dX9_provedOf_33 : decode cX9_provedOf 33 = .ok (.istore_n 3, 1) := by decide +kernel
theorem dX9_provedOf_34 : decode cX9_provedOf 34 = .ok (.iload_n 3, 1) := by decide +kernel
theorem dX9_provedOf_35 : decode cX9_provedOf 35 = .ok (.aload_n 0, 1) := by decide +kernel
theorem dX9_provedOf_36 : decode cX9_provedOf 36 = .ok (.getfield 7, 3) := by decide +kernel
theorem dX9_provedOf_39 : decode cX9_provedOf 39 = .ok (.if_icmp .ge 37, 3) := by decide +kernel
theorem dX9_provedOf_42 : decode cX9_provedOf 42 = .ok (.aload_n 0, 1) := by decide +kernel
theorem dX9_provedOf_43 : decode cX9_provedOf 43 = .ok (.dup, 1) := by decide +kernel
theorem dX9_provedOf_44 : decode cX9_provedOf 44 = .ok (.getfield 83, 3) := by decide +kernel
theorem dX9_provedOf_47 : decode cX9_provedOf 47 = .ok (.aload_n 0, 1) := by decide +kernel
theorem dX9_provedOf_48 : decode cX9_provedOf 48 = .ok (.getfield 99, 3) := by decide +kernel
theorem dX9_provedOf_51 : decode cX9_provedOf 51 = .ok (.iload_n 3, 1) := by decide +kernel
theorem dX9_provedOf_52 : decode cX9_provedOf 52 = .ok (.baload, 1) := by decide +kernel
theorem dX9_provedOf_53 : decode cX9_provedOf 53 = .ok (.ifCond .eq 12, 3) := by decide +kernel
theorem dX9_provedOf_56 : decode cX9_provedOf 56 = .ok (.aload_n 0, 1) := by decide +kernel
theorem dX9_provedOf_57 : decode cX9_provedOf 57 = .ok (.getfield 29, 3) := by decide +kernel
theorem dX9_provedOf_60 : decode cX9_provedOf 60 = .ok (.iload_n 3, 1) := by decide +kernel
theorem dX9_provedOf_61 : decode cX9_provedOf 61 = .ok (.iaload, 1) := by decide +kernel
theorem dX9_provedOf_62 : decode cX9_provedOf 62 = .ok (.goto 4, 3) := by decide +kernel
theorem dX9_provedOf_65 : decode cX9_provedOf 65 = .ok (.iconst 0, 1) := by decide +kernel
theorem dX9_provedOf_66 : decode cX9_provedOf 66 = .ok (.ior, 1) := by decide +kernel
theorem dX9_provedOf_67 : decode cX9_provedOf 67 = .ok (.putfield 83, 3) := by decide +kernel
theorem dX9_provedOf_70 : decode cX9_provedOf 70 = .ok (.iinc 3 1, 3) := by decide +kernel
theorem dX9_provedOf_73 : decode cX9_provedOf 73 = .ok (.goto (-39), 3) := by decide +kernel
theorem dX9_provedOf_76 : decode cX9_provedOf 76 = .ok (.goto (-66), 3) := by decide +kernel
theorem dX9_provedOf_79 : decode cX9_provedOf 79 = .ok (.aload_n 0, 1) := by decide +kernel
theorem dX9_provedOf_80 : decode cX9_provedOf 80 = .ok (.getfield 83, 3) := by decide +kernel
theorem dX9_provedOf_83 : decode cX9_provedOf 83 = .ok (.ireturn, 1) := by decide +kernel
theorem dX9_proved_0 : decode cX9_proved 0 = .ok (.aload_n 0, 1) := by decide +kernel
theorem dX9_proved_1 : decode cX9_proved 1 = .ok (.iload_n 1, 1) := by decide +kernel
theorem dX9_proved_2 : decode cX9_proved 2 = .ok (.invokevirtual 177, 3) := by decide +kernel
theorem dX9_proved_5 : decode cX9_proved 5 = .ok (.ifCond .ne 5, 3) := by decide +kernel
theorem dX9_proved_8 : decode cX9_proved 8 = .ok (.iconst (-1), 1) := by decide +kernel
theorem dX9_proved_9 : decode cX9_proved 9 = .ok (.ireturn, 1) := by decide +kernel
theorem dX9_proved_10 : decode cX9_proved 10 = .ok (.aload_n 0, 1) := by decide +kernel
theorem dX9_proved_11 : decode cX9_proved 11 = .ok (.invokevirtual 211, 3) := by decide +kernel
theorem dX9_proved_14 : decode cX9_proved 14 = .ok (.aload_n 0, 1) := by decide +kernel
theorem dX9_proved_15 : decode cX9_proved 15 = .ok (.iload_n 1, 1) := by decide +kernel
theorem dX9_proved_16 : decode cX9_proved 16 = .ok (.invokevirtual 243, 3) := by decide +kernel
theorem dX9_proved_19 : decode cX9_proved 19 = .ok (.ireturn, 1) := by decide +kernel
theorem dX9_needed_0 : decode cX9_needed 0 = .ok (.aload_n 0, 1) := by decide +kernel
theorem dX9_needed_1 : decode cX9_needed 1 = .ok (.iload_n 2, 1) := by decide +kernel
theorem dX9_needed_2 : decode cX9_needed 2 = .ok (.invokevirtual 177, 3) := by decide +kernel
theorem dX9_needed_5 : decode cX9_needed 5 = .ok (.ifCond .ne 5, 3) := by decide +kernel
theorem dX9_needed_8 : decode cX9_needed 8 = .ok (.iconst (-1), 1) := by decide +kernel
theorem dX9_needed_9 : decode cX9_needed 9 = .ok (.ireturn, 1) := by decide +kernel
theorem dX9_needed_10 : decode cX9_needed 10 = .ok (.aload_n 0, 1) := by decide +kernel
theorem dX9_needed_11 : decode cX9_needed 11 = .ok (.iload_n 1, 1) := by decide +kernel
theorem dX9_needed_12 : decode cX9_needed 12 = .ok (.iconst 0, 1) := by decide +kernel
theorem dX9_needed_13 : decode cX9_needed 13 = .ok (.sipush 1023, 3) := by decide +kernel
theorem dX9_needed_16 : decode cX9_needed 16 = .ok (.invokevirtual 133, 3) := by decide +kernel
theorem dX9_needed_19 : decode cX9_needed 19 = .ok (.ifCond .ne 6, 3) := by decide +kernel
theorem dX9_needed_22 : decode cX9_needed 22 = .ok (.bipush (-2), 2) := by decide +kernel
theorem dX9_needed_24 : decode cX9_needed 24 = .ok (.ireturn, 1) := by decide +kernel
theorem dX9_needed_25 : decode cX9_needed 25 = .ok (.aload_n 0, 1) := by decide +kernel
theorem dX9_needed_26 : decode cX9_needed 26 = .ok (.invokevirtual 211, 3) := by decide +kernel
theorem dX9_needed_29 : decode cX9_needed 29 = .ok (.iload_n 1, 1) := by decide +kernel
theorem dX9_needed_30 : decode cX9_needed 30 = .ok (.aload_n 0, 1) := by decide +kernel
theorem dX9_needed_31 : decode cX9_needed 31 = .ok (.iload_n 2, 1) := by decide +kernel
theorem dX9_needed_32 : decode cX9_needed 32 = .ok (.invokevirtual 243, 3) := by decide +kernel
theorem dX9_needed_35 : decode cX9_needed 35 = .ok (.iconst (-1), 1) := by decide +kernel
theorem dX9_needed_36 : decode cX9_needed 36 = .ok (.ixor, 1) := by decide +kernel
theorem dX9_needed_37 : decode cX9_needed 37 = .ok (.iand, 1) := by decide +kernel
theorem dX9_needed_38 : decode cX9_needed 38 = .ok (.ifCond .eq 6, 3) := by decide +kernel
theorem dX9_needed_41 : decode cX9_needed 41 = .ok (.bipush (-5), 2) := by decide +kernel
theorem dX9_needed_43 : decode cX9_needed 43 = .ok (.ireturn, 1) := by decide +kernel
theorem dX9_needed_44 : decode cX9_needed 44 = .ok (.iconst 0, 1) := by decide +kernel
theorem dX9_needed_45 : decode cX9_needed 45 = .ok (.istore_n 3, 1) := by decide +kernel
theorem dX9_needed_46 : decode cX9_needed 46 = .ok (.iconst 0, 1) := by decide +kernel
theorem dX9_needed_47 : decode cX9_needed 47 = .ok (.istore 4, 2) := by decide +kernel
theorem dX9_needed_49 : decode cX9_needed 49 = .ok (.iload 4, 2) := by decide +kernel
theorem dX9_needed_51 : decode cX9_needed 51 = .ok (.aload_n 0, 1) := by decide +kernel
theorem dX9_needed_52 : decode cX9_needed 52 = .ok (.getfield 7, 3) := by decide +kernel
theorem dX9_needed_55 : decode cX9_needed 55 = .ok (.if_icmp .ge 38, 3) := by decide +kernel
theorem dX9_needed_58 : decode cX9_needed 58 = .ok (.aload_n 0, 1) := by decide +kernel
theorem dX9_needed_59 : decode cX9_needed 59 = .ok (.iload 4, 2) := by decide +kernel
theorem dX9_needed_61 : decode cX9_needed 61 = .ok (.putfield 89, 3) := by decide +kernel
theorem dX9_needed_64 : decode cX9_needed 64 = .ok (.iload_n 3, 1) := by decide +kernel
theorem dX9_needed_65 : decode cX9_needed 65 = .ok (.iload_n 1, 1) := by decide +kernel
theorem dX9_needed_66 : decode cX9_needed 66 = .ok (.aload_n 0, 1) := by decide +kernel
theorem dX9_needed_67 : decode cX9_needed 67 = .ok (.iload_n 2, 1) := by decide +kernel
theorem dX9_needed_68 : decode cX9_needed 68 = .ok (.invokevirtual 243, 3) := by decide +kernel
theorem dX9_needed_71 : decode cX9_needed 71 = .ok (.iconst (-1), 1) := by decide +kernel
theorem dX9_needed_72 : decode cX9_needed 72 = .ok (.ixor, 1) := by decide +kernel
theorem dX9_needed_73 : decode cX9_needed 73 = .ok (.iand, 1) := by decide +kernel
theorem dX9_needed_74 : decode cX9_needed 74 = .ok (.ifCond .eq 10, 3) := by decide +kernel
theorem dX9_needed_77 : decode cX9_needed 77 = .ok (.iconst 1, 1) := by decide +kernel
theorem dX9_needed_78 : decode cX9_needed 78 = .ok (.iload 4, 2) := by decide +kernel
theorem dX9_needed_80 : decode cX9_needed 80 = .ok (.ishl, 1) := by decide +kernel
theorem dX9_needed_81 : decode cX9_needed 81 = .ok (.goto 4, 3) := by decide +kernel
theorem dX9_needed_84 : decode cX9_needed 84 = .ok (.iconst 0, 1) := by decide +kernel
theorem dX9_needed_85 : decode cX9_needed 85 = .ok (.ior, 1) := by decide +kernel
theorem dX9_needed_86 : decode cX9_needed 86 = .ok (.istore_n 3, 1) := by decide +kernel
theorem dX9_needed_87 : decode cX9_needed 87 = .ok (.iinc 4 1, 3) := by decide +kernel
theorem dX9_needed_90 : decode cX9_needed 90 = .ok (.goto (-41), 3) := by decide +kernel
theorem dX9_needed_93 : decode cX9_needed 93 = .ok (.iload_n 3, 1) := by decide +kernel
theorem dX9_needed_94 : decode cX9_needed 94 = .ok (.ireturn, 1) := by decide +kernel
theorem dX9_isPlan_0 : decode cX9_isPlan 0 = .ok (.aload_n 0, 1) := by decide +kernel
theorem dX9_isPlan_1 : decode cX9_isPlan 1 = .ok (.invokevirtual 211, 3) := by decide +kernel
theorem dX9_isPlan_4 : decode cX9_isPlan 4 = .ok (.iconst 0, 1) := by decide +kernel
theorem dX9_isPlan_5 : decode cX9_isPlan 5 = .ok (.istore_n 3, 1) := by decide +kernel
theorem dX9_isPlan_6 : decode cX9_isPlan 6 = .ok (.iload_n 3, 1) := by decide +kernel
theorem dX9_isPlan_7 : decode cX9_isPlan 7 = .ok (.iload_n 1, 1) := by decide +kernel
theorem dX9_isPlan_8 : decode cX9_isPlan 8 = .ok (.if_icmp .ge 67, 3) := by decide +kernel
theorem dX9_isPlan_11 : decode cX9_isPlan 11 = .ok (.aload_n 0, 1) := by decide +kernel
theorem dX9_isPlan_12 : decode cX9_isPlan 12 = .ok (.getfield 102, 3) := by decide +kernel
theorem dX9_isPlan_15 : decode cX9_isPlan 15 = .ok (.aload_n 0, 1) := by decide +kernel
theorem dX9_isPlan_16 : decode cX9_isPlan 16 = .ok (.getfield 105, 3) := by decide +kernel
theorem dX9_isPlan_19 : decode cX9_isPlan 19 = .ok (.iload_n 3, 1) := by decide +kernel
theorem dX9_isPlan_20 : decode cX9_isPlan 20 = .ok (.iaload, 1) := by decide +kernel
theorem dX9_isPlan_21 : decode cX9_isPlan 21 = .ok (.iaload, 1) := by decide +kernel
theorem dX9_isPlan_22 : decode cX9_isPlan 22 = .ok (.istore 4, 2) := by decide +kernel
theorem dX9_isPlan_24 : decode cX9_isPlan 24 = .ok (.aload_n 0, 1) := by decide +kernel
theorem dX9_isPlan_25 : decode cX9_isPlan 25 = .ok (.iload 4, 2) := by decide +kernel
theorem dX9_isPlan_27 : decode cX9_isPlan 27 = .ok (.iconst 0, 1) := by decide +kernel
theorem dX9_isPlan_28 : decode cX9_isPlan 28 = .ok (.iload_n 2, 1) := by decide +kernel
theorem dX9_isPlan_29 : decode cX9_isPlan 29 = .ok (.invokevirtual 237, 3) := by decide +kernel
theorem dX9_isPlan_32 : decode cX9_isPlan 32 = .ok (.ifCond .ne 5, 3) := by decide +kernel
theorem dX9_isPlan_35 : decode cX9_isPlan 35 = .ok (.iconst 0, 1) := by decide +kernel
theorem dX9_isPlan_36 : decode cX9_isPlan 36 = .ok (.ireturn, 1) := by decide +kernel
theorem dX9_isPlan_37 : decode cX9_isPlan 37 = .ok (.aload_n 0, 1) := by decide +kernel
theorem dX9_isPlan_38 : decode cX9_isPlan 38 = .ok (.dup, 1) := by decide +kernel
theorem dX9_isPlan_39 : decode cX9_isPlan 39 = .ok (.getfield 83, 3) := by decide +kernel
theorem dX9_isPlan_42 : decode cX9_isPlan 42 = .ok (.aload_n 0, 1) := by decide +kernel
theorem dX9_isPlan_43 : decode cX9_isPlan 43 = .ok (.getfield 29, 3) := by decide +kernel
theorem dX9_isPlan_46 : decode cX9_isPlan 46 = .ok (.iload 4, 2) := by decide +kernel
theorem dX9_isPlan_48 : decode cX9_isPlan 48 = .ok (.iaload, 1) := by decide +kernel
theorem dX9_isPlan_49 : decode cX9_isPlan 49 = .ok (.ior, 1) := by decide +kernel
theorem dX9_isPlan_50 : decode cX9_isPlan 50 = .ok (.putfield 83, 3) := by decide +kernel
theorem dX9_isPlan_53 : decode cX9_isPlan 53 = .ok (.aload_n 0, 1) := by decide +kernel
theorem dX9_isPlan_54 : decode cX9_isPlan 54 = .ok (.getfield 92, 3) := by decide +kernel
theorem dX9_isPlan_57 : decode cX9_isPlan 57 = .ok (.aload_n 0, 1) := by decide +kernel
theorem dX9_isPlan_58 : decode cX9_isPlan 58 = .ok (.getfield 26, 3) := by decide +kernel
theorem dX9_isPlan_61 : decode cX9_isPlan 61 = .ok (.iload 4, 2) := by decide +kernel
theorem dX9_isPlan_63 : decode cX9_isPlan 63 = .ok (.iaload, 1) := by decide +kernel
theorem dX9_isPlan_64 : decode cX9_isPlan 64 = .ok (.dup2, 1) := by decide +kernel
theorem dX9_isPlan_65 : decode cX9_isPlan 65 = .ok (.iaload, 1) := by decide +kernel
theorem dX9_isPlan_66 : decode cX9_isPlan 66 = .ok (.iconst 1, 1) := by decide +kernel
theorem dX9_isPlan_67 : decode cX9_isPlan 67 = .ok (.iadd, 1) := by decide +kernel
theorem dX9_isPlan_68 : decode cX9_isPlan 68 = .ok (.iastore, 1) := by decide +kernel
theorem dX9_isPlan_69 : decode cX9_isPlan 69 = .ok (.iinc 3 1, 3) := by decide +kernel
theorem dX9_isPlan_72 : decode cX9_isPlan 72 = .ok (.goto (-66), 3) := by decide +kernel
theorem dX9_isPlan_75 : decode cX9_isPlan 75 = .ok (.iconst 1, 1) := by decide +kernel
theorem dX9_isPlan_76 : decode cX9_isPlan 76 = .ok (.ireturn, 1) := by decide +kernel
theorem dX9_isOrder_0 : decode cX9_isOrder 0 = .ok (.iload_n 1, 1) := by decide +kernel
theorem dX9_isOrder_1 : decode cX9_isOrder 1 = .ok (.istore_n 3, 1) := by decide +kernel
theorem dX9_isOrder_2 : decode cX9_isOrder 2 = .ok (.iconst 0, 1) := by decide +kernel
theorem dX9_isOrder_3 : decode cX9_isOrder 3 = .ok (.istore 4, 2) := by decide +kernel
theorem dX9_isOrder_5 : decode cX9_isOrder 5 = .ok (.iload_n 2, 1) := by decide +kernel
theorem dX9_isOrder_6 : decode cX9_isOrder 6 = .ok (.iconst 1, 1) := by decide +kernel
theorem dX9_isOrder_7 : decode cX9_isOrder 7 = .ok (.isub, 1) := by decide +kernel
theorem dX9_isOrder_8 : decode cX9_isOrder 8 = .ok (.istore 5, 2) := by decide +kernel
theorem dX9_isOrder_10 : decode cX9_isOrder 10 = .ok (.iload 5, 2) := by decide +kernel
theorem dX9_isOrder_12 : decode cX9_isOrder 12 = .ok (.ifCond .lt 37, 3) := by decide +kernel
theorem dX9_isOrder_15 : decode cX9_isOrder 15 = .ok (.aload_n 0, 1) := by decide +kernel
theorem dX9_isOrder_16 : decode cX9_isOrder 16 = .ok (.getfield 105, 3) := by decide +kernel
theorem dX9_isOrder_19 : decode cX9_isOrder 19 = .ok (.iload 5, 2) := by decide +kernel
theorem dX9_isOrder_21 : decode cX9_isOrder 21 = .ok (.iload_n 3, 1) := by decide +kernel
theorem dX9_isOrder_22 : decode cX9_isOrder 22 = .ok (.iload_n 2, 1) := by decide +kernel
theorem dX9_isOrder_23 : decode cX9_isOrder 23 = .ok (.irem, 1) := by decide +kernel
theorem dX9_isOrder_24 : decode cX9_isOrder 24 = .ok (.iastore, 1) := by decide +kernel
theorem dX9_isOrder_25 : decode cX9_isOrder 25 = .ok (.iload_n 3, 1) := by decide +kernel
theorem dX9_isOrder_26 : decode cX9_isOrder 26 = .ok (.iload_n 2, 1) := by decide +kernel
theorem dX9_isOrder_27 : decode cX9_isOrder 27 = .ok (.idiv, 1) := by decide +kernel
theorem dX9_isOrder_28 : decode cX9_isOrder 28 = .ok (.istore_n 3, 1) := by decide +kernel
theorem dX9_isOrder_29 : decode cX9_isOrder 29 = .ok (.iload 4, 2) := by decide +kernel
theorem dX9_isOrder_31 : decode cX9_isOrder 31 = .ok (.iconst 1, 1) := by decide +kernel
theorem dX9_isOrder_32 : decode cX9_isOrder 32 = .ok (.aload_n 0, 1) := by decide +kernel
theorem dX9_isOrder_33 : decode cX9_isOrder 33 = .ok (.getfield 105, 3) := by decide +kernel
theorem dX9_isOrder_36 : decode cX9_isOrder 36 = .ok (.iload 5, 2) := by decide +kernel
theorem dX9_isOrder_38 : decode cX9_isOrder 38 = .ok (.iaload, 1) := by decide +kernel
theorem dX9_isOrder_39 : decode cX9_isOrder 39 = .ok (.ishl, 1) := by decide +kernel
theorem dX9_isOrder_40 : decode cX9_isOrder 40 = .ok (.ior, 1) := by decide +kernel
theorem dX9_isOrder_41 : decode cX9_isOrder 41 = .ok (.istore 4, 2) := by decide +kernel
theorem dX9_isOrder_43 : decode cX9_isOrder 43 = .ok (.iinc 5 (-1), 3) := by decide +kernel
theorem dX9_isOrder_46 : decode cX9_isOrder 46 = .ok (.goto (-36), 3) := by decide +kernel
theorem dX9_isOrder_49 : decode cX9_isOrder 49 = .ok (.aload_n 0, 1) := by decide +kernel
theorem dX9_isOrder_50 : decode cX9_isOrder 50 = .ok (.iload 4, 2) := by decide +kernel
theorem dX9_isOrder_52 : decode cX9_isOrder 52 = .ok (.invokevirtual 240, 3) := by decide +kernel
theorem dX9_isOrder_55 : decode cX9_isOrder 55 = .ok (.iload_n 2, 1) := by decide +kernel
theorem dX9_isOrder_56 : decode cX9_isOrder 56 = .ok (.if_icmp .ne 7, 3) := by decide +kernel
theorem dX9_isOrder_59 : decode cX9_isOrder 59 = .ok (.iconst 1, 1) := by decide +kernel
theorem dX9_isOrder_60 : decode cX9_isOrder 60 = .ok (.goto 4, 3) := by decide +kernel
theorem dX9_isOrder_63 : decode cX9_isOrder 63 = .ok (.iconst 0, 1) := by decide +kernel
theorem dX9_isOrder_64 : decode cX9_isOrder 64 = .ok (.ireturn, 1) := by decide +kernel
theorem dX9_plan_0 : decode cX9_plan 0 = .ok (.aload_n 0, 1) := by decide +kernel
theorem dX9_plan_1 : decode cX9_plan 1 = .ok (.iload_n 2, 1) := by decide +kernel
theorem dX9_plan_2 : decode cX9_plan 2 = .ok (.invokevirtual 177, 3) := by decide +kernel
theorem dX9_plan_5 : decode cX9_plan 5 = .ok (.ifCond .eq 8, 3) := by decide +kernel
theorem dX9_plan_8 : decode cX9_plan 8 = .ok (.iload_n 3, 1) := by decide +kernel
theorem dX9_plan_9 : decode cX9_plan 9 = .ok (.iconst (-1), 1) := by decide +kernel
theorem dX9_plan_10 : decode cX9_plan 10 = .ok (.if_icmp .ge 5, 3) := by decide +kernel
theorem dX9_plan_13 : decode cX9_plan 13 = .ok (.iconst (-1), 1) := by decide +kernel
theorem dX9_plan_14 : decode cX9_plan 14 = .ok (.ireturn, 1) := by decide +kernel
theorem dX9_plan_15 : decode cX9_plan 15 = .ok (.aload_n 0, 1) := by decide +kernel
theorem dX9_plan_16 : decode cX9_plan 16 = .ok (.iload_n 1, 1) := by decide +kernel
theorem dX9_plan_17 : decode cX9_plan 17 = .ok (.iconst 1, 1) := by decide +kernel
theorem dX9_plan_18 : decode cX9_plan 18 = .ok (.iconst 1, 1) := by decide +kernel
theorem dX9_plan_19 : decode cX9_plan 19 = .ok (.aload_n 0, 1) := by decide +kernel
theorem dX9_plan_20 : decode cX9_plan 20 = .ok (.getfield 7, 3) := by decide +kernel
theorem dX9_plan_23 : decode cX9_plan 23 = .ok (.ishl, 1) := by decide +kernel
theorem dX9_plan_24 : decode cX9_plan 24 = .ok (.iconst 1, 1) := by decide +kernel
theorem dX9_plan_25 : decode cX9_plan 25 = .ok (.isub, 1) := by decide +kernel
theorem dX9_plan_26 : decode cX9_plan 26 = .ok (.invokevirtual 133, 3) := by decide +kernel
theorem dX9_plan_29 : decode cX9_plan 29 = .ok (.ifCond .eq 12, 3) := by decide +kernel
theorem dX9_plan_32 : decode cX9_plan 32 = .ok (.aload_n 0, 1) := by decide +kernel
theorem dX9_plan_33 : decode cX9_plan 33 = .ok (.iload_n 1, 1) := by decide +kernel
theorem dX9_plan_34 : decode cX9_plan 34 = .ok (.invokevirtual 240, 3) := by decide +kernel
theorem dX9_plan_37 : decode cX9_plan 37 = .ok (.iconst 5, 1) := by decide +kernel
theorem dX9_plan_38 : decode cX9_plan 38 = .ok (.if_icmp .le 6, 3) := by decide +kernel
theorem dX9_plan_41 : decode cX9_plan 41 = .ok (.bipush (-2), 2) := by decide +kernel
theorem dX9_plan_43 : decode cX9_plan 43 = .ok (.ireturn, 1) := by decide +kernel
theorem dX9_plan_44 : decode cX9_plan 44 = .ok (.iconst 0, 1) := by decide +kernel
theorem dX9_plan_45 : decode cX9_plan 45 = .ok (.istore 4, 2) := by decide +kernel
theorem dX9_plan_47 : decode cX9_plan 47 = .ok (.iconst 1, 1) := by decide +kernel
theorem dX9_plan_48 : decode cX9_plan 48 = .ok (.istore 5, 2) := by decide +kernel
theorem dX9_plan_50 : decode cX9_plan 50 = .ok (.iconst 0, 1) := by decide +kernel
theorem dX9_plan_51 : decode cX9_plan 51 = .ok (.istore 6, 2) := by decide +kernel
theorem dX9_plan_53 : decode cX9_plan 53 = .ok (.iload 6, 2) := by decide +kernel
theorem dX9_plan_55 : decode cX9_plan 55 = .ok (.aload_n 0, 1) := by decide +kernel
theorem dX9_plan_56 : decode cX9_plan 56 = .ok (.getfield 7, 3) := by decide +kernel
theorem dX9_plan_59 : decode cX9_plan 59 = .ok (.if_icmp .ge 34, 3) := by decide +kernel
theorem dX9_plan_62 : decode cX9_plan 62 = .ok (.aload_n 0, 1) := by decide +kernel
theorem dX9_plan_63 : decode cX9_plan 63 = .ok (.iload_n 1, 1) := by decide +kernel
theorem dX9_plan_64 : decode cX9_plan 64 = .ok (.iload 6, 2) := by decide +kernel
theorem dX9_plan_66 : decode cX9_plan 66 = .ok (.invokevirtual 189, 3) := by decide +kernel
theorem dX9_plan_69 : decode cX9_plan 69 = .ok (.ifCond .ne 6, 3) := by decide +kernel
theorem dX9_plan_72 : decode cX9_plan 72 = .ok (.goto 15, 3) := by decide +kernel
theorem dX9_plan_75 : decode cX9_plan 75 = .ok (.aload_n 0, 1) := by decide +kernel
theorem dX9_plan_76 : decode cX9_plan 76 = .ok (.getfield 102, 3) := by decide +kernel
theorem dX9_plan_79 : decode cX9_plan 79 = .ok (.iload 4, 2) := by decide +kernel
theorem dX9_plan_81 : decode cX9_plan 81 = .ok (.iload 6, 2) := by decide +kernel
theorem dX9_plan_83 : decode cX9_plan 83 = .ok (.iastore, 1) := by decide +kernel
theorem dX9_plan_84 : decode cX9_plan 84 = .ok (.iinc 4 1, 3) := by decide +kernel
theorem dX9_plan_87 : decode cX9_plan 87 = .ok (.iinc 6 1, 3) := by decide +kernel
theorem dX9_plan_90 : decode cX9_plan 90 = .ok (.goto (-37), 3) := by decide +kernel
theorem dX9_plan_93 : decode cX9_plan 93 = .ok (.iconst 0, 1) := by decide +kernel
theorem dX9_plan_94 : decode cX9_plan 94 = .ok (.istore 6, 2) := by decide +kernel
theorem dX9_plan_96 : decode cX9_plan 96 = .ok (.iload 6, 2) := by decide +kernel
theorem dX9_plan_98 : decode cX9_plan 98 = .ok (.iload 4, 2) := by decide +kernel
theorem dX9_plan_100 : decode cX9_plan 100 = .ok (.if_icmp .ge 16, 3) := by decide +kernel
theorem dX9_plan_103 : decode cX9_plan 103 = .ok (.iload 5, 2) := by decide +kernel
theorem dX9_plan_105 : decode cX9_plan 105 = .ok (.iload 4, 2) := by decide +kernel
theorem dX9_plan_107 : decode cX9_plan 107 = .ok (.imul, 1) := by decide +kernel
theorem dX9_plan_108 : decode cX9_plan 108 = .ok (.istore 5, 2) := by decide +kernel
theorem dX9_plan_110 : decode cX9_plan 110 = .ok (.iinc 6 1, 3) := by decide +kernel
theorem dX9_plan_113 : decode cX9_plan 113 = .ok (.goto (-17), 3) := by decide +kernel
theorem dX9_plan_116 : decode cX9_plan 116 = .ok (.iconst 0, 1) := by decide +kernel
theorem dX9_plan_117 : decode cX9_plan 117 = .ok (.istore 6, 2) := by decide +kernel
theorem dX9_plan_119 : decode cX9_plan 119 = .ok (.iload 6, 2) := by decide +kernel
theorem dX9_plan_121 : decode cX9_plan 121 = .ok (.iload 5, 2) := by decide +kernel
theorem dX9_plan_123 : decode cX9_plan 123 = .ok (.if_icmp .ge 61, 3) := by decide +kernel
theorem dX9_plan_126 : decode cX9_plan 126 = .ok (.aload_n 0, 1) := by decide +kernel
theorem dX9_plan_127 : decode cX9_plan 127 = .ok (.iload 6, 2) := by decide +kernel
theorem dX9_plan_129 : decode cX9_plan 129 = .ok (.iload 4, 2) := by decide +kernel
theorem dX9_plan_131 : decode cX9_plan 131 = .ok (.invokevirtual 246, 3) := by decide +kernel
theorem dX9_plan_134 : decode cX9_plan 134 = .ok (.ifCond .eq 44, 3) := by decide +kernel
theorem dX9_plan_137 : decode cX9_plan 137 = .ok (.aload_n 0, 1) := by decide +kernel
theorem dX9_plan_138 : decode cX9_plan 138 = .ok (.iload 4, 2) := by decide +kernel
theorem dX9_plan_140 : decode cX9_plan 140 = .ok (.iload_n 2, 1) := by decide +kernel
theorem dX9_plan_141 : decode cX9_plan 141 = .ok (.invokevirtual 249, 3) := by decide +kernel
theorem dX9_plan_144 : decode cX9_plan 144 = .ok (.ifCond .eq 34, 3) := by decide +kernel
theorem dX9_plan_147 : decode cX9_plan 147 = .ok (.iload_n 3, 1) := by decide +kernel
theorem dX9_plan_148 : decode cX9_plan 148 = .ok (.iconst (-1), 1) := by decide +kernel
theorem dX9_plan_149 : decode cX9_plan 149 = .ok (.if_icmp .ne 7, 3) := by decide +kernel
theorem dX9_plan_152 : decode cX9_plan 152 = .ok (.iconst 1, 1) := by decide +kernel
theorem dX9_plan_153 : decode cX9_plan 153 = .ok (.goto 24, 3) := by decide +kernel
theorem dX9_plan_156 : decode cX9_plan 156 = .ok (.iload_n 3, 1) := by decide +kernel
theorem dX9_plan_157 : decode cX9_plan 157 = .ok (.iload 4, 2) := by decide +kernel
theorem dX9_plan_159 : decode cX9_plan 159 = .ok (.if_icmp .ge 17, 3) := by decide +kernel
theorem dX9_plan_162 : decode cX9_plan 162 = .ok (.aload_n 0, 1) := by decide +kernel
theorem dX9_plan_163 : decode cX9_plan 163 = .ok (.getfield 102, 3) := by decide +kernel
theorem dX9_plan_166 : decode cX9_plan 166 = .ok (.aload_n 0, 1) := by decide +kernel
theorem dX9_plan_167 : decode cX9_plan 167 = .ok (.getfield 105, 3) := by decide +kernel
theorem dX9_plan_170 : decode cX9_plan 170 = .ok (.iload_n 3, 1) := by decide +kernel
theorem dX9_plan_171 : decode cX9_plan 171 = .ok (.iaload, 1) := by decide +kernel
theorem dX9_plan_172 : decode cX9_plan 172 = .ok (.iaload, 1) := by decide +kernel
theorem dX9_plan_173 : decode cX9_plan 173 = .ok (.goto 4, 3) := by decide +kernel
theorem dX9_plan_176 : decode cX9_plan 176 = .ok (.iconst (-1), 1) := by decide +kernel
theorem dX9_plan_177 : decode cX9_plan 177 = .ok (.ireturn, 1) := by decide +kernel
theorem dX9_plan_178 : decode cX9_plan 178 = .ok (.iinc 6 1, 3) := by decide +kernel
theorem dX9_plan_181 : decode cX9_plan 181 = .ok (.goto (-62), 3) := by decide +kernel
theorem dX9_plan_184 : decode cX9_plan 184 = .ok (.iload_n 3, 1) := by decide +kernel
theorem dX9_plan_185 : decode cX9_plan 185 = .ok (.iconst (-1), 1) := by decide +kernel
theorem dX9_plan_186 : decode cX9_plan 186 = .ok (.if_icmp .ne 7, 3) := by decide +kernel
theorem dX9_plan_189 : decode cX9_plan 189 = .ok (.iconst 0, 1) := by decide +kernel
theorem dX9_plan_190 : decode cX9_plan 190 = .ok (.goto 4, 3) := by decide +kernel
theorem dX9_plan_193 : decode cX9_plan 193 = .ok (.iconst (-1), 1) := by decide +kernel
theorem dX9_plan_194 : decode cX9_plan 194 = .ok (.ireturn, 1) := by decide +kernel
theorem dX9_clash_0 : decode cX9_clash 0 = .ok (.aload_n 0, 1) := by decide +kernel
theorem dX9_clash_1 : decode cX9_clash 1 = .ok (.iload_n 1, 1) := by decide +kernel
theorem dX9_clash_2 : decode cX9_clash 2 = .ok (.iload_n 2, 1) := by decide +kernel
theorem dX9_clash_3 : decode cX9_clash 3 = .ok (.iload_n 3, 1) := by decide +kernel
theorem dX9_clash_4 : decode cX9_clash 4 = .ok (.invokevirtual 234, 3) := by decide +kernel
theorem dX9_clash_7 : decode cX9_clash 7 = .ok (.ifCond .ne 5, 3) := by decide +kernel
theorem dX9_clash_10 : decode cX9_clash 10 = .ok (.iconst (-1), 1) := by decide +kernel
theorem dX9_clash_11 : decode cX9_clash 11 = .ok (.ireturn, 1) := by decide +kernel
theorem dX9_clash_12 : decode cX9_clash 12 = .ok (.aload_n 0, 1) := by decide +kernel
theorem dX9_clash_13 : decode cX9_clash 13 = .ok (.invokevirtual 211, 3) := by decide +kernel
theorem dX9_clash_16 : decode cX9_clash 16 = .ok (.iconst 0, 1) := by decide +kernel
theorem dX9_clash_17 : decode cX9_clash 17 = .ok (.istore 4, 2) := by decide +kernel
theorem dX9_clash_19 : decode cX9_clash 19 = .ok (.iconst 0, 1) := by decide +kernel
theorem dX9_clash_20 : decode cX9_clash 20 = .ok (.istore 5, 2) := by decide +kernel
theorem dX9_clash_22 : decode cX9_clash 22 = .ok (.iconst 0, 1) := by decide +kernel
theorem dX9_clash_23 : decode cX9_clash 23 = .ok (.istore 6, 2) := by decide +kernel
theorem dX9_clash_25 : decode cX9_clash 25 = .ok (.iload 6, 2) := by decide +kernel
theorem dX9_clash_27 : decode cX9_clash 27 = .ok (.aload_n 0, 1) := by decide +kernel
theorem dX9_clash_28 : decode cX9_clash 28 = .ok (.getfield 38, 3) := by decide +kernel
theorem dX9_clash_31 : decode cX9_clash 31 = .ok (.if_icmp .ge 75, 3) := by decide +kernel
theorem dX9_clash_34 : decode cX9_clash 34 = .ok (.aload_n 0, 1) := by decide +kernel
theorem dX9_clash_35 : decode cX9_clash 35 = .ok (.getfield 50, 3) := by decide +kernel
theorem dX9_clash_38 : decode cX9_clash 38 = .ok (.iload 6, 2) := by decide +kernel
theorem dX9_clash_40 : decode cX9_clash 40 = .ok (.iaload, 1) := by decide +kernel
theorem dX9_clash_41 : decode cX9_clash 41 = .ok (.iload_n 3, 1) := by decide +kernel
theorem dX9_clash_42 : decode cX9_clash 42 = .ok (.if_icmp .eq 6, 3) := by decide +kernel
theorem dX9_clash_45 : decode cX9_clash 45 = .ok (.goto 55, 3) := by decide +kernel
theorem dX9_clash_48 : decode cX9_clash 48 = .ok (.aload_n 0, 1) := by decide +kernel
theorem dX9_clash_49 : decode cX9_clash 49 = .ok (.iload 6, 2) := by decide +kernel
theorem dX9_clash_51 : decode cX9_clash 51 = .ok (.iload_n 1, 1) := by decide +kernel
theorem dX9_clash_52 : decode cX9_clash 52 = .ok (.iload_n 2, 1) := by decide +kernel
theorem dX9_clash_53 : decode cX9_clash 53 = .ok (.invokevirtual 217, 3) := by decide +kernel
theorem dX9_clash_56 : decode cX9_clash 56 = .ok (.istore 7, 2) := by decide +kernel
theorem dX9_clash_58 : decode cX9_clash 58 = .ok (.iload 4, 2) := by decide +kernel
theorem dX9_clash_60 : decode cX9_clash 60 = .ok (.iload 7, 2) := by decide +kernel
theorem dX9_clash_62 : decode cX9_clash 62 = .ok (.ifCond .eq 7, 3) := by decide +kernel
theorem dX9_clash_65 : decode cX9_clash 65 = .ok (.iconst 1, 1) := by decide +kernel
theorem dX9_clash_66 : decode cX9_clash 66 = .ok (.goto 4, 3) := by decide +kernel
theorem dX9_clash_69 : decode cX9_clash 69 = .ok (.iconst 0, 1) := by decide +kernel
theorem dX9_clash_70 : decode cX9_clash 70 = .ok (.iadd, 1) := by decide +kernel
theorem dX9_clash_71 : decode cX9_clash 71 = .ok (.istore 4, 2) := by decide +kernel
theorem dX9_clash_73 : decode cX9_clash 73 = .ok (.iload 5, 2) := by decide +kernel
theorem dX9_clash_75 : decode cX9_clash 75 = .ok (.iload 7, 2) := by decide +kernel
theorem dX9_clash_77 : decode cX9_clash 77 = .ok (.ifCond .ne 19, 3) := by decide +kernel
theorem dX9_clash_80 : decode cX9_clash 80 = .ok (.aload_n 0, 1) := by decide +kernel
theorem dX9_clash_81 : decode cX9_clash 81 = .ok (.iload 6, 2) := by decide +kernel
theorem dX9_clash_83 : decode cX9_clash 83 = .ok (.iconst 1, 1) := by decide +kernel
theorem dX9_clash_84 : decode cX9_clash 84 = .ok (.iload_n 1, 1) := by decide +kernel
theorem dX9_clash_85 : decode cX9_clash 85 = .ok (.iload_n 2, 1) := by decide +kernel
theorem dX9_clash_86 : decode cX9_clash 86 = .ok (.invokevirtual 198, 3) := by decide +kernel
theorem dX9_clash_89 : decode cX9_clash 89 = .ok (.ifCond .lt 7, 3) := by decide +kernel
theorem dX9_clash_92 : decode cX9_clash 92 = .ok (.iconst 1, 1) := by decide +kernel
theorem dX9_clash_93 : decode cX9_clash 93 = .ok (.goto 4, 3) := by decide +kernel
theorem dX9_clash_96 : decode cX9_clash 96 = .ok (.iconst 0, 1) := by decide +kernel
theorem dX9_clash_97 : decode cX9_clash 97 = .ok (.iadd, 1) := by decide +kernel
theorem dX9_clash_98 : decode cX9_clash 98 = .ok (.istore 5, 2) := by decide +kernel
theorem dX9_clash_100 : decode cX9_clash 100 = .ok (.iinc 6 1, 3) := by decide +kernel
theorem dX9_clash_103 : decode cX9_clash 103 = .ok (.goto (-78), 3) := by decide +kernel
theorem dX9_clash_106 : decode cX9_clash 106 = .ok (.iload 4, 2) := by decide +kernel
theorem dX9_clash_108 : decode cX9_clash 108 = .ok (.iload 5, 2) := by decide +kernel
theorem dX9_clash_110 : decode cX9_clash 110 = .ok (.imul, 1) := by decide +kernel
theorem dX9_clash_111 : decode cX9_clash 111 = .ok (.ireturn, 1) := by decide +kernel
theorem dX9_silent_0 : decode cX9_silent 0 = .ok (.aload_n 0, 1) := by decide +kernel
theorem dX9_silent_1 : decode cX9_silent 1 = .ok (.iload_n 1, 1) := by decide +kernel
theorem dX9_silent_2 : decode cX9_silent 2 = .ok (.invokevirtual 208, 3) := by decide +kernel
theorem dX9_silent_5 : decode cX9_silent 5 = .ok (.ifCond .eq 11, 3) := by decide +kernel
theorem dX9_silent_8 : decode cX9_silent 8 = .ok (.aload_n 0, 1) := by decide +kernel
theorem dX9_silent_9 : decode cX9_silent 9 = .ok (.iload_n 2, 1) := by decide +kernel
theorem dX9_silent_10 : decode cX9_silent 10 = .ok (.invokevirtual 177, 3) := by decide +kernel
theorem dX9_silent_13 : decode cX9_silent 13 = .ok (.ifCond .ne 5, 3) := by decide +kernel
theorem dX9_silent_16 : decode cX9_silent 16 = .ok (.iconst (-1), 1) := by decide +kernel
theorem dX9_silent_17 : decode cX9_silent 17 = .ok (.ireturn, 1) := by decide +kernel
theorem dX9_silent_18 : decode cX9_silent 18 = .ok (.aload_n 0, 1) := by decide +kernel
theorem dX9_silent_19 : decode cX9_silent 19 = .ok (.invokevirtual 211, 3) := by decide +kernel
theorem dX9_silent_22 : decode cX9_silent 22 = .ok (.iconst 0, 1) := by decide +kernel
theorem dX9_silent_23 : decode cX9_silent 23 = .ok (.istore_n 3, 1) := by decide +kernel
theorem dX9_silent_24 : decode cX9_silent 24 = .ok (.iconst 0, 1) := by decide +kernel
theorem dX9_silent_25 : decode cX9_silent 25 = .ok (.istore 4, 2) := by decide +kernel
theorem dX9_silent_27 : decode cX9_silent 27 = .ok (.iload 4, 2) := by decide +kernel
theorem dX9_silent_29 : decode cX9_silent 29 = .ok (.aload_n 0, 1) := by decide +kernel
theorem dX9_silent_30 : decode cX9_silent 30 = .ok (.getfield 7, 3) := by decide +kernel
theorem dX9_silent_33 : decode cX9_silent 33 = .ok (.if_icmp .ge 81, 3) := by decide +kernel
theorem dX9_silent_36 : decode cX9_silent 36 = .ok (.iconst 0, 1) := by decide +kernel
theorem dX9_silent_37 : decode cX9_silent 37 = .ok (.istore 5, 2) := by decide +kernel
theorem dX9_silent_39 : decode cX9_silent 39 = .ok (.iconst 0, 1) := by decide +kernel
theorem dX9_silent_40 : decode cX9_silent 40 = .ok (.istore 6, 2) := by decide +kernel
theorem dX9_silent_42 : decode cX9_silent 42 = .ok (.iload 6, 2) := by decide +kernel
theorem dX9_silent_44 : decode cX9_silent 44 = .ok (.aload_n 0, 1) := by decide +kernel
theorem dX9_silent_45 : decode cX9_silent 45 = .ok (.getfield 38, 3) := by decide +kernel
theorem dX9_silent_48 : decode cX9_silent 48 = .ok (.if_icmp .ge 44, 3) := by decide +kernel
theorem dX9_silent_51 : decode cX9_silent 51 = .ok (.iload 5, 2) := by decide +kernel
theorem dX9_silent_53 : decode cX9_silent 53 = .ok (.ifCond .ne 26, 3) := by decide +kernel
theorem dX9_silent_56 : decode cX9_silent 56 = .ok (.aload_n 0, 1) := by decide +kernel
theorem dX9_silent_57 : decode cX9_silent 57 = .ok (.getfield 50, 3) := by decide +kernel
theorem dX9_silent_60 : decode cX9_silent 60 = .ok (.iload 6, 2) := by decide +kernel
theorem dX9_silent_62 : decode cX9_silent 62 = .ok (.iaload, 1) := by decide +kernel
theorem dX9_silent_63 : decode cX9_silent 63 = .ok (.iload_n 2, 1) := by decide +kernel
theorem dX9_silent_64 : decode cX9_silent 64 = .ok (.if_icmp .ne 19, 3) := by decide +kernel
theorem dX9_silent_67 : decode cX9_silent 67 = .ok (.aload_n 0, 1) := by decide +kernel
theorem dX9_silent_68 : decode cX9_silent 68 = .ok (.iload 6, 2) := by decide +kernel
theorem dX9_silent_70 : decode cX9_silent 70 = .ok (.iload 4, 2) := by decide +kernel
theorem dX9_silent_72 : decode cX9_silent 72 = .ok (.iload_n 1, 1) := by decide +kernel
theorem dX9_silent_73 : decode cX9_silent 73 = .ok (.invokevirtual 214, 3) := by decide +kernel
theorem dX9_silent_76 : decode cX9_silent 76 = .ok (.ifCond .eq 7, 3) := by decide +kernel
theorem dX9_silent_79 : decode cX9_silent 79 = .ok (.iconst 1, 1) := by decide +kernel
theorem dX9_silent_80 : decode cX9_silent 80 = .ok (.goto 4, 3) := by decide +kernel
theorem dX9_silent_83 : decode cX9_silent 83 = .ok (.iconst 0, 1) := by decide +kernel
theorem dX9_silent_84 : decode cX9_silent 84 = .ok (.istore 5, 2) := by decide +kernel
theorem dX9_silent_86 : decode cX9_silent 86 = .ok (.iinc 6 1, 3) := by decide +kernel
theorem dX9_silent_89 : decode cX9_silent 89 = .ok (.goto (-47), 3) := by decide +kernel
theorem dX9_silent_92 : decode cX9_silent 92 = .ok (.iload_n 3, 1) := by decide +kernel
theorem dX9_silent_93 : decode cX9_silent 93 = .ok (.iload 5, 2) := by decide +kernel
theorem dX9_silent_95 : decode cX9_silent 95 = .ok (.ifCond .eq 7, 3) := by decide +kernel
theorem dX9_silent_98 : decode cX9_silent 98 = .ok (.iconst 0, 1) := by decide +kernel
theorem dX9_silent_99 : decode cX9_silent 99 = .ok (.goto 7, 3) := by decide +kernel
theorem dX9_silent_102 : decode cX9_silent 102 = .ok (.iconst 1, 1) := by decide +kernel
theorem dX9_silent_103 : decode cX9_silent 103 = .ok (.iload 4, 2) := by decide +kernel
theorem dX9_silent_105 : decode cX9_silent 105 = .ok (.ishl, 1) := by decide +kernel
theorem dX9_silent_106 : decode cX9_silent 106 = .ok (.ior, 1) := by decide +kernel
theorem dX9_silent_107 : decode cX9_silent 107 = .ok (.istore_n 3, 1) := by decide +kernel
theorem dX9_silent_108 : decode cX9_silent 108 = .ok (.iinc 4 1, 3) := by decide +kernel
theorem dX9_silent_111 : decode cX9_silent 111 = .ok (.goto (-84), 3) := by decide +kernel
theorem dX9_silent_114 : decode cX9_silent 114 = .ok (.iload_n 3, 1) := by decide +kernel
theorem dX9_silent_115 : decode cX9_silent 115 = .ok (.ireturn, 1) := by decide +kernel
theorem dX9_hangsOf_0 : decode cX9_hangsOf 0 = .ok (.aload_n 0, 1) := by decide +kernel
theorem dX9_hangsOf_1 : decode cX9_hangsOf 1 = .ok (.invokevirtual 211, 3) := by decide +kernel
theorem dX9_hangsOf_4 : decode cX9_hangsOf 4 = .ok (.iconst 0, 1) := by decide +kernel
theorem dX9_hangsOf_5 : decode cX9_hangsOf 5 = .ok (.istore_n 2, 1) := by decide +kernel
theorem dX9_hangsOf_6 : decode cX9_hangsOf 6 = .ok (.iconst 0, 1) := by decide +kernel
theorem dX9_hangsOf_7 : decode cX9_hangsOf 7 = .ok (.istore_n 3, 1) := by decide +kernel
theorem dX9_hangsOf_8 : decode cX9_hangsOf 8 = .ok (.iload_n 3, 1) := by decide +kernel
theorem dX9_hangsOf_9 : decode cX9_hangsOf 9 = .ok (.iconst 2, 1) := by decide +kernel
theorem dX9_hangsOf_10 : decode cX9_hangsOf 10 = .ok (.if_icmp .ge 160, 3) := by decide +kernel
theorem dX9_hangsOf_13 : decode cX9_hangsOf 13 = .ok (.aload_n 0, 1) := by decide +kernel
theorem dX9_hangsOf_14 : decode cX9_hangsOf 14 = .ok (.iload_n 3, 1) := by decide +kernel
theorem dX9_hangsOf_15 : decode cX9_hangsOf 15 = .ok (.ifCond .ne 16, 3) := by decide +kernel
theorem dX9_hangsOf_18 : decode cX9_hangsOf 18 = .ok (.aload_n 0, 1) := by decide +kernel
theorem dX9_hangsOf_19 : decode cX9_hangsOf 19 = .ok (.getfield 16, 3) := by decide +kernel
theorem dX9_hangsOf_22 : decode cX9_hangsOf 22 = .ok (.iconst 1, 1) := by decide +kernel
theorem dX9_hangsOf_23 : decode cX9_hangsOf 23 = .ok (.iload_n 1, 1) := by decide +kernel
theorem dX9_hangsOf_24 : decode cX9_hangsOf 24 = .ok (.ishl, 1) := by decide +kernel
theorem dX9_hangsOf_25 : decode cX9_hangsOf 25 = .ok (.iconst (-1), 1) := by decide +kernel
theorem dX9_hangsOf_26 : decode cX9_hangsOf 26 = .ok (.ixor, 1) := by decide +kernel
theorem dX9_hangsOf_27 : decode cX9_hangsOf 27 = .ok (.iand, 1) := by decide +kernel
theorem dX9_hangsOf_28 : decode cX9_hangsOf 28 = .ok (.goto 11, 3) := by decide +kernel
theorem dX9_hangsOf_31 : decode cX9_hangsOf 31 = .ok (.aload_n 0, 1) := by decide +kernel
theorem dX9_hangsOf_32 : decode cX9_hangsOf 32 = .ok (.getfield 16, 3) := by decide +kernel
theorem dX9_hangsOf_35 : decode cX9_hangsOf 35 = .ok (.iconst 1, 1) := by decide +kernel
theorem dX9_hangsOf_36 : decode cX9_hangsOf 36 = .ok (.iload_n 1, 1) := by decide +kernel
theorem dX9_hangsOf_37 : decode cX9_hangsOf 37 = .ok (.ishl, 1) := by decide +kernel
theorem dX9_hangsOf_38 : decode cX9_hangsOf 38 = .ok (.ior, 1) := by decide +kernel
theorem dX9_hangsOf_39 : decode cX9_hangsOf 39 = .ok (.putfield 86, 3) := by decide +kernel
theorem dX9_hangsOf_42 : decode cX9_hangsOf 42 = .ok (.aload_n 0, 1) := by decide +kernel
theorem dX9_hangsOf_43 : decode cX9_hangsOf 43 = .ok (.aload_n 0, 1) := by decide +kernel
theorem dX9_hangsOf_44 : decode cX9_hangsOf 44 = .ok (.getfield 7, 3) := by decide +kernel
theorem dX9_hangsOf_47 : decode cX9_hangsOf 47 = .ok (.aload_n 0, 1) := by decide +kernel
theorem dX9_hangsOf_48 : decode cX9_hangsOf 48 = .ok (.getfield 50, 3) := by decide +kernel
theorem dX9_hangsOf_51 : decode cX9_hangsOf 51 = .ok (.iload_n 1, 1) := by decide +kernel
theorem dX9_hangsOf_52 : decode cX9_hangsOf 52 = .ok (.iaload, 1) := by decide +kernel
theorem dX9_hangsOf_53 : decode cX9_hangsOf 53 = .ok (.invokevirtual 230, 3) := by decide +kernel
theorem dX9_hangsOf_56 : decode cX9_hangsOf 56 = .ok (.iconst 0, 1) := by decide +kernel
theorem dX9_hangsOf_57 : decode cX9_hangsOf 57 = .ok (.istore 4, 2) := by decide +kernel
theorem dX9_hangsOf_59 : decode cX9_hangsOf 59 = .ok (.iload 4, 2) := by decide +kernel
theorem dX9_hangsOf_61 : decode cX9_hangsOf 61 = .ok (.iconst 4, 1) := by decide +kernel
theorem dX9_hangsOf_62 : decode cX9_hangsOf 62 = .ok (.aload_n 0, 1) := by decide +kernel
theorem dX9_hangsOf_63 : decode cX9_hangsOf 63 = .ok (.getfield 7, 3) := by decide +kernel
theorem dX9_hangsOf_66 : decode cX9_hangsOf 66 = .ok (.imul, 1) := by decide +kernel
theorem dX9_hangsOf_67 : decode cX9_hangsOf 67 = .ok (.if_icmp .ge 97, 3) := by decide +kernel
theorem dX9_hangsOf_70 : decode cX9_hangsOf 70 = .ok (.iload 4, 2) := by decide +kernel
theorem dX9_hangsOf_72 : decode cX9_hangsOf 72 = .ok (.iconst 4, 1) := by decide +kernel
theorem dX9_hangsOf_73 : decode cX9_hangsOf 73 = .ok (.idiv, 1) := by decide +kernel
theorem dX9_hangsOf_74 : decode cX9_hangsOf 74 = .ok (.istore 5, 2) := by decide +kernel
theorem dX9_hangsOf_76 : decode cX9_hangsOf 76 = .ok (.iload 4, 2) := by decide +kernel
theorem dX9_hangsOf_78 : decode cX9_hangsOf 78 = .ok (.iconst 4, 1) := by decide +kernel
theorem dX9_hangsOf_79 : decode cX9_hangsOf 79 = .ok (.irem, 1) := by decide +kernel
theorem dX9_hangsOf_80 : decode cX9_hangsOf 80 = .ok (.istore 6, 2) := by decide +kernel
theorem dX9_hangsOf_82 : decode cX9_hangsOf 82 = .ok (.aload_n 0, 1) := by decide +kernel
theorem dX9_hangsOf_83 : decode cX9_hangsOf 83 = .ok (.iload 5, 2) := by decide +kernel
theorem dX9_hangsOf_85 : decode cX9_hangsOf 85 = .ok (.iload 6, 2) := by decide +kernel
theorem dX9_hangsOf_87 : decode cX9_hangsOf 87 = .ok (.aload_n 0, 1) := by decide +kernel
theorem dX9_hangsOf_88 : decode cX9_hangsOf 88 = .ok (.getfield 50, 3) := by decide +kernel
theorem dX9_hangsOf_91 : decode cX9_hangsOf 91 = .ok (.iload_n 1, 1) := by decide +kernel
theorem dX9_hangsOf_92 : decode cX9_hangsOf 92 = .ok (.iaload, 1) := by decide +kernel
theorem dX9_hangsOf_93 : decode cX9_hangsOf 93 = .ok (.invokevirtual 227, 3) := by decide +kernel
theorem dX9_hangsOf_96 : decode cX9_hangsOf 96 = .ok (.ifCond .ge 23, 3) := by decide +kernel
theorem dX9_hangsOf_99 : decode cX9_hangsOf 99 = .ok (.iload 6, 2) := by decide +kernel
theorem dX9_hangsOf_101 : decode cX9_hangsOf 101 = .ok (.iconst 1, 1) := by decide +kernel
theorem dX9_hangsOf_102 : decode cX9_hangsOf 102 = .ok (.if_icmp .eq 13, 3) := by decide +kernel
theorem dX9_hangsOf_105 : decode cX9_hangsOf 105 = .ok (.aload_n 0, 1) := by decide +kernel
theorem dX9_hangsOf_106 : decode cX9_hangsOf 106 = .ok (.iload 5, 2) := by decide +kernel
theorem dX9_hangsOf_108 : decode cX9_hangsOf 108 = .ok (.iconst 0, 1) := by decide +kernel
theorem dX9_hangsOf_109 : decode cX9_hangsOf 109 = .ok (.invokevirtual 224, 3) := by decide +kernel
theorem dX9_hangsOf_112 : decode cX9_hangsOf 112 = .ok (.ifCond .eq 7, 3) := by decide +kernel
theorem dX9_hangsOf_115 : decode cX9_hangsOf 115 = .ok (.iconst 1, 1) := by decide +kernel
theorem dX9_hangsOf_116 : decode cX9_hangsOf 116 = .ok (.goto 4, 3) := by decide +kernel
theorem dX9_hangsOf_119 : decode cX9_hangsOf 119 = .ok (.iconst 0, 1) := by decide +kernel
theorem dX9_hangsOf_120 : decode cX9_hangsOf 120 = .ok (.istore 7, 2) := by decide +kernel
theorem dX9_hangsOf_122 : decode cX9_hangsOf 122 = .ok (.iload_n 3, 1) := by decide +kernel
theorem dX9_hangsOf_123 : decode cX9_hangsOf 123 = .ok (.ifCond .ne 15, 3) := by decide +kernel
theorem dX9_hangsOf_126 : decode cX9_hangsOf 126 = .ok (.aload_n 0, 1) := by decide +kernel
theorem dX9_hangsOf_127 : decode cX9_hangsOf 127 = .ok (.getfield 108, 3) := by decide +kernel
theorem dX9_hangsOf_130 : decode cX9_hangsOf 130 = .ok (.iload 4, 2) := by decide +kernel
theorem dX9_hangsOf_132 : decode cX9_hangsOf 132 = .ok (.iload 7, 2) := by decide +kernel
theorem dX9_hangsOf_134 : decode cX9_hangsOf 134 = .ok (.bastore, 1) := by decide +kernel
theorem dX9_hangsOf_135 : decode cX9_hangsOf 135 = .ok (.goto 23, 3) := by decide +kernel
theorem dX9_hangsOf_138 : decode cX9_hangsOf 138 = .ok (.iload_n 2, 1) := by decide +kernel
theorem dX9_hangsOf_139 : decode cX9_hangsOf 139 = .ok (.iload 7, 2) := by decide +kernel
theorem dX9_hangsOf_141 : decode cX9_hangsOf 141 = .ok (.aload_n 0, 1) := by decide +kernel
theorem dX9_hangsOf_142 : decode cX9_hangsOf 142 = .ok (.getfield 108, 3) := by decide +kernel
theorem dX9_hangsOf_145 : decode cX9_hangsOf 145 = .ok (.iload 4, 2) := by decide +kernel
theorem dX9_hangsOf_147 : decode cX9_hangsOf 147 = .ok (.baload, 1) := by decide +kernel
theorem dX9_hangsOf_148 : decode cX9_hangsOf 148 = .ok (.if_icmp .ne 7, 3) := by decide +kernel
theorem dX9_hangsOf_151 : decode cX9_hangsOf 151 = .ok (.iconst 0, 1) := by decide +kernel
theorem dX9_hangsOf_152 : decode cX9_hangsOf 152 = .ok (.goto 4, 3) := by decide +kernel
theorem dX9_hangsOf_155 : decode cX9_hangsOf 155 = .ok (.iconst 1, 1) := by decide +kernel
theorem dX9_hangsOf_156 : decode cX9_hangsOf 156 = .ok (.iadd, 1) := by decide +kernel
theorem dX9_hangsOf_157 : decode cX9_hangsOf 157 = .ok (.istore_n 2, 1) := by decide +kernel
theorem dX9_hangsOf_158 : decode cX9_hangsOf 158 = .ok (.iinc 4 1, 3) := by decide +kernel
theorem dX9_hangsOf_161 : decode cX9_hangsOf 161 = .ok (.goto (-102), 3) := by decide +kernel
theorem dX9_hangsOf_164 : decode cX9_hangsOf 164 = .ok (.iinc 3 1, 3) := by decide +kernel
theorem dX9_hangsOf_167 : decode cX9_hangsOf 167 = .ok (.goto (-159), 3) := by decide +kernel
theorem dX9_hangsOf_170 : decode cX9_hangsOf 170 = .ok (.iload_n 2, 1) := by decide +kernel
theorem dX9_hangsOf_171 : decode cX9_hangsOf 171 = .ok (.ireturn, 1) := by decide +kernel
theorem dX9_hangs_0 : decode cX9_hangs 0 = .ok (.aload_n 0, 1) := by decide +kernel
theorem dX9_hangs_1 : decode cX9_hangs 1 = .ok (.iload_n 1, 1) := by decide +kernel
theorem dX9_hangs_2 : decode cX9_hangs 2 = .ok (.invokevirtual 205, 3) := by decide +kernel
theorem dX9_hangs_5 : decode cX9_hangs 5 = .ok (.ifCond .eq 11, 3) := by decide +kernel
theorem dX9_hangs_8 : decode cX9_hangs 8 = .ok (.aload_n 0, 1) := by decide +kernel
theorem dX9_hangs_9 : decode cX9_hangs 9 = .ok (.iload_n 1, 1) := by decide +kernel
theorem dX9_hangs_10 : decode cX9_hangs 10 = .ok (.invokevirtual 252, 3) := by decide +kernel
theorem dX9_hangs_13 : decode cX9_hangs 13 = .ok (.goto 4, 3) := by decide +kernel
theorem dX9_hangs_16 : decode cX9_hangs 16 = .ok (.iconst (-1), 1) := by decide +kernel
theorem dX9_hangs_17 : decode cX9_hangs 17 = .ok (.ireturn, 1) := by decide +kernel
theorem dX9_most_0 : decode cX9_most 0 = .ok (.bipush (-5), 2) := by decide +kernel
theorem dX9_most_2 : decode cX9_most 2 = .ok (.istore_n 1, 1) := by decide +kernel
theorem dX9_most_3 : decode cX9_most 3 = .ok (.iconst (-1), 1) := by decide +kernel
theorem dX9_most_4 : decode cX9_most 4 = .ok (.istore_n 2, 1) := by decide +kernel
theorem dX9_most_5 : decode cX9_most 5 = .ok (.iconst 0, 1) := by decide +kernel
theorem dX9_most_6 : decode cX9_most 6 = .ok (.istore_n 3, 1) := by decide +kernel
theorem dX9_most_7 : decode cX9_most 7 = .ok (.iload_n 3, 1) := by decide +kernel
theorem dX9_most_8 : decode cX9_most 8 = .ok (.aload_n 0, 1) := by decide +kernel
theorem dX9_most_9 : decode cX9_most 9 = .ok (.getfield 38, 3) := by decide +kernel
theorem dX9_most_12 : decode cX9_most 12 = .ok (.if_icmp .ge 30, 3) := by decide +kernel
theorem dX9_most_15 : decode cX9_most 15 = .ok (.aload_n 0, 1) := by decide +kernel
theorem dX9_most_16 : decode cX9_most 16 = .ok (.iload_n 3, 1) := by decide +kernel
theorem dX9_most_17 : decode cX9_most 17 = .ok (.invokevirtual 252, 3) := by decide +kernel
theorem dX9_most_20 : decode cX9_most 20 = .ok (.istore 4, 2) := by decide +kernel
theorem dX9_most_22 : decode cX9_most 22 = .ok (.iload 4, 2) := by decide +kernel
theorem dX9_most_24 : decode cX9_most 24 = .ok (.iload_n 2, 1) := by decide +kernel
theorem dX9_most_25 : decode cX9_most 25 = .ok (.if_icmp .gt 6, 3) := by decide +kernel
theorem dX9_most_28 : decode cX9_most 28 = .ok (.goto 8, 3) := by decide +kernel
theorem dX9_most_31 : decode cX9_most 31 = .ok (.iload_n 3, 1) := by decide +kernel
theorem dX9_most_32 : decode cX9_most 32 = .ok (.istore_n 1, 1) := by decide +kernel
theorem dX9_most_33 : decode cX9_most 33 = .ok (.iload 4, 2) := by decide +kernel
theorem dX9_most_35 : decode cX9_most 35 = .ok (.istore_n 2, 1) := by decide +kernel
theorem dX9_most_36 : decode cX9_most 36 = .ok (.iinc 3 1, 3) := by decide +kernel
theorem dX9_most_39 : decode cX9_most 39 = .ok (.goto (-32), 3) := by decide +kernel
theorem dX9_most_42 : decode cX9_most 42 = .ok (.iload_n 1, 1) := by decide +kernel
theorem dX9_most_43 : decode cX9_most 43 = .ok (.ireturn, 1) := by decide +kernel
theorem dX9_beside_0 : decode cX9_beside 0 = .ok (.aload_n 0, 1) := by decide +kernel
theorem dX9_beside_1 : decode cX9_beside 1 = .ok (.iload_n 1, 1) := by decide +kernel
theorem dX9_beside_2 : decode cX9_beside 2 = .ok (.invokevirtual 208, 3) := by decide +kernel
theorem dX9_beside_5 : decode cX9_beside 5 = .ok (.ifCond .eq 13, 3) := by decide +kernel
theorem dX9_beside_8 : decode cX9_beside 8 = .ok (.aload_n 0, 1) := by decide +kernel
theorem dX9_beside_9 : decode cX9_beside 9 = .ok (.iload_n 2, 1) := by decide +kernel
theorem dX9_beside_10 : decode cX9_beside 10 = .ok (.iconst 0, 1) := by decide +kernel
theorem dX9_beside_11 : decode cX9_beside 11 = .ok (.iconst 2, 1) := by decide +kernel
theorem dX9_beside_12 : decode cX9_beside 12 = .ok (.invokevirtual 133, 3) := by decide +kernel
theorem dX9_beside_15 : decode cX9_beside 15 = .ok (.ifCond .ne 5, 3) := by decide +kernel
theorem dX9_beside_18 : decode cX9_beside 18 = .ok (.iconst (-1), 1) := by decide +kernel
theorem dX9_beside_19 : decode cX9_beside 19 = .ok (.ireturn, 1) := by decide +kernel
theorem dX9_beside_20 : decode cX9_beside 20 = .ok (.aload_n 0, 1) := by decide +kernel
theorem dX9_beside_21 : decode cX9_beside 21 = .ok (.invokevirtual 211, 3) := by decide +kernel
theorem dX9_beside_24 : decode cX9_beside 24 = .ok (.iconst 0, 1) := by decide +kernel
theorem dX9_beside_25 : decode cX9_beside 25 = .ok (.istore_n 3, 1) := by decide +kernel
theorem dX9_beside_26 : decode cX9_beside 26 = .ok (.iconst 0, 1) := by decide +kernel
theorem dX9_beside_27 : decode cX9_beside 27 = .ok (.istore 4, 2) := by decide +kernel
theorem dX9_beside_29 : decode cX9_beside 29 = .ok (.iload 4, 2) := by decide +kernel
theorem dX9_beside_31 : decode cX9_beside 31 = .ok (.aload_n 0, 1) := by decide +kernel
theorem dX9_beside_32 : decode cX9_beside 32 = .ok (.getfield 7, 3) := by decide +kernel
theorem dX9_beside_35 : decode cX9_beside 35 = .ok (.if_icmp .ge 85, 3) := by decide +kernel
theorem dX9_beside_38 : decode cX9_beside 38 = .ok (.aload_n 0, 1) := by decide +kernel
theorem dX9_beside_39 : decode cX9_beside 39 = .ok (.iload 4, 2) := by decide +kernel
theorem dX9_beside_41 : decode cX9_beside 41 = .ok (.iload_n 1, 1) := by decide +kernel
theorem dX9_beside_42 : decode cX9_beside 42 = .ok (.iconst 0, 1) := by decide +kernel
theorem dX9_beside_43 : decode cX9_beside 43 = .ok (.invokevirtual 237, 3) := by decide +kernel
theorem dX9_beside_46 : decode cX9_beside 46 = .ok (.istore 5, 2) := by decide +kernel
theorem dX9_beside_48 : decode cX9_beside 48 = .ok (.aload_n 0, 1) := by decide +kernel
theorem dX9_beside_49 : decode cX9_beside 49 = .ok (.iload 4, 2) := by decide +kernel
theorem dX9_beside_51 : decode cX9_beside 51 = .ok (.iload_n 1, 1) := by decide +kernel
theorem dX9_beside_52 : decode cX9_beside 52 = .ok (.iconst 1, 1) := by decide +kernel
theorem dX9_beside_53 : decode cX9_beside 53 = .ok (.invokevirtual 237, 3) := by decide +kernel
theorem dX9_beside_56 : decode cX9_beside 56 = .ok (.istore 6, 2) := by decide +kernel
theorem dX9_beside_58 : decode cX9_beside 58 = .ok (.iload_n 3, 1) := by decide +kernel
theorem dX9_beside_59 : decode cX9_beside 59 = .ok (.iload_n 2, 1) := by decide +kernel
theorem dX9_beside_60 : decode cX9_beside 60 = .ok (.ifCond .ne 16, 3) := by decide +kernel
theorem dX9_beside_63 : decode cX9_beside 63 = .ok (.iload 5, 2) := by decide +kernel
theorem dX9_beside_65 : decode cX9_beside 65 = .ok (.ifCond .eq 46, 3) := by decide +kernel
theorem dX9_beside_68 : decode cX9_beside 68 = .ok (.iload 6, 2) := by decide +kernel
theorem dX9_beside_70 : decode cX9_beside 70 = .ok (.ifCond .ne 41, 3) := by decide +kernel
theorem dX9_beside_73 : decode cX9_beside 73 = .ok (.goto 31, 3) := by decide +kernel
theorem dX9_beside_76 : decode cX9_beside 76 = .ok (.iload_n 2, 1) := by decide +kernel
theorem dX9_beside_77 : decode cX9_beside 77 = .ok (.iconst 1, 1) := by decide +kernel
theorem dX9_beside_78 : decode cX9_beside 78 = .ok (.if_icmp .ne 16, 3) := by decide +kernel
theorem dX9_beside_81 : decode cX9_beside 81 = .ok (.iload 6, 2) := by decide +kernel
theorem dX9_beside_83 : decode cX9_beside 83 = .ok (.ifCond .eq 28, 3) := by decide +kernel
theorem dX9_beside_86 : decode cX9_beside 86 = .ok (.iload 5, 2) := by decide +kernel
theorem dX9_beside_88 : decode cX9_beside 88 = .ok (.ifCond .ne 23, 3) := by decide +kernel
theorem dX9_beside_91 : decode cX9_beside 91 = .ok (.goto 13, 3) := by decide +kernel
theorem dX9_beside_94 : decode cX9_beside 94 = .ok (.iload 5, 2) := by decide +kernel
theorem dX9_beside_96 : decode cX9_beside 96 = .ok (.ifCond .eq 15, 3) := by decide +kernel
theorem dX9_beside_99 : decode cX9_beside 99 = .ok (.iload 6, 2) := by decide +kernel
theorem dX9_beside_101 : decode cX9_beside 101 = .ok (.ifCond .eq 10, 3) := by decide +kernel
theorem dX9_beside_104 : decode cX9_beside 104 = .ok (.iconst 1, 1) := by decide +kernel
theorem dX9_beside_105 : decode cX9_beside 105 = .ok (.iload 4, 2) := by decide +kernel
theorem dX9_beside_107 : decode cX9_beside 107 = .ok (.ishl, 1) := by decide +kernel
theorem dX9_beside_108 : decode cX9_beside 108 = .ok (.goto 4, 3) := by decide +kernel
theorem dX9_beside_111 : decode cX9_beside 111 = .ok (.iconst 0, 1) := by decide +kernel
theorem dX9_beside_112 : decode cX9_beside 112 = .ok (.ior, 1) := by decide +kernel
theorem dX9_beside_113 : decode cX9_beside 113 = .ok (.istore_n 3, 1) := by decide +kernel
theorem dX9_beside_114 : decode cX9_beside 114 = .ok (.iinc 4 1, 3) := by decide +kernel
theorem dX9_beside_117 : decode cX9_beside 117 = .ok (.goto (-88), 3) := by decide +kernel
theorem dX9_beside_120 : decode cX9_beside 120 = .ok (.iload_n 3, 1) := by decide +kernel
theorem dX9_beside_121 : decode cX9_beside 121 = .ok (.ireturn, 1) := by decide +kernel
theorem dX9_way_0 : decode cX9_way 0 = .ok (.aload_n 0, 1) := by decide +kernel
theorem dX9_way_1 : decode cX9_way 1 = .ok (.iload_n 1, 1) := by decide +kernel
theorem dX9_way_2 : decode cX9_way 2 = .ok (.invokevirtual 255, 3) := by decide +kernel
theorem dX9_way_5 : decode cX9_way 5 = .ok (.ifCond .eq 15, 3) := by decide +kernel
theorem dX9_way_8 : decode cX9_way 8 = .ok (.aload_n 0, 1) := by decide +kernel
theorem dX9_way_9 : decode cX9_way 9 = .ok (.iload_n 3, 1) := by decide +kernel
theorem dX9_way_10 : decode cX9_way 10 = .ok (.iload 4, 2) := by decide +kernel
theorem dX9_way_12 : decode cX9_way 12 = .ok (.iload 5, 2) := by decide +kernel
theorem dX9_way_14 : decode cX9_way 14 = .ok (.invokevirtual 234, 3) := by decide +kernel
theorem dX9_way_17 : decode cX9_way 17 = .ok (.ifCond .ne 5, 3) := by decide +kernel
theorem dX9_way_20 : decode cX9_way 20 = .ok (.iconst (-1), 1) := by decide +kernel
theorem dX9_way_21 : decode cX9_way 21 = .ok (.ireturn, 1) := by decide +kernel
theorem dX9_way_22 : decode cX9_way 22 = .ok (.aload_n 0, 1) := by decide +kernel
theorem dX9_way_23 : decode cX9_way 23 = .ok (.getfield 120, 3) := by decide +kernel
theorem dX9_way_26 : decode cX9_way 26 = .ok (.iload_n 1, 1) := by decide +kernel
theorem dX9_way_27 : decode cX9_way 27 = .ok (.iaload, 1) := by decide +kernel
theorem dX9_way_28 : decode cX9_way 28 = .ok (.ifCond .le 6, 3) := by decide +kernel
theorem dX9_way_31 : decode cX9_way 31 = .ok (.bipush (-12), 2) := by decide +kernel
theorem dX9_way_33 : decode cX9_way 33 = .ok (.ireturn, 1) := by decide +kernel
theorem dX9_way_34 : decode cX9_way 34 = .ok (.aload_n 0, 1) := by decide +kernel
theorem dX9_way_35 : decode cX9_way 35 = .ok (.invokevirtual 211, 3) := by decide +kernel
theorem dX9_way_38 : decode cX9_way 38 = .ok (.iconst 1, 1) := by decide +kernel
theorem dX9_way_39 : decode cX9_way 39 = .ok (.istore 6, 2) := by decide +kernel
theorem dX9_way_41 : decode cX9_way 41 = .ok (.iconst 0, 1) := by decide +kernel
theorem dX9_way_42 : decode cX9_way 42 = .ok (.istore 7, 2) := by decide +kernel
theorem dX9_way_44 : decode cX9_way 44 = .ok (.iload 4, 2) := by decide +kernel
theorem dX9_way_46 : decode cX9_way 46 = .ok (.istore 8, 2) := by decide +kernel
theorem dX9_way_48 : decode cX9_way 48 = .ok (.aload_n 0, 1) := by decide +kernel
theorem dX9_way_49 : decode cX9_way 49 = .ok (.getfield 111, 3) := by decide +kernel
theorem dX9_way_52 : decode cX9_way 52 = .ok (.iconst 0, 1) := by decide +kernel
theorem dX9_way_53 : decode cX9_way 53 = .ok (.iload_n 3, 1) := by decide +kernel
theorem dX9_way_54 : decode cX9_way 54 = .ok (.iastore, 1) := by decide +kernel
theorem dX9_way_55 : decode cX9_way 55 = .ok (.iload 6, 2) := by decide +kernel
theorem dX9_way_57 : decode cX9_way 57 = .ok (.ifCond .le 180, 3) := by decide +kernel
theorem dX9_way_60 : decode cX9_way 60 = .ok (.iinc 6 (-1), 3) := by decide +kernel
theorem dX9_way_63 : decode cX9_way 63 = .ok (.aload_n 0, 1) := by decide +kernel
theorem dX9_way_64 : decode cX9_way 64 = .ok (.getfield 111, 3) := by decide +kernel
theorem dX9_way_67 : decode cX9_way 67 = .ok (.iload 6, 2) := by decide +kernel
theorem dX9_way_69 : decode cX9_way 69 = .ok (.iaload, 1) := by decide +kernel
theorem dX9_way_70 : decode cX9_way 70 = .ok (.istore 9, 2) := by decide +kernel
theorem dX9_way_72 : decode cX9_way 72 = .ok (.iconst 0, 1) := by decide +kernel
theorem dX9_way_73 : decode cX9_way 73 = .ok (.istore 10, 2) := by decide +kernel
theorem dX9_way_75 : decode cX9_way 75 = .ok (.iload 10, 2) := by decide +kernel
theorem dX9_way_77 : decode cX9_way 77 = .ok (.aload_n 0, 1) := by decide +kernel
theorem dX9_way_78 : decode cX9_way 78 = .ok (.getfield 38, 3) := by decide +kernel
theorem dX9_way_81 : decode cX9_way 81 = .ok (.if_icmp .ge 93, 3) := by decide +kernel
theorem dX9_way_84 : decode cX9_way 84 = .ok (.aload_n 0, 1) := by decide +kernel
theorem dX9_way_85 : decode cX9_way 85 = .ok (.getfield 50, 3) := by decide +kernel
theorem dX9_way_88 : decode cX9_way 88 = .ok (.iload 10, 2) := by decide +kernel
theorem dX9_way_90 : decode cX9_way 90 = .ok (.iaload, 1) := by decide +kernel
theorem dX9_way_91 : decode cX9_way 91 = .ok (.iload 5, 2) := by decide +kernel
theorem dX9_way_93 : decode cX9_way 93 = .ok (.if_icmp .eq 6, 3) := by decide +kernel
theorem dX9_way_96 : decode cX9_way 96 = .ok (.goto 72, 3) := by decide +kernel
theorem dX9_way_99 : decode cX9_way 99 = .ok (.aload_n 0, 1) := by decide +kernel
theorem dX9_way_100 : decode cX9_way 100 = .ok (.getfield 120, 3) := by decide +kernel
theorem dX9_way_103 : decode cX9_way 103 = .ok (.iload_n 1, 1) := by decide +kernel
theorem dX9_way_104 : decode cX9_way 104 = .ok (.iaload, 1) := by decide +kernel
theorem dX9_way_105 : decode cX9_way 105 = .ok (.ifCond .lt 22, 3) := by decide +kernel
theorem dX9_way_108 : decode cX9_way 108 = .ok (.iload_n 2, 1) := by decide +kernel
theorem dX9_way_109 : decode cX9_way 109 = .ok (.ifCond .lt 18, 3) := by decide +kernel
theorem dX9_way_112 : decode cX9_way 112 = .ok (.iload_n 2, 1) := by decide +kernel
theorem dX9_way_113 : decode cX9_way 113 = .ok (.aload_n 0, 1) := by decide +kernel
theorem dX9_way_114 : decode cX9_way 114 = .ok (.getfield 123, 3) := by decide +kernel
theorem dX9_way_117 : decode cX9_way 117 = .ok (.iload_n 1, 1) := by decide +kernel
theorem dX9_way_118 : decode cX9_way 118 = .ok (.iaload, 1) := by decide +kernel
theorem dX9_way_119 : decode cX9_way 119 = .ok (.iload 7, 2) := by decide +kernel
theorem dX9_way_121 : decode cX9_way 121 = .ok (.isub, 1) := by decide +kernel
theorem dX9_way_122 : decode cX9_way 122 = .ok (.iconst 1, 1) := by decide +kernel
theorem dX9_way_123 : decode cX9_way 123 = .ok (.isub, 1) := by decide +kernel
theorem dX9_way_124 : decode cX9_way 124 = .ok (.if_icmp .le 9, 3) := by decide +kernel
theorem dX9_way_127 : decode cX9_way 127 = .ok (.bipush 100, 2) := by decide +kernel
theorem dX9_way_129 : decode cX9_way 129 = .ok (.iload 7, 2) := by decide +kernel
theorem dX9_way_131 : decode cX9_way 131 = .ok (.iadd, 1) := by decide +kernel
theorem dX9_way_132 : decode cX9_way 132 = .ok (.ireturn, 1) := by decide +kernel
theorem dX9_way_133 : decode cX9_way 133 = .ok (.aload_n 0, 1) := by decide +kernel
theorem dX9_way_134 : decode cX9_way 134 = .ok (.getfield 126, 3) := by decide +kernel
theorem dX9_way_137 : decode cX9_way 137 = .ok (.bipush 60, 2) := by decide +kernel
theorem dX9_way_139 : decode cX9_way 139 = .ok (.iload_n 1, 1) := by decide +kernel
theorem dX9_way_140 : decode cX9_way 140 = .ok (.imul, 1) := by decide +kernel
theorem dX9_way_141 : decode cX9_way 141 = .ok (.iload_n 2, 1) := by decide +kernel
theorem dX9_way_142 : decode cX9_way 142 = .ok (.iadd, 1) := by decide +kernel
theorem dX9_way_143 : decode cX9_way 143 = .ok (.iload 7, 2) := by decide +kernel
theorem dX9_way_145 : decode cX9_way 145 = .ok (.iadd, 1) := by decide +kernel
theorem dX9_way_146 : decode cX9_way 146 = .ok (.laload, 1) := by decide +kernel
theorem dX9_way_147 : decode cX9_way 147 = .ok (.aload_n 0, 1) := by decide +kernel
theorem dX9_way_148 : decode cX9_way 148 = .ok (.iload 10, 2) := by decide +kernel
theorem dX9_way_150 : decode cX9_way 150 = .ok (.iload 9, 2) := by decide +kernel
theorem dX9_way_152 : decode cX9_way 152 = .ok (.iload 8, 2) := by decide +kernel
theorem dX9_way_154 : decode cX9_way 154 = .ok (.invokevirtual 220, 3) := by decide +kernel
theorem dX9_way_157 : decode cX9_way 157 = .ok (.i2l, 1) := by decide +kernel
theorem dX9_way_158 : decode cX9_way 158 = .ok (.lcmp, 1) := by decide +kernel
theorem dX9_way_159 : decode cX9_way 159 = .ok (.ifCond .eq 6, 3) := by decide +kernel
theorem dX9_way_162 : decode cX9_way 162 = .ok (.iload 7, 2) := by decide +kernel
theorem dX9_way_164 : decode cX9_way 164 = .ok (.ireturn, 1) := by decide +kernel
theorem dX9_way_165 : decode cX9_way 165 = .ok (.iinc 7 1, 3) := by decide +kernel
theorem dX9_way_168 : decode cX9_way 168 = .ok (.iinc 10 1, 3) := by decide +kernel
theorem dX9_way_171 : decode cX9_way 171 = .ok (.goto (-96), 3) := by decide +kernel
theorem dX9_way_174 : decode cX9_way 174 = .ok (.aload_n 0, 1) := by decide +kernel
theorem dX9_way_175 : decode cX9_way 175 = .ok (.getfield 32, 3) := by decide +kernel
theorem dX9_way_178 : decode cX9_way 178 = .ok (.iload 9, 2) := by decide +kernel
theorem dX9_way_180 : decode cX9_way 180 = .ok (.iaload, 1) := by decide +kernel
theorem dX9_way_181 : decode cX9_way 181 = .ok (.iconst 1, 1) := by decide +kernel
theorem dX9_way_182 : decode cX9_way 182 = .ok (.isub, 1) := by decide +kernel
theorem dX9_way_183 : decode cX9_way 183 = .ok (.istore 10, 2) := by decide +kernel
theorem dX9_way_185 : decode cX9_way 185 = .ok (.iload 10, 2) := by decide +kernel
theorem dX9_way_187 : decode cX9_way 187 = .ok (.ifCond .lt 37, 3) := by decide +kernel
theorem dX9_way_190 : decode cX9_way 190 = .ok (.iload 8, 2) := by decide +kernel
theorem dX9_way_192 : decode cX9_way 192 = .ok (.iconst 1, 1) := by decide +kernel
theorem dX9_way_193 : decode cX9_way 193 = .ok (.if_icmp .eq 31, 3) := by decide +kernel
theorem dX9_way_196 : decode cX9_way 196 = .ok (.aload_n 0, 1) := by decide +kernel
theorem dX9_way_197 : decode cX9_way 197 = .ok (.getfield 111, 3) := by decide +kernel
theorem dX9_way_200 : decode cX9_way 200 = .ok (.iload 6, 2) := by decide +kernel
theorem dX9_way_202 : decode cX9_way 202 = .ok (.aload_n 0, 1) := by decide +kernel
theorem dX9_way_203 : decode cX9_way 203 = .ok (.getfield 35, 3) := by decide +kernel
theorem dX9_way_206 : decode cX9_way 206 = .ok (.iconst 4, 1) := by decide +kernel
theorem dX9_way_207 : decode cX9_way 207 = .ok (.iload 9, 2) := by decide +kernel
theorem dX9_way_209 : decode cX9_way 209 = .ok (.imul, 1) := by decide +kernel
theorem dX9_way_210 : decode cX9_way 210 = .ok (.iload 10, 2) := by decide +kernel
theorem dX9_way_212 : decode cX9_way 212 = .ok (.iadd, 1) := by decide +kernel
theorem dX9_way_213 : decode cX9_way 213 = .ok (.iaload, 1) := by decide +kernel
theorem dX9_way_214 : decode cX9_way 214 = .ok (.iastore, 1) := by decide +kernel
theorem dX9_way_215 : decode cX9_way 215 = .ok (.iinc 6 1, 3) := by decide +kernel
theorem dX9_way_218 : decode cX9_way 218 = .ok (.iinc 10 (-1), 3) := by decide +kernel
theorem dX9_way_221 : decode cX9_way 221 = .ok (.goto (-36), 3) := by decide +kernel
theorem dX9_way_224 : decode cX9_way 224 = .ok (.iconst 0, 1) := by decide +kernel
theorem dX9_way_225 : decode cX9_way 225 = .ok (.istore 8, 2) := by decide +kernel
theorem dX9_way_227 : decode cX9_way 227 = .ok (.iload 7, 2) := by decide +kernel
theorem dX9_way_229 : decode cX9_way 229 = .ok (.ifCond .ne 5, 3) := by decide +kernel
theorem dX9_way_232 : decode cX9_way 232 = .ok (.iconst 0, 1) := by decide +kernel
theorem dX9_way_233 : decode cX9_way 233 = .ok (.ireturn, 1) := by decide +kernel
theorem dX9_way_234 : decode cX9_way 234 = .ok (.goto (-179), 3) := by decide +kernel
theorem dX9_way_237 : decode cX9_way 237 = .ok (.iload 7, 2) := by decide +kernel
theorem dX9_way_239 : decode cX9_way 239 = .ok (.ireturn, 1) := by decide +kernel
theorem dX9_body_0 : decode cX9_body 0 = .ok (.aload_n 0, 1) := by decide +kernel
theorem dX9_body_1 : decode cX9_body 1 = .ok (.getfield 114, 3) := by decide +kernel
theorem dX9_body_4 : decode cX9_body 4 = .ok (.bipush 20, 2) := by decide +kernel
theorem dX9_body_6 : decode cX9_body 6 = .ok (.if_icmp .ge 13, 3) := by decide +kernel
theorem dX9_body_9 : decode cX9_body 9 = .ok (.aload_n 0, 1) := by decide +kernel
theorem dX9_body_10 : decode cX9_body 10 = .ok (.getfield 117, 3) := by decide +kernel
theorem dX9_body_13 : decode cX9_body 13 = .ok (.aload_n 0, 1) := by decide +kernel
theorem dX9_body_14 : decode cX9_body 14 = .ok (.getfield 114, 3) := by decide +kernel
theorem dX9_body_17 : decode cX9_body 17 = .ok (.iload_n 1, 1) := by decide +kernel
theorem dX9_body_18 : decode cX9_body 18 = .ok (.iastore, 1) := by decide +kernel
theorem dX9_body_19 : decode cX9_body 19 = .ok (.aload_n 0, 1) := by decide +kernel
theorem dX9_body_20 : decode cX9_body 20 = .ok (.dup, 1) := by decide +kernel
theorem dX9_body_21 : decode cX9_body 21 = .ok (.getfield 114, 3) := by decide +kernel
theorem dX9_body_24 : decode cX9_body 24 = .ok (.iconst 1, 1) := by decide +kernel
theorem dX9_body_25 : decode cX9_body 25 = .ok (.iadd, 1) := by decide +kernel
theorem dX9_body_26 : decode cX9_body 26 = .ok (.putfield 114, 3) := by decide +kernel
theorem dX9_body_29 : decode cX9_body 29 = .ok (.return_, 1) := by decide +kernel
theorem dX9_plainHears_0 : decode cX9_plainHears 0 = .ok (.aload_n 0, 1) := by decide +kernel
theorem dX9_plainHears_1 : decode cX9_plainHears 1 = .ok (.bipush 10, 2) := by decide +kernel
theorem dX9_plainHears_3 : decode cX9_plainHears 3 = .ok (.invokevirtual 258, 3) := by decide +kernel
theorem dX9_plainHears_6 : decode cX9_plainHears 6 = .ok (.iload_n 2, 1) := by decide +kernel
theorem dX9_plainHears_7 : decode cX9_plainHears 7 = .ok (.iload_n 1, 1) := by decide +kernel
theorem dX9_plainHears_8 : decode cX9_plainHears 8 = .ok (.iadd, 1) := by decide +kernel
theorem dX9_plainHears_9 : decode cX9_plainHears 9 = .ok (.ireturn, 1) := by decide +kernel
theorem dX9_writtenHears_0 : decode cX9_writtenHears 0 = .ok (.aload_n 0, 1) := by decide +kernel
theorem dX9_writtenHears_1 : decode cX9_writtenHears 1 = .ok (.bipush 30, 2) := by decide +kernel
theorem dX9_writtenHears_3 : decode cX9_writtenHears 3 = .ok (.invokevirtual 258, 3) := by decide +kernel
theorem dX9_writtenHears_6 : decode cX9_writtenHears 6 = .ok (.aload_n 0, 1) := by decide +kernel
theorem dX9_writtenHears_7 : decode cX9_writtenHears 7 = .ok (.iload_n 1, 1) := by decide +kernel
theorem dX9_writtenHears_8 : decode cX9_writtenHears 8 = .ok (.iload_n 2, 1) := by decide +kernel
theorem dX9_writtenHears_9 : decode cX9_writtenHears 9 = .ok (.iconst 3, 1) := by decide +kernel
theorem dX9_writtenHears_10 : decode cX9_writtenHears 10 = .ok (.imul, 1) := by decide +kernel
theorem dX9_writtenHears_11 : decode cX9_writtenHears 11 = .ok (.invokevirtual 261, 3) := by decide +kernel
theorem dX9_writtenHears_14 : decode cX9_writtenHears 14 = .ok (.ireturn, 1) := by decide +kernel
theorem dX9_hears_0 : decode cX9_hears 0 = .ok (.aload_n 0, 1) := by decide +kernel
theorem dX9_hears_1 : decode cX9_hears 1 = .ok (.getfield 23, 3) := by decide +kernel
theorem dX9_hears_4 : decode cX9_hears 4 = .ok (.iload_n 1, 1) := by decide +kernel
theorem dX9_hears_5 : decode cX9_hears 5 = .ok (.iaload, 1) := by decide +kernel
theorem dX9_hears_6 : decode cX9_hears 6 = .ok (.tableswitch 75 2 6 #[34, 41, 75, 34, 55], 34) := by decide +kernel
theorem dX9_hears_40 : decode cX9_hears 40 = .ok (.aload_n 0, 1) := by decide +kernel
theorem dX9_hears_41 : decode cX9_hears 41 = .ok (.iload_n 1, 1) := by decide +kernel
theorem dX9_hears_42 : decode cX9_hears 42 = .ok (.iload_n 2, 1) := by decide +kernel
theorem dX9_hears_43 : decode cX9_hears 43 = .ok (.invokevirtual 265, 3) := by decide +kernel
theorem dX9_hears_46 : decode cX9_hears 46 = .ok (.ireturn, 1) := by decide +kernel
theorem dX9_hears_47 : decode cX9_hears 47 = .ok (.aload_n 0, 1) := by decide +kernel
theorem dX9_hears_48 : decode cX9_hears 48 = .ok (.bipush 40, 2) := by decide +kernel
theorem dX9_hears_50 : decode cX9_hears 50 = .ok (.invokevirtual 258, 3) := by decide +kernel
theorem dX9_hears_53 : decode cX9_hears 53 = .ok (.aload_n 0, 1) := by decide +kernel
theorem dX9_hears_54 : decode cX9_hears 54 = .ok (.iload_n 1, 1) := by decide +kernel
theorem dX9_hears_55 : decode cX9_hears 55 = .ok (.iload_n 2, 1) := by decide +kernel
theorem dX9_hears_56 : decode cX9_hears 56 = .ok (.invokevirtual 261, 3) := by decide +kernel
theorem dX9_hears_59 : decode cX9_hears 59 = .ok (.ineg, 1) := by decide +kernel
theorem dX9_hears_60 : decode cX9_hears 60 = .ok (.ireturn, 1) := by decide +kernel
theorem dX9_hears_61 : decode cX9_hears 61 = .ok (.aload_n 0, 1) := by decide +kernel
theorem dX9_hears_62 : decode cX9_hears 62 = .ok (.bipush 71, 2) := by decide +kernel
theorem dX9_hears_64 : decode cX9_hears 64 = .ok (.invokevirtual 258, 3) := by decide +kernel
theorem dX9_hears_67 : decode cX9_hears 67 = .ok (.aload_n 0, 1) := by decide +kernel
theorem dX9_hears_68 : decode cX9_hears 68 = .ok (.iload_n 1, 1) := by decide +kernel
theorem dX9_hears_69 : decode cX9_hears 69 = .ok (.iload_n 2, 1) := by decide +kernel
theorem dX9_hears_70 : decode cX9_hears 70 = .ok (.invokevirtual 261, 3) := by decide +kernel
theorem dX9_hears_73 : decode cX9_hears 73 = .ok (.aload_n 0, 1) := by decide +kernel
theorem dX9_hears_74 : decode cX9_hears 74 = .ok (.getfield 26, 3) := by decide +kernel
theorem dX9_hears_77 : decode cX9_hears 77 = .ok (.iload_n 1, 1) := by decide +kernel
theorem dX9_hears_78 : decode cX9_hears 78 = .ok (.iaload, 1) := by decide +kernel
theorem dX9_hears_79 : decode cX9_hears 79 = .ok (.ixor, 1) := by decide +kernel
theorem dX9_hears_80 : decode cX9_hears 80 = .ok (.ireturn, 1) := by decide +kernel
theorem dX9_hears_81 : decode cX9_hears 81 = .ok (.aload_n 0, 1) := by decide +kernel
theorem dX9_hears_82 : decode cX9_hears 82 = .ok (.iload_n 1, 1) := by decide +kernel
theorem dX9_hears_83 : decode cX9_hears 83 = .ok (.iload_n 2, 1) := by decide +kernel
theorem dX9_hears_84 : decode cX9_hears 84 = .ok (.invokevirtual 261, 3) := by decide +kernel
theorem dX9_hears_87 : decode cX9_hears 87 = .ok (.ireturn, 1) := by decide +kernel
theorem dX9_plainKeeps_0 : decode cX9_plainKeeps 0 = .ok (.aload_n 0, 1) := by decide +kernel
theorem dX9_plainKeeps_1 : decode cX9_plainKeeps 1 = .ok (.bipush 11, 2) := by decide +kernel
theorem dX9_plainKeeps_3 : decode cX9_plainKeeps 3 = .ok (.invokevirtual 258, 3) := by decide +kernel
theorem dX9_plainKeeps_6 : decode cX9_plainKeeps 6 = .ok (.aload_n 0, 1) := by decide +kernel
theorem dX9_plainKeeps_7 : decode cX9_plainKeeps 7 = .ok (.iload_n 1, 1) := by decide +kernel
theorem dX9_plainKeeps_8 : decode cX9_plainKeeps 8 = .ok (.iload_n 2, 1) := by decide +kernel
theorem dX9_plainKeeps_9 : decode cX9_plainKeeps 9 = .ok (.invokevirtual 268, 3) := by decide +kernel
theorem dX9_plainKeeps_12 : decode cX9_plainKeeps 12 = .ok (.aload_n 0, 1) := by decide +kernel
theorem dX9_plainKeeps_13 : decode cX9_plainKeeps 13 = .ok (.getfield 26, 3) := by decide +kernel
theorem dX9_plainKeeps_16 : decode cX9_plainKeeps 16 = .ok (.iload_n 1, 1) := by decide +kernel
theorem dX9_plainKeeps_17 : decode cX9_plainKeeps 17 = .ok (.iaload, 1) := by decide +kernel
theorem dX9_plainKeeps_18 : decode cX9_plainKeeps 18 = .ok (.isub, 1) := by decide +kernel
theorem dX9_plainKeeps_19 : decode cX9_plainKeeps 19 = .ok (.ireturn, 1) := by decide +kernel
theorem dX9_saidKeeps_0 : decode cX9_saidKeeps 0 = .ok (.aload_n 0, 1) := by decide +kernel
theorem dX9_saidKeeps_1 : decode cX9_saidKeeps 1 = .ok (.bipush 20, 2) := by decide +kernel
theorem dX9_saidKeeps_3 : decode cX9_saidKeeps 3 = .ok (.invokevirtual 258, 3) := by decide +kernel
theorem dX9_saidKeeps_6 : decode cX9_saidKeeps 6 = .ok (.aload_n 0, 1) := by decide +kernel
theorem dX9_saidKeeps_7 : decode cX9_saidKeeps 7 = .ok (.iload_n 1, 1) := by decide +kernel
theorem dX9_saidKeeps_8 : decode cX9_saidKeeps 8 = .ok (.iload_n 2, 1) := by decide +kernel
theorem dX9_saidKeeps_9 : decode cX9_saidKeeps 9 = .ok (.invokevirtual 271, 3) := by decide +kernel
theorem dX9_saidKeeps_12 : decode cX9_saidKeeps 12 = .ok (.iconst 5, 1) := by decide +kernel
theorem dX9_saidKeeps_13 : decode cX9_saidKeeps 13 = .ok (.ixor, 1) := by decide +kernel
theorem dX9_saidKeeps_14 : decode cX9_saidKeeps 14 = .ok (.ireturn, 1) := by decide +kernel
theorem dX9_keeps_0 : decode cX9_keeps 0 = .ok (.aload_n 0, 1) := by decide +kernel
theorem dX9_keeps_1 : decode cX9_keeps 1 = .ok (.getfield 23, 3) := by decide +kernel
theorem dX9_keeps_4 : decode cX9_keeps 4 = .ok (.iload_n 1, 1) := by decide +kernel
theorem dX9_keeps_5 : decode cX9_keeps 5 = .ok (.iaload, 1) := by decide +kernel
theorem dX9_keeps_6 : decode cX9_keeps 6 = .ok (.iconst 5, 1) := by decide +kernel
theorem dX9_keeps_7 : decode cX9_keeps 7 = .ok (.if_icmp .ne 25, 3) := by decide +kernel
theorem dX9_keeps_10 : decode cX9_keeps 10 = .ok (.aload_n 0, 1) := by decide +kernel
theorem dX9_keeps_11 : decode cX9_keeps 11 = .ok (.bipush 60, 2) := by decide +kernel
theorem dX9_keeps_13 : decode cX9_keeps 13 = .ok (.invokevirtual 258, 3) := by decide +kernel
theorem dX9_keeps_16 : decode cX9_keeps 16 = .ok (.aload_n 0, 1) := by decide +kernel
theorem dX9_keeps_17 : decode cX9_keeps 17 = .ok (.iload_n 1, 1) := by decide +kernel
theorem dX9_keeps_18 : decode cX9_keeps 18 = .ok (.iload_n 2, 1) := by decide +kernel
theorem dX9_keeps_19 : decode cX9_keeps 19 = .ok (.invokevirtual 274, 3) := by decide +kernel
theorem dX9_keeps_22 : decode cX9_keeps 22 = .ok (.istore_n 3, 1) := by decide +kernel
theorem dX9_keeps_23 : decode cX9_keeps 23 = .ok (.iload_n 3, 1) := by decide +kernel
theorem dX9_keeps_24 : decode cX9_keeps 24 = .ok (.aload_n 0, 1) := by decide +kernel
theorem dX9_keeps_25 : decode cX9_keeps 25 = .ok (.iload_n 1, 1) := by decide +kernel
theorem dX9_keeps_26 : decode cX9_keeps 26 = .ok (.iconst 2, 1) := by decide +kernel
theorem dX9_keeps_27 : decode cX9_keeps 27 = .ok (.invokevirtual 265, 3) := by decide +kernel
theorem dX9_keeps_30 : decode cX9_keeps 30 = .ok (.iadd, 1) := by decide +kernel
theorem dX9_keeps_31 : decode cX9_keeps 31 = .ok (.ireturn, 1) := by decide +kernel
theorem dX9_keeps_32 : decode cX9_keeps 32 = .ok (.aload_n 0, 1) := by decide +kernel
theorem dX9_keeps_33 : decode cX9_keeps 33 = .ok (.aload_n 0, 1) := by decide +kernel
theorem dX9_keeps_34 : decode cX9_keeps 34 = .ok (.getfield 23, 3) := by decide +kernel
theorem dX9_keeps_37 : decode cX9_keeps 37 = .ok (.iload_n 1, 1) := by decide +kernel
theorem dX9_keeps_38 : decode cX9_keeps 38 = .ok (.iaload, 1) := by decide +kernel
theorem dX9_keeps_39 : decode cX9_keeps 39 = .ok (.iconst 1, 1) := by decide +kernel
theorem dX9_keeps_40 : decode cX9_keeps 40 = .ok (.invokevirtual 186, 3) := by decide +kernel
theorem dX9_keeps_43 : decode cX9_keeps 43 = .ok (.ifCond .eq 12, 3) := by decide +kernel
theorem dX9_keeps_46 : decode cX9_keeps 46 = .ok (.aload_n 0, 1) := by decide +kernel
theorem dX9_keeps_47 : decode cX9_keeps 47 = .ok (.iload_n 1, 1) := by decide +kernel
theorem dX9_keeps_48 : decode cX9_keeps 48 = .ok (.iload_n 2, 1) := by decide +kernel
theorem dX9_keeps_49 : decode cX9_keeps 49 = .ok (.invokevirtual 274, 3) := by decide +kernel
theorem dX9_keeps_52 : decode cX9_keeps 52 = .ok (.goto 9, 3) := by decide +kernel
theorem dX9_keeps_55 : decode cX9_keeps 55 = .ok (.aload_n 0, 1) := by decide +kernel
theorem dX9_keeps_56 : decode cX9_keeps 56 = .ok (.iload_n 1, 1) := by decide +kernel
theorem dX9_keeps_57 : decode cX9_keeps 57 = .ok (.iload_n 2, 1) := by decide +kernel
theorem dX9_keeps_58 : decode cX9_keeps 58 = .ok (.invokevirtual 271, 3) := by decide +kernel
theorem dX9_keeps_61 : decode cX9_keeps 61 = .ok (.ireturn, 1) := by decide +kernel
theorem dX9_plainTells_0 : decode cX9_plainTells 0 = .ok (.aload_n 0, 1) := by decide +kernel
theorem dX9_plainTells_1 : decode cX9_plainTells 1 = .ok (.bipush 12, 2) := by decide +kernel
theorem dX9_plainTells_3 : decode cX9_plainTells 3 = .ok (.invokevirtual 258, 3) := by decide +kernel
theorem dX9_plainTells_6 : decode cX9_plainTells 6 = .ok (.aload_n 0, 1) := by decide +kernel
theorem dX9_plainTells_7 : decode cX9_plainTells 7 = .ok (.iload_n 1, 1) := by decide +kernel
theorem dX9_plainTells_8 : decode cX9_plainTells 8 = .ok (.iload_n 2, 1) := by decide +kernel
theorem dX9_plainTells_9 : decode cX9_plainTells 9 = .ok (.invokevirtual 277, 3) := by decide +kernel
theorem dX9_plainTells_12 : decode cX9_plainTells 12 = .ok (.iconst 2, 1) := by decide +kernel
theorem dX9_plainTells_13 : decode cX9_plainTells 13 = .ok (.imul, 1) := by decide +kernel
theorem dX9_plainTells_14 : decode cX9_plainTells 14 = .ok (.ireturn, 1) := by decide +kernel
theorem dX9_tells_0 : decode cX9_tells 0 = .ok (.aload_n 0, 1) := by decide +kernel
theorem dX9_tells_1 : decode cX9_tells 1 = .ok (.getfield 23, 3) := by decide +kernel
theorem dX9_tells_4 : decode cX9_tells 4 = .ok (.iload_n 1, 1) := by decide +kernel
theorem dX9_tells_5 : decode cX9_tells 5 = .ok (.iaload, 1) := by decide +kernel
theorem dX9_tells_6 : decode cX9_tells 6 = .ok (.tableswitch 95 2 6 #[34, 95, 56, 34, 71], 34) := by decide +kernel
theorem dX9_tells_40 : decode cX9_tells 40 = .ok (.aload_n 0, 1) := by decide +kernel
theorem dX9_tells_41 : decode cX9_tells 41 = .ok (.bipush 31, 2) := by decide +kernel
theorem dX9_tells_43 : decode cX9_tells 43 = .ok (.invokevirtual 258, 3) := by decide +kernel
theorem dX9_tells_46 : decode cX9_tells 46 = .ok (.aload_n 0, 1) := by decide +kernel
theorem dX9_tells_47 : decode cX9_tells 47 = .ok (.iload_n 1, 1) := by decide +kernel
theorem dX9_tells_48 : decode cX9_tells 48 = .ok (.iload_n 2, 1) := by decide +kernel
theorem dX9_tells_49 : decode cX9_tells 49 = .ok (.invokevirtual 280, 3) := by decide +kernel
theorem dX9_tells_52 : decode cX9_tells 52 = .ok (.istore_n 3, 1) := by decide +kernel
theorem dX9_tells_53 : decode cX9_tells 53 = .ok (.iload_n 3, 1) := by decide +kernel
theorem dX9_tells_54 : decode cX9_tells 54 = .ok (.aload_n 0, 1) := by decide +kernel
theorem dX9_tells_55 : decode cX9_tells 55 = .ok (.iload_n 1, 1) := by decide +kernel
theorem dX9_tells_56 : decode cX9_tells 56 = .ok (.iconst 1, 1) := by decide +kernel
theorem dX9_tells_57 : decode cX9_tells 57 = .ok (.invokevirtual 277, 3) := by decide +kernel
theorem dX9_tells_60 : decode cX9_tells 60 = .ok (.iadd, 1) := by decide +kernel
theorem dX9_tells_61 : decode cX9_tells 61 = .ok (.ireturn, 1) := by decide +kernel
theorem dX9_tells_62 : decode cX9_tells 62 = .ok (.aload_n 0, 1) := by decide +kernel
theorem dX9_tells_63 : decode cX9_tells 63 = .ok (.bipush 50, 2) := by decide +kernel
theorem dX9_tells_65 : decode cX9_tells 65 = .ok (.invokevirtual 258, 3) := by decide +kernel
theorem dX9_tells_68 : decode cX9_tells 68 = .ok (.aload_n 0, 1) := by decide +kernel
theorem dX9_tells_69 : decode cX9_tells 69 = .ok (.iload_n 1, 1) := by decide +kernel
theorem dX9_tells_70 : decode cX9_tells 70 = .ok (.iload_n 2, 1) := by decide +kernel
theorem dX9_tells_71 : decode cX9_tells 71 = .ok (.iload_n 1, 1) := by decide +kernel
theorem dX9_tells_72 : decode cX9_tells 72 = .ok (.isub, 1) := by decide +kernel
theorem dX9_tells_73 : decode cX9_tells 73 = .ok (.invokevirtual 280, 3) := by decide +kernel
theorem dX9_tells_76 : decode cX9_tells 76 = .ok (.ireturn, 1) := by decide +kernel
theorem dX9_tells_77 : decode cX9_tells 77 = .ok (.aload_n 0, 1) := by decide +kernel
theorem dX9_tells_78 : decode cX9_tells 78 = .ok (.bipush 70, 2) := by decide +kernel
theorem dX9_tells_80 : decode cX9_tells 80 = .ok (.invokevirtual 258, 3) := by decide +kernel
theorem dX9_tells_83 : decode cX9_tells 83 = .ok (.aload_n 0, 1) := by decide +kernel
theorem dX9_tells_84 : decode cX9_tells 84 = .ok (.iload_n 1, 1) := by decide +kernel
theorem dX9_tells_85 : decode cX9_tells 85 = .ok (.iload_n 2, 1) := by decide +kernel
theorem dX9_tells_86 : decode cX9_tells 86 = .ok (.invokevirtual 277, 3) := by decide +kernel
theorem dX9_tells_89 : decode cX9_tells 89 = .ok (.istore 4, 2) := by decide +kernel
theorem dX9_tells_91 : decode cX9_tells 91 = .ok (.iload 4, 2) := by decide +kernel
theorem dX9_tells_93 : decode cX9_tells 93 = .ok (.aload_n 0, 1) := by decide +kernel
theorem dX9_tells_94 : decode cX9_tells 94 = .ok (.iload_n 1, 1) := by decide +kernel
theorem dX9_tells_95 : decode cX9_tells 95 = .ok (.iload_n 2, 1) := by decide +kernel
theorem dX9_tells_96 : decode cX9_tells 96 = .ok (.invokevirtual 280, 3) := by decide +kernel
theorem dX9_tells_99 : decode cX9_tells 99 = .ok (.isub, 1) := by decide +kernel
theorem dX9_tells_100 : decode cX9_tells 100 = .ok (.ireturn, 1) := by decide +kernel
theorem dX9_tells_101 : decode cX9_tells 101 = .ok (.aload_n 0, 1) := by decide +kernel
theorem dX9_tells_102 : decode cX9_tells 102 = .ok (.iload_n 1, 1) := by decide +kernel
theorem dX9_tells_103 : decode cX9_tells 103 = .ok (.iload_n 2, 1) := by decide +kernel
theorem dX9_tells_104 : decode cX9_tells 104 = .ok (.invokevirtual 280, 3) := by decide +kernel
theorem dX9_tells_107 : decode cX9_tells 107 = .ok (.ireturn, 1) := by decide +kernel
theorem dX9_act_0 : decode cX9_act 0 = .ok (.aload_n 0, 1) := by decide +kernel
theorem dX9_act_1 : decode cX9_act 1 = .ok (.iconst 0, 1) := by decide +kernel
theorem dX9_act_2 : decode cX9_act 2 = .ok (.putfield 114, 3) := by decide +kernel
theorem dX9_act_5 : decode cX9_act 5 = .ok (.aload_n 0, 1) := by decide +kernel
theorem dX9_act_6 : decode cX9_act 6 = .ok (.iload_n 1, 1) := by decide +kernel
theorem dX9_act_7 : decode cX9_act 7 = .ok (.invokevirtual 137, 3) := by decide +kernel
theorem dX9_act_10 : decode cX9_act 10 = .ok (.ifCond .eq 13, 3) := by decide +kernel
theorem dX9_act_13 : decode cX9_act 13 = .ok (.aload_n 0, 1) := by decide +kernel
theorem dX9_act_14 : decode cX9_act 14 = .ok (.iload_n 2, 1) := by decide +kernel
theorem dX9_act_15 : decode cX9_act 15 = .ok (.iconst 0, 1) := by decide +kernel
theorem dX9_act_16 : decode cX9_act 16 = .ok (.iconst 2, 1) := by decide +kernel
theorem dX9_act_17 : decode cX9_act 17 = .ok (.invokevirtual 133, 3) := by decide +kernel
theorem dX9_act_20 : decode cX9_act 20 = .ok (.ifCond .ne 5, 3) := by decide +kernel
theorem dX9_act_23 : decode cX9_act 23 = .ok (.iconst 0, 1) := by decide +kernel
theorem dX9_act_24 : decode cX9_act 24 = .ok (.ireturn, 1) := by decide +kernel
theorem dX9_act_25 : decode cX9_act 25 = .ok (.iload_n 2, 1) := by decide +kernel
theorem dX9_act_26 : decode cX9_act 26 = .ok (.ifCond .ne 12, 3) := by decide +kernel
theorem dX9_act_29 : decode cX9_act 29 = .ok (.aload_n 0, 1) := by decide +kernel
theorem dX9_act_30 : decode cX9_act 30 = .ok (.iload_n 1, 1) := by decide +kernel
theorem dX9_act_31 : decode cX9_act 31 = .ok (.iload_n 3, 1) := by decide +kernel
theorem dX9_act_32 : decode cX9_act 32 = .ok (.invokevirtual 268, 3) := by decide +kernel
theorem dX9_act_35 : decode cX9_act 35 = .ok (.goto 23, 3) := by decide +kernel
theorem dX9_act_38 : decode cX9_act 38 = .ok (.iload_n 2, 1) := by decide +kernel
theorem dX9_act_39 : decode cX9_act 39 = .ok (.iconst 1, 1) := by decide +kernel
theorem dX9_act_40 : decode cX9_act 40 = .ok (.if_icmp .ne 12, 3) := by decide +kernel
theorem dX9_act_43 : decode cX9_act 43 = .ok (.aload_n 0, 1) := by decide +kernel
theorem dX9_act_44 : decode cX9_act 44 = .ok (.iload_n 1, 1) := by decide +kernel
theorem dX9_act_45 : decode cX9_act 45 = .ok (.iload_n 3, 1) := by decide +kernel
theorem dX9_act_46 : decode cX9_act 46 = .ok (.invokevirtual 277, 3) := by decide +kernel
theorem dX9_act_49 : decode cX9_act 49 = .ok (.goto 9, 3) := by decide +kernel
theorem dX9_act_52 : decode cX9_act 52 = .ok (.aload_n 0, 1) := by decide +kernel
theorem dX9_act_53 : decode cX9_act 53 = .ok (.iload_n 1, 1) := by decide +kernel
theorem dX9_act_54 : decode cX9_act 54 = .ok (.iload_n 3, 1) := by decide +kernel
theorem dX9_act_55 : decode cX9_act 55 = .ok (.invokevirtual 283, 3) := by decide +kernel
theorem dX9_act_58 : decode cX9_act 58 = .ok (.ireturn, 1) := by decide +kernel
theorem dX9_trace_0 : decode cX9_trace 0 = .ok (.aload_n 0, 1) := by decide +kernel
theorem dX9_trace_1 : decode cX9_trace 1 = .ok (.iload_n 1, 1) := by decide +kernel
theorem dX9_trace_2 : decode cX9_trace 2 = .ok (.iconst 0, 1) := by decide +kernel
theorem dX9_trace_3 : decode cX9_trace 3 = .ok (.bipush 19, 2) := by decide +kernel
theorem dX9_trace_5 : decode cX9_trace 5 = .ok (.invokevirtual 133, 3) := by decide +kernel
theorem dX9_trace_8 : decode cX9_trace 8 = .ok (.ifCond .eq 20, 3) := by decide +kernel
theorem dX9_trace_11 : decode cX9_trace 11 = .ok (.iload_n 1, 1) := by decide +kernel
theorem dX9_trace_12 : decode cX9_trace 12 = .ok (.aload_n 0, 1) := by decide +kernel
theorem dX9_trace_13 : decode cX9_trace 13 = .ok (.getfield 114, 3) := by decide +kernel
theorem dX9_trace_16 : decode cX9_trace 16 = .ok (.if_icmp .ge 12, 3) := by decide +kernel
theorem dX9_trace_19 : decode cX9_trace 19 = .ok (.aload_n 0, 1) := by decide +kernel
theorem dX9_trace_20 : decode cX9_trace 20 = .ok (.getfield 117, 3) := by decide +kernel
theorem dX9_trace_23 : decode cX9_trace 23 = .ok (.iload_n 1, 1) := by decide +kernel
theorem dX9_trace_24 : decode cX9_trace 24 = .ok (.iaload, 1) := by decide +kernel
theorem dX9_trace_25 : decode cX9_trace 25 = .ok (.goto 4, 3) := by decide +kernel
theorem dX9_trace_28 : decode cX9_trace 28 = .ok (.iconst (-1), 1) := by decide +kernel
theorem dX9_trace_29 : decode cX9_trace 29 = .ok (.ireturn, 1) := by decide +kernel
theorem dX9_taken_0 : decode cX9_taken 0 = .ok (.aload_n 0, 1) := by decide +kernel
theorem dX9_taken_1 : decode cX9_taken 1 = .ok (.iload_n 2, 1) := by decide +kernel
theorem dX9_taken_2 : decode cX9_taken 2 = .ok (.iconst 0, 1) := by decide +kernel
theorem dX9_taken_3 : decode cX9_taken 3 = .ok (.bipush 6, 2) := by decide +kernel
theorem dX9_taken_5 : decode cX9_taken 5 = .ok (.invokevirtual 133, 3) := by decide +kernel
theorem dX9_taken_8 : decode cX9_taken 8 = .ok (.ifCond .ne 6, 3) := by decide +kernel
theorem dX9_taken_11 : decode cX9_taken 11 = .ok (.bipush (-2), 2) := by decide +kernel
theorem dX9_taken_13 : decode cX9_taken 13 = .ok (.ireturn, 1) := by decide +kernel
theorem dX9_taken_14 : decode cX9_taken 14 = .ok (.aload_n 0, 1) := by decide +kernel
theorem dX9_taken_15 : decode cX9_taken 15 = .ok (.iload_n 1, 1) := by decide +kernel
theorem dX9_taken_16 : decode cX9_taken 16 = .ok (.invokevirtual 137, 3) := by decide +kernel
theorem dX9_taken_19 : decode cX9_taken 19 = .ok (.ifCond .ne 6, 3) := by decide +kernel
theorem dX9_taken_22 : decode cX9_taken 22 = .ok (.bipush (-11), 2) := by decide +kernel
theorem dX9_taken_24 : decode cX9_taken 24 = .ok (.ireturn, 1) := by decide +kernel
theorem dX9_taken_25 : decode cX9_taken 25 = .ok (.aload_n 0, 1) := by decide +kernel
theorem dX9_taken_26 : decode cX9_taken 26 = .ok (.aload_n 0, 1) := by decide +kernel
theorem dX9_taken_27 : decode cX9_taken 27 = .ok (.getfield 23, 3) := by decide +kernel
theorem dX9_taken_30 : decode cX9_taken 30 = .ok (.iload_n 1, 1) := by decide +kernel
theorem dX9_taken_31 : decode cX9_taken 31 = .ok (.iaload, 1) := by decide +kernel
theorem dX9_taken_32 : decode cX9_taken 32 = .ok (.iload_n 2, 1) := by decide +kernel
theorem dX9_taken_33 : decode cX9_taken 33 = .ok (.invokevirtual 186, 3) := by decide +kernel
theorem dX9_taken_36 : decode cX9_taken 36 = .ok (.ifCond .eq 12, 3) := by decide +kernel
theorem dX9_taken_39 : decode cX9_taken 39 = .ok (.aload_n 0, 1) := by decide +kernel
theorem dX9_taken_40 : decode cX9_taken 40 = .ok (.getfield 23, 3) := by decide +kernel
theorem dX9_taken_43 : decode cX9_taken 43 = .ok (.iload_n 1, 1) := by decide +kernel
theorem dX9_taken_44 : decode cX9_taken 44 = .ok (.iaload, 1) := by decide +kernel
theorem dX9_taken_45 : decode cX9_taken 45 = .ok (.goto 5, 3) := by decide +kernel
theorem dX9_taken_48 : decode cX9_taken 48 = .ok (.bipush (-12), 2) := by decide +kernel
theorem dX9_taken_50 : decode cX9_taken 50 = .ok (.ireturn, 1) := by decide +kernel
theorem dX9_count_0 : decode cX9_count 0 = .ok (.iload_n 1, 1) := by decide +kernel
theorem dX9_count_1 : decode cX9_count 1 = .ok (.tableswitch 92 0 4 #[35, 40, 45, 50, 87], 35) := by decide +kernel
theorem dX9_count_36 : decode cX9_count 36 = .ok (.aload_n 0, 1) := by decide +kernel
theorem dX9_count_37 : decode cX9_count 37 = .ok (.getfield 7, 3) := by decide +kernel
theorem dX9_count_40 : decode cX9_count 40 = .ok (.ireturn, 1) := by decide +kernel
theorem dX9_count_41 : decode cX9_count 41 = .ok (.aload_n 0, 1) := by decide +kernel
theorem dX9_count_42 : decode cX9_count 42 = .ok (.getfield 38, 3) := by decide +kernel
theorem dX9_count_45 : decode cX9_count 45 = .ok (.ireturn, 1) := by decide +kernel
theorem dX9_count_46 : decode cX9_count 46 = .ok (.aload_n 0, 1) := by decide +kernel
theorem dX9_count_47 : decode cX9_count 47 = .ok (.getfield 41, 3) := by decide +kernel
theorem dX9_count_50 : decode cX9_count 50 = .ok (.ireturn, 1) := by decide +kernel
theorem dX9_count_51 : decode cX9_count 51 = .ok (.iconst 0, 1) := by decide +kernel
theorem dX9_count_52 : decode cX9_count 52 = .ok (.istore_n 2, 1) := by decide +kernel
theorem dX9_count_53 : decode cX9_count 53 = .ok (.iconst 0, 1) := by decide +kernel
theorem dX9_count_54 : decode cX9_count 54 = .ok (.istore_n 3, 1) := by decide +kernel
theorem dX9_count_55 : decode cX9_count 55 = .ok (.iload_n 3, 1) := by decide +kernel
theorem dX9_count_56 : decode cX9_count 56 = .ok (.aload_n 0, 1) := by decide +kernel
theorem dX9_count_57 : decode cX9_count 57 = .ok (.getfield 38, 3) := by decide +kernel
theorem dX9_count_60 : decode cX9_count 60 = .ok (.if_icmp .ge 26, 3) := by decide +kernel
theorem dX9_count_63 : decode cX9_count 63 = .ok (.iload_n 2, 1) := by decide +kernel
theorem dX9_count_64 : decode cX9_count 64 = .ok (.aload_n 0, 1) := by decide +kernel
theorem dX9_count_65 : decode cX9_count 65 = .ok (.getfield 50, 3) := by decide +kernel
theorem dX9_count_68 : decode cX9_count 68 = .ok (.iload_n 3, 1) := by decide +kernel
theorem dX9_count_69 : decode cX9_count 69 = .ok (.iaload, 1) := by decide +kernel
theorem dX9_count_70 : decode cX9_count 70 = .ok (.ifCond .ne 7, 3) := by decide +kernel
theorem dX9_count_73 : decode cX9_count 73 = .ok (.iconst 1, 1) := by decide +kernel
theorem dX9_count_74 : decode cX9_count 74 = .ok (.goto 4, 3) := by decide +kernel
theorem dX9_count_77 : decode cX9_count 77 = .ok (.iconst 0, 1) := by decide +kernel
theorem dX9_count_78 : decode cX9_count 78 = .ok (.iadd, 1) := by decide +kernel
theorem dX9_count_79 : decode cX9_count 79 = .ok (.istore_n 2, 1) := by decide +kernel
theorem dX9_count_80 : decode cX9_count 80 = .ok (.iinc 3 1, 3) := by decide +kernel
theorem dX9_count_83 : decode cX9_count 83 = .ok (.goto (-28), 3) := by decide +kernel
theorem dX9_count_86 : decode cX9_count 86 = .ok (.iload_n 2, 1) := by decide +kernel
theorem dX9_count_87 : decode cX9_count 87 = .ok (.ireturn, 1) := by decide +kernel
theorem dX9_count_88 : decode cX9_count 88 = .ok (.aload_n 0, 1) := by decide +kernel
theorem dX9_count_89 : decode cX9_count 89 = .ok (.getfield 114, 3) := by decide +kernel
theorem dX9_count_92 : decode cX9_count 92 = .ok (.ireturn, 1) := by decide +kernel
theorem dX9_count_93 : decode cX9_count 93 = .ok (.bipush (-2), 2) := by decide +kernel
theorem dX9_count_95 : decode cX9_count 95 = .ok (.ireturn, 1) := by decide +kernel
theorem dX9_isTape_0 : decode cX9_isTape 0 = .ok (.aload_n 0, 1) := by decide +kernel
theorem dX9_isTape_1 : decode cX9_isTape 1 = .ok (.iload_n 1, 1) := by decide +kernel
theorem dX9_isTape_2 : decode cX9_isTape 2 = .ok (.iconst 0, 1) := by decide +kernel
theorem dX9_isTape_3 : decode cX9_isTape 3 = .ok (.iconst 5, 1) := by decide +kernel
theorem dX9_isTape_4 : decode cX9_isTape 4 = .ok (.invokevirtual 133, 3) := by decide +kernel
theorem dX9_isTape_7 : decode cX9_isTape 7 = .ok (.ireturn, 1) := by decide +kernel
theorem dX9_tape_0 : decode cX9_tape 0 = .ok (.aload_n 0, 1) := by decide +kernel
theorem dX9_tape_1 : decode cX9_tape 1 = .ok (.iload_n 1, 1) := by decide +kernel
theorem dX9_tape_2 : decode cX9_tape 2 = .ok (.invokevirtual 255, 3) := by decide +kernel
theorem dX9_tape_5 : decode cX9_tape 5 = .ok (.ifCond .ne 5, 3) := by decide +kernel
theorem dX9_tape_8 : decode cX9_tape 8 = .ok (.iconst (-1), 1) := by decide +kernel
theorem dX9_tape_9 : decode cX9_tape 9 = .ok (.ireturn, 1) := by decide +kernel
theorem dX9_tape_10 : decode cX9_tape 10 = .ok (.aload_n 0, 1) := by decide +kernel
theorem dX9_tape_11 : decode cX9_tape 11 = .ok (.iload_n 2, 1) := by decide +kernel
theorem dX9_tape_12 : decode cX9_tape 12 = .ok (.iconst (-1), 1) := by decide +kernel
theorem dX9_tape_13 : decode cX9_tape 13 = .ok (.iconst 4, 1) := by decide +kernel
theorem dX9_tape_14 : decode cX9_tape 14 = .ok (.invokevirtual 133, 3) := by decide +kernel
theorem dX9_tape_17 : decode cX9_tape 17 = .ok (.ifCond .eq 13, 3) := by decide +kernel
theorem dX9_tape_20 : decode cX9_tape 20 = .ok (.iload_n 2, 1) := by decide +kernel
theorem dX9_tape_21 : decode cX9_tape 21 = .ok (.ifCond .lt 12, 3) := by decide +kernel
theorem dX9_tape_24 : decode cX9_tape 24 = .ok (.iload_n 3, 1) := by decide +kernel
theorem dX9_tape_25 : decode cX9_tape 25 = .ok (.bipush 60, 2) := by decide +kernel
theorem dX9_tape_27 : decode cX9_tape 27 = .ok (.if_icmp .le 6, 3) := by decide +kernel
theorem dX9_tape_30 : decode cX9_tape 30 = .ok (.bipush (-2), 2) := by decide +kernel
theorem dX9_tape_32 : decode cX9_tape 32 = .ok (.ireturn, 1) := by decide +kernel
theorem dX9_tape_33 : decode cX9_tape 33 = .ok (.iload_n 2, 1) := by decide +kernel
theorem dX9_tape_34 : decode cX9_tape 34 = .ok (.ifCond .lt 10, 3) := by decide +kernel
theorem dX9_tape_37 : decode cX9_tape 37 = .ok (.iload_n 3, 1) := by decide +kernel
theorem dX9_tape_38 : decode cX9_tape 38 = .ok (.ifCond .ge 6, 3) := by decide +kernel
theorem dX9_tape_41 : decode cX9_tape 41 = .ok (.bipush (-14), 2) := by decide +kernel
theorem dX9_tape_43 : decode cX9_tape 43 = .ok (.ireturn, 1) := by decide +kernel
theorem dX9_tape_44 : decode cX9_tape 44 = .ok (.aload_n 0, 1) := by decide +kernel
theorem dX9_tape_45 : decode cX9_tape 45 = .ok (.getfield 120, 3) := by decide +kernel
theorem dX9_tape_48 : decode cX9_tape 48 = .ok (.iload_n 1, 1) := by decide +kernel
theorem dX9_tape_49 : decode cX9_tape 49 = .ok (.iload_n 2, 1) := by decide +kernel
theorem dX9_tape_50 : decode cX9_tape 50 = .ok (.iastore, 1) := by decide +kernel
theorem dX9_tape_51 : decode cX9_tape 51 = .ok (.aload_n 0, 1) := by decide +kernel
theorem dX9_tape_52 : decode cX9_tape 52 = .ok (.getfield 123, 3) := by decide +kernel
theorem dX9_tape_55 : decode cX9_tape 55 = .ok (.iload_n 1, 1) := by decide +kernel
theorem dX9_tape_56 : decode cX9_tape 56 = .ok (.iload_n 2, 1) := by decide +kernel
theorem dX9_tape_57 : decode cX9_tape 57 = .ok (.ifCond .ge 7, 3) := by decide +kernel
theorem dX9_tape_60 : decode cX9_tape 60 = .ok (.iconst 0, 1) := by decide +kernel
theorem dX9_tape_61 : decode cX9_tape 61 = .ok (.goto 4, 3) := by decide +kernel
theorem dX9_tape_64 : decode cX9_tape 64 = .ok (.iload_n 3, 1) := by decide +kernel
theorem dX9_tape_65 : decode cX9_tape 65 = .ok (.iastore, 1) := by decide +kernel
theorem dX9_tape_66 : decode cX9_tape 66 = .ok (.iconst 0, 1) := by decide +kernel
theorem dX9_tape_67 : decode cX9_tape 67 = .ok (.istore 4, 2) := by decide +kernel
theorem dX9_tape_69 : decode cX9_tape 69 = .ok (.iload 4, 2) := by decide +kernel
theorem dX9_tape_71 : decode cX9_tape 71 = .ok (.bipush 60, 2) := by decide +kernel
theorem dX9_tape_73 : decode cX9_tape 73 = .ok (.if_icmp .ge 22, 3) := by decide +kernel
theorem dX9_tape_76 : decode cX9_tape 76 = .ok (.aload_n 0, 1) := by decide +kernel
theorem dX9_tape_77 : decode cX9_tape 77 = .ok (.getfield 126, 3) := by decide +kernel
theorem dX9_tape_80 : decode cX9_tape 80 = .ok (.bipush 60, 2) := by decide +kernel
theorem dX9_tape_82 : decode cX9_tape 82 = .ok (.iload_n 1, 1) := by decide +kernel
theorem dX9_tape_83 : decode cX9_tape 83 = .ok (.imul, 1) := by decide +kernel
theorem dX9_tape_84 : decode cX9_tape 84 = .ok (.iload 4, 2) := by decide +kernel
theorem dX9_tape_86 : decode cX9_tape 86 = .ok (.iadd, 1) := by decide +kernel
theorem dX9_tape_87 : decode cX9_tape 87 = .ok (.lconst 0, 1) := by decide +kernel
theorem dX9_tape_88 : decode cX9_tape 88 = .ok (.lastore, 1) := by decide +kernel
theorem dX9_tape_89 : decode cX9_tape 89 = .ok (.iinc 4 1, 3) := by decide +kernel
theorem dX9_tape_92 : decode cX9_tape 92 = .ok (.goto (-23), 3) := by decide +kernel
theorem dX9_tape_95 : decode cX9_tape 95 = .ok (.iconst 1, 1) := by decide +kernel
theorem dX9_tape_96 : decode cX9_tape 96 = .ok (.ireturn, 1) := by decide +kernel
theorem dX9_narrow_0 : decode cX9_narrow 0 = .ok (.iload_n 1, 1) := by decide +kernel
theorem dX9_narrow_1 : decode cX9_narrow 1 = .ok (.ifCond .ne 10, 3) := by decide +kernel
theorem dX9_narrow_4 : decode cX9_narrow 4 = .ok (.lload_n 2, 1) := by decide +kernel
theorem dX9_narrow_5 : decode cX9_narrow 5 = .ok (.l2i, 1) := by decide +kernel
theorem dX9_narrow_6 : decode cX9_narrow 6 = .ok (.i2b, 1) := by decide +kernel
theorem dX9_narrow_7 : decode cX9_narrow 7 = .ok (.i2l, 1) := by decide +kernel
theorem dX9_narrow_8 : decode cX9_narrow 8 = .ok (.goto 46, 3) := by decide +kernel
theorem dX9_narrow_11 : decode cX9_narrow 11 = .ok (.iload_n 1, 1) := by decide +kernel
theorem dX9_narrow_12 : decode cX9_narrow 12 = .ok (.iconst 1, 1) := by decide +kernel
theorem dX9_narrow_13 : decode cX9_narrow 13 = .ok (.if_icmp .ne 10, 3) := by decide +kernel
theorem dX9_narrow_16 : decode cX9_narrow 16 = .ok (.lload_n 2, 1) := by decide +kernel
theorem dX9_narrow_17 : decode cX9_narrow 17 = .ok (.l2i, 1) := by decide +kernel
theorem dX9_narrow_18 : decode cX9_narrow 18 = .ok (.i2s, 1) := by decide +kernel
theorem dX9_narrow_19 : decode cX9_narrow 19 = .ok (.i2l, 1) := by decide +kernel
theorem dX9_narrow_20 : decode cX9_narrow 20 = .ok (.goto 34, 3) := by decide +kernel
theorem dX9_narrow_23 : decode cX9_narrow 23 = .ok (.iload_n 1, 1) := by decide +kernel
theorem dX9_narrow_24 : decode cX9_narrow 24 = .ok (.iconst 2, 1) := by decide +kernel
theorem dX9_narrow_25 : decode cX9_narrow 25 = .ok (.if_icmp .ne 9, 3) := by decide +kernel
theorem dX9_narrow_28 : decode cX9_narrow 28 = .ok (.lload_n 2, 1) := by decide +kernel
theorem dX9_narrow_29 : decode cX9_narrow 29 = .ok (.l2i, 1) := by decide +kernel
theorem dX9_narrow_30 : decode cX9_narrow 30 = .ok (.i2l, 1) := by decide +kernel
theorem dX9_narrow_31 : decode cX9_narrow 31 = .ok (.goto 23, 3) := by decide +kernel
theorem dX9_narrow_34 : decode cX9_narrow 34 = .ok (.iload_n 1, 1) := by decide +kernel
theorem dX9_narrow_35 : decode cX9_narrow 35 = .ok (.iconst 4, 1) := by decide +kernel
theorem dX9_narrow_36 : decode cX9_narrow 36 = .ok (.if_icmp .ne 17, 3) := by decide +kernel
theorem dX9_narrow_39 : decode cX9_narrow 39 = .ok (.lload_n 2, 1) := by decide +kernel
theorem dX9_narrow_40 : decode cX9_narrow 40 = .ok (.lconst 0, 1) := by decide +kernel
theorem dX9_narrow_41 : decode cX9_narrow 41 = .ok (.lcmp, 1) := by decide +kernel
theorem dX9_narrow_42 : decode cX9_narrow 42 = .ok (.ifCond .eq 7, 3) := by decide +kernel
theorem dX9_narrow_45 : decode cX9_narrow 45 = .ok (.lconst 1, 1) := by decide +kernel
theorem dX9_narrow_46 : decode cX9_narrow 46 = .ok (.goto 8, 3) := by decide +kernel
theorem dX9_narrow_49 : decode cX9_narrow 49 = .ok (.lconst 0, 1) := by decide +kernel
theorem dX9_narrow_50 : decode cX9_narrow 50 = .ok (.goto 4, 3) := by decide +kernel
theorem dX9_narrow_53 : decode cX9_narrow 53 = .ok (.lload_n 2, 1) := by decide +kernel
theorem dX9_narrow_54 : decode cX9_narrow 54 = .ok (.lreturn, 1) := by decide +kernel
theorem dX9_item_0 : decode cX9_item 0 = .ok (.aload_n 0, 1) := by decide +kernel
theorem dX9_item_1 : decode cX9_item 1 = .ok (.iload_n 1, 1) := by decide +kernel
theorem dX9_item_2 : decode cX9_item 2 = .ok (.invokevirtual 255, 3) := by decide +kernel
theorem dX9_item_5 : decode cX9_item 5 = .ok (.ifCond .ne 5, 3) := by decide +kernel
theorem dX9_item_8 : decode cX9_item 8 = .ok (.iconst (-1), 1) := by decide +kernel
theorem dX9_item_9 : decode cX9_item 9 = .ok (.ireturn, 1) := by decide +kernel
theorem dX9_item_10 : decode cX9_item 10 = .ok (.aload_n 0, 1) := by decide +kernel
theorem dX9_item_11 : decode cX9_item 11 = .ok (.getfield 120, 3) := by decide +kernel
theorem dX9_item_14 : decode cX9_item 14 = .ok (.iload_n 1, 1) := by decide +kernel
theorem dX9_item_15 : decode cX9_item 15 = .ok (.iaload, 1) := by decide +kernel
theorem dX9_item_16 : decode cX9_item 16 = .ok (.ifCond .ge 6, 3) := by decide +kernel
theorem dX9_item_19 : decode cX9_item 19 = .ok (.bipush (-11), 2) := by decide +kernel
theorem dX9_item_21 : decode cX9_item 21 = .ok (.ireturn, 1) := by decide +kernel
theorem dX9_item_22 : decode cX9_item 22 = .ok (.aload_n 0, 1) := by decide +kernel
theorem dX9_item_23 : decode cX9_item 23 = .ok (.iload_n 2, 1) := by decide +kernel
theorem dX9_item_24 : decode cX9_item 24 = .ok (.iconst 0, 1) := by decide +kernel
theorem dX9_item_25 : decode cX9_item 25 = .ok (.aload_n 0, 1) := by decide +kernel
theorem dX9_item_26 : decode cX9_item 26 = .ok (.getfield 123, 3) := by decide +kernel
theorem dX9_item_29 : decode cX9_item 29 = .ok (.iload_n 1, 1) := by decide +kernel
theorem dX9_item_30 : decode cX9_item 30 = .ok (.iaload, 1) := by decide +kernel
theorem dX9_item_31 : decode cX9_item 31 = .ok (.iconst 1, 1) := by decide +kernel
theorem dX9_item_32 : decode cX9_item 32 = .ok (.isub, 1) := by decide +kernel
theorem dX9_item_33 : decode cX9_item 33 = .ok (.invokevirtual 133, 3) := by decide +kernel
theorem dX9_item_36 : decode cX9_item 36 = .ok (.ifCond .ne 6, 3) := by decide +kernel
theorem dX9_item_39 : decode cX9_item 39 = .ok (.bipush (-13), 2) := by decide +kernel
theorem dX9_item_41 : decode cX9_item 41 = .ok (.ireturn, 1) := by decide +kernel
theorem dX9_item_42 : decode cX9_item 42 = .ok (.aload_n 0, 1) := by decide +kernel
theorem dX9_item_43 : decode cX9_item 43 = .ok (.getfield 126, 3) := by decide +kernel
theorem dX9_item_46 : decode cX9_item 46 = .ok (.bipush 60, 2) := by decide +kernel
theorem dX9_item_48 : decode cX9_item 48 = .ok (.iload_n 1, 1) := by decide +kernel
theorem dX9_item_49 : decode cX9_item 49 = .ok (.imul, 1) := by decide +kernel
theorem dX9_item_50 : decode cX9_item 50 = .ok (.iload_n 2, 1) := by decide +kernel
theorem dX9_item_51 : decode cX9_item 51 = .ok (.iadd, 1) := by decide +kernel
theorem dX9_item_52 : decode cX9_item 52 = .ok (.aload_n 0, 1) := by decide +kernel
theorem dX9_item_53 : decode cX9_item 53 = .ok (.aload_n 0, 1) := by decide +kernel
theorem dX9_item_54 : decode cX9_item 54 = .ok (.getfield 120, 3) := by decide +kernel
theorem dX9_item_57 : decode cX9_item 57 = .ok (.iload_n 1, 1) := by decide +kernel
theorem dX9_item_58 : decode cX9_item 58 = .ok (.iaload, 1) := by decide +kernel
theorem dX9_item_59 : decode cX9_item 59 = .ok (.lload_n 3, 1) := by decide +kernel
theorem dX9_item_60 : decode cX9_item 60 = .ok (.invokevirtual 286, 3) := by decide +kernel
theorem dX9_item_63 : decode cX9_item 63 = .ok (.lastore, 1) := by decide +kernel
theorem dX9_item_64 : decode cX9_item 64 = .ok (.iconst 1, 1) := by decide +kernel
theorem dX9_item_65 : decode cX9_item 65 = .ok (.ireturn, 1) := by decide +kernel
theorem dX9_read_0 : decode cX9_read 0 = .ok (.aload_n 0, 1) := by decide +kernel
theorem dX9_read_1 : decode cX9_read 1 = .ok (.iload_n 1, 1) := by decide +kernel
theorem dX9_read_2 : decode cX9_read 2 = .ok (.invokevirtual 255, 3) := by decide +kernel
theorem dX9_read_5 : decode cX9_read 5 = .ok (.ifCond .eq 29, 3) := by decide +kernel
theorem dX9_read_8 : decode cX9_read 8 = .ok (.aload_n 0, 1) := by decide +kernel
theorem dX9_read_9 : decode cX9_read 9 = .ok (.getfield 120, 3) := by decide +kernel
theorem dX9_read_12 : decode cX9_read 12 = .ok (.iload_n 1, 1) := by decide +kernel
theorem dX9_read_13 : decode cX9_read 13 = .ok (.iaload, 1) := by decide +kernel
theorem dX9_read_14 : decode cX9_read 14 = .ok (.ifCond .lt 20, 3) := by decide +kernel
theorem dX9_read_17 : decode cX9_read 17 = .ok (.aload_n 0, 1) := by decide +kernel
theorem dX9_read_18 : decode cX9_read 18 = .ok (.iload_n 2, 1) := by decide +kernel
theorem dX9_read_19 : decode cX9_read 19 = .ok (.iconst 0, 1) := by decide +kernel
theorem dX9_read_20 : decode cX9_read 20 = .ok (.aload_n 0, 1) := by decide +kernel
theorem dX9_read_21 : decode cX9_read 21 = .ok (.getfield 123, 3) := by decide +kernel
theorem dX9_read_24 : decode cX9_read 24 = .ok (.iload_n 1, 1) := by decide +kernel
theorem dX9_read_25 : decode cX9_read 25 = .ok (.iaload, 1) := by decide +kernel
theorem dX9_read_26 : decode cX9_read 26 = .ok (.iconst 1, 1) := by decide +kernel
theorem dX9_read_27 : decode cX9_read 27 = .ok (.isub, 1) := by decide +kernel
theorem dX9_read_28 : decode cX9_read 28 = .ok (.invokevirtual 133, 3) := by decide +kernel
theorem dX9_read_31 : decode cX9_read 31 = .ok (.ifCond .ne 9, 3) := by decide +kernel
theorem dX9_read_34 : decode cX9_read 34 = .ok (.ldc2_w 290, 3) := by decide +kernel
theorem dX9_read_37 : decode cX9_read 37 = .ok (.goto 14, 3) := by decide +kernel
theorem dX9_read_40 : decode cX9_read 40 = .ok (.aload_n 0, 1) := by decide +kernel
theorem dX9_read_41 : decode cX9_read 41 = .ok (.getfield 126, 3) := by decide +kernel
theorem dX9_read_44 : decode cX9_read 44 = .ok (.bipush 60, 2) := by decide +kernel
theorem dX9_read_46 : decode cX9_read 46 = .ok (.iload_n 1, 1) := by decide +kernel
theorem dX9_read_47 : decode cX9_read 47 = .ok (.imul, 1) := by decide +kernel
theorem dX9_read_48 : decode cX9_read 48 = .ok (.iload_n 2, 1) := by decide +kernel
theorem dX9_read_49 : decode cX9_read 49 = .ok (.iadd, 1) := by decide +kernel
theorem dX9_read_50 : decode cX9_read 50 = .ok (.laload, 1) := by decide +kernel
theorem dX9_read_51 : decode cX9_read 51 = .ok (.lreturn, 1) := by decide +kernel
theorem dX9_shift_0 : decode cX9_shift 0 = .ok (.aload_n 0, 1) := by decide +kernel
theorem dX9_shift_1 : decode cX9_shift 1 = .ok (.iload_n 1, 1) := by decide +kernel
theorem dX9_shift_2 : decode cX9_shift 2 = .ok (.invokevirtual 255, 3) := by decide +kernel
theorem dX9_shift_5 : decode cX9_shift 5 = .ok (.ifCond .eq 11, 3) := by decide +kernel
theorem dX9_shift_8 : decode cX9_shift 8 = .ok (.aload_n 0, 1) := by decide +kernel
theorem dX9_shift_9 : decode cX9_shift 9 = .ok (.iload_n 3, 1) := by decide +kernel
theorem dX9_shift_10 : decode cX9_shift 10 = .ok (.invokevirtual 255, 3) := by decide +kernel
theorem dX9_shift_13 : decode cX9_shift 13 = .ok (.ifCond .ne 5, 3) := by decide +kernel
theorem dX9_shift_16 : decode cX9_shift 16 = .ok (.iconst (-1), 1) := by decide +kernel
theorem dX9_shift_17 : decode cX9_shift 17 = .ok (.ireturn, 1) := by decide +kernel
theorem dX9_shift_18 : decode cX9_shift 18 = .ok (.aload_n 0, 1) := by decide +kernel
theorem dX9_shift_19 : decode cX9_shift 19 = .ok (.getfield 120, 3) := by decide +kernel
theorem dX9_shift_22 : decode cX9_shift 22 = .ok (.iload_n 1, 1) := by decide +kernel
theorem dX9_shift_23 : decode cX9_shift 23 = .ok (.iaload, 1) := by decide +kernel
theorem dX9_shift_24 : decode cX9_shift 24 = .ok (.ifCond .lt 12, 3) := by decide +kernel
theorem dX9_shift_27 : decode cX9_shift 27 = .ok (.aload_n 0, 1) := by decide +kernel
theorem dX9_shift_28 : decode cX9_shift 28 = .ok (.getfield 120, 3) := by decide +kernel
theorem dX9_shift_31 : decode cX9_shift 31 = .ok (.iload_n 3, 1) := by decide +kernel
theorem dX9_shift_32 : decode cX9_shift 32 = .ok (.iaload, 1) := by decide +kernel
theorem dX9_shift_33 : decode cX9_shift 33 = .ok (.ifCond .ge 6, 3) := by decide +kernel
theorem dX9_shift_36 : decode cX9_shift 36 = .ok (.bipush (-11), 2) := by decide +kernel
theorem dX9_shift_38 : decode cX9_shift 38 = .ok (.ireturn, 1) := by decide +kernel
theorem dX9_shift_39 : decode cX9_shift 39 = .ok (.aload_n 0, 1) := by decide +kernel
theorem dX9_shift_40 : decode cX9_shift 40 = .ok (.getfield 120, 3) := by decide +kernel
theorem dX9_shift_43 : decode cX9_shift 43 = .ok (.iload_n 1, 1) := by decide +kernel
theorem dX9_shift_44 : decode cX9_shift 44 = .ok (.iaload, 1) := by decide +kernel
theorem dX9_shift_45 : decode cX9_shift 45 = .ok (.aload_n 0, 1) := by decide +kernel
theorem dX9_shift_46 : decode cX9_shift 46 = .ok (.getfield 120, 3) := by decide +kernel
theorem dX9_shift_49 : decode cX9_shift 49 = .ok (.iload_n 3, 1) := by decide +kernel
theorem dX9_shift_50 : decode cX9_shift 50 = .ok (.iaload, 1) := by decide +kernel
theorem dX9_shift_51 : decode cX9_shift 51 = .ok (.if_icmp .eq 6, 3) := by decide +kernel
theorem dX9_shift_54 : decode cX9_shift 54 = .ok (.bipush (-12), 2) := by decide +kernel
theorem dX9_shift_56 : decode cX9_shift 56 = .ok (.ireturn, 1) := by decide +kernel
theorem dX9_shift_57 : decode cX9_shift 57 = .ok (.iload 5, 2) := by decide +kernel
theorem dX9_shift_59 : decode cX9_shift 59 = .ok (.ifCond .lt 39, 3) := by decide +kernel
theorem dX9_shift_62 : decode cX9_shift 62 = .ok (.iload_n 2, 1) := by decide +kernel
theorem dX9_shift_63 : decode cX9_shift 63 = .ok (.ifCond .lt 35, 3) := by decide +kernel
theorem dX9_shift_66 : decode cX9_shift 66 = .ok (.iload 4, 2) := by decide +kernel
theorem dX9_shift_68 : decode cX9_shift 68 = .ok (.ifCond .lt 30, 3) := by decide +kernel
theorem dX9_shift_71 : decode cX9_shift 71 = .ok (.iload_n 2, 1) := by decide +kernel
theorem dX9_shift_72 : decode cX9_shift 72 = .ok (.aload_n 0, 1) := by decide +kernel
theorem dX9_shift_73 : decode cX9_shift 73 = .ok (.getfield 123, 3) := by decide +kernel
theorem dX9_shift_76 : decode cX9_shift 76 = .ok (.iload_n 1, 1) := by decide +kernel
theorem dX9_shift_77 : decode cX9_shift 77 = .ok (.iaload, 1) := by decide +kernel
theorem dX9_shift_78 : decode cX9_shift 78 = .ok (.iload 5, 2) := by decide +kernel
theorem dX9_shift_80 : decode cX9_shift 80 = .ok (.isub, 1) := by decide +kernel
theorem dX9_shift_81 : decode cX9_shift 81 = .ok (.if_icmp .gt 17, 3) := by decide +kernel
theorem dX9_shift_84 : decode cX9_shift 84 = .ok (.iload 4, 2) := by decide +kernel
theorem dX9_shift_86 : decode cX9_shift 86 = .ok (.aload_n 0, 1) := by decide +kernel
theorem dX9_shift_87 : decode cX9_shift 87 = .ok (.getfield 123, 3) := by decide +kernel
theorem dX9_shift_90 : decode cX9_shift 90 = .ok (.iload_n 3, 1) := by decide +kernel
theorem dX9_shift_91 : decode cX9_shift 91 = .ok (.iaload, 1) := by decide +kernel
theorem dX9_shift_92 : decode cX9_shift 92 = .ok (.iload 5, 2) := by decide +kernel
theorem dX9_shift_94 : decode cX9_shift 94 = .ok (.isub, 1) := by decide +kernel
theorem dX9_shift_95 : decode cX9_shift 95 = .ok (.if_icmp .le 6, 3) := by decide +kernel
theorem dX9_shift_98 : decode cX9_shift 98 = .ok (.bipush (-13), 2) := by decide +kernel
theorem dX9_shift_100 : decode cX9_shift 100 = .ok (.ireturn, 1) := by decide +kernel
theorem dX9_shift_101 : decode cX9_shift 101 = .ok (.iconst 0, 1) := by decide +kernel
theorem dX9_shift_102 : decode cX9_shift 102 = .ok (.istore 6, 2) := by decide +kernel
theorem dX9_shift_104 : decode cX9_shift 104 = .ok (.iload 6, 2) := by decide +kernel
theorem dX9_shift_106 : decode cX9_shift 106 = .ok (.iload 5, 2) := by decide +kernel
theorem dX9_shift_108 : decode cX9_shift 108 = .ok (.if_icmp .ge 30, 3) := by decide +kernel
theorem dX9_shift_111 : decode cX9_shift 111 = .ok (.aload_n 0, 1) := by decide +kernel
theorem dX9_shift_112 : decode cX9_shift 112 = .ok (.getfield 130, 3) := by decide +kernel
theorem dX9_shift_115 : decode cX9_shift 115 = .ok (.iload 6, 2) := by decide +kernel
theorem dX9_shift_117 : decode cX9_shift 117 = .ok (.aload_n 0, 1) := by decide +kernel
theorem dX9_shift_118 : decode cX9_shift 118 = .ok (.getfield 126, 3) := by decide +kernel
theorem dX9_shift_121 : decode cX9_shift 121 = .ok (.bipush 60, 2) := by decide +kernel
theorem dX9_shift_123 : decode cX9_shift 123 = .ok (.iload_n 1, 1) := by decide +kernel
theorem dX9_shift_124 : decode cX9_shift 124 = .ok (.imul, 1) := by decide +kernel
theorem dX9_shift_125 : decode cX9_shift 125 = .ok (.iload_n 2, 1) := by decide +kernel
theorem dX9_shift_126 : decode cX9_shift 126 = .ok (.iadd, 1) := by decide +kernel
theorem dX9_shift_127 : decode cX9_shift 127 = .ok (.iload 6, 2) := by decide +kernel
theorem dX9_shift_129 : decode cX9_shift 129 = .ok (.iadd, 1) := by decide +kernel
theorem dX9_shift_130 : decode cX9_shift 130 = .ok (.laload, 1) := by decide +kernel
theorem dX9_shift_131 : decode cX9_shift 131 = .ok (.lastore, 1) := by decide +kernel
theorem dX9_shift_132 : decode cX9_shift 132 = .ok (.iinc 6 1, 3) := by decide +kernel
theorem dX9_shift_135 : decode cX9_shift 135 = .ok (.goto (-31), 3) := by decide +kernel
theorem dX9_shift_138 : decode cX9_shift 138 = .ok (.iconst 0, 1) := by decide +kernel
theorem dX9_shift_139 : decode cX9_shift 139 = .ok (.istore 6, 2) := by decide +kernel
theorem dX9_shift_141 : decode cX9_shift 141 = .ok (.iload 6, 2) := by decide +kernel
theorem dX9_shift_143 : decode cX9_shift 143 = .ok (.iload 5, 2) := by decide +kernel
theorem dX9_shift_145 : decode cX9_shift 145 = .ok (.if_icmp .ge 31, 3) := by decide +kernel
theorem dX9_shift_148 : decode cX9_shift 148 = .ok (.aload_n 0, 1) := by decide +kernel
theorem dX9_shift_149 : decode cX9_shift 149 = .ok (.getfield 126, 3) := by decide +kernel
theorem dX9_shift_152 : decode cX9_shift 152 = .ok (.bipush 60, 2) := by decide +kernel
theorem dX9_shift_154 : decode cX9_shift 154 = .ok (.iload_n 3, 1) := by decide +kernel
theorem dX9_shift_155 : decode cX9_shift 155 = .ok (.imul, 1) := by decide +kernel
theorem dX9_shift_156 : decode cX9_shift 156 = .ok (.iload 4, 2) := by decide +kernel
theorem dX9_shift_158 : decode cX9_shift 158 = .ok (.iadd, 1) := by decide +kernel
theorem dX9_shift_159 : decode cX9_shift 159 = .ok (.iload 6, 2) := by decide +kernel
theorem dX9_shift_161 : decode cX9_shift 161 = .ok (.iadd, 1) := by decide +kernel
theorem dX9_shift_162 : decode cX9_shift 162 = .ok (.aload_n 0, 1) := by decide +kernel
theorem dX9_shift_163 : decode cX9_shift 163 = .ok (.getfield 130, 3) := by decide +kernel
theorem dX9_shift_166 : decode cX9_shift 166 = .ok (.iload 6, 2) := by decide +kernel
theorem dX9_shift_168 : decode cX9_shift 168 = .ok (.laload, 1) := by decide +kernel
theorem dX9_shift_169 : decode cX9_shift 169 = .ok (.lastore, 1) := by decide +kernel
theorem dX9_shift_170 : decode cX9_shift 170 = .ok (.iinc 6 1, 3) := by decide +kernel
theorem dX9_shift_173 : decode cX9_shift 173 = .ok (.goto (-32), 3) := by decide +kernel
theorem dX9_shift_176 : decode cX9_shift 176 = .ok (.iload 5, 2) := by decide +kernel
theorem dX9_shift_178 : decode cX9_shift 178 = .ok (.ireturn, 1) := by decide +kernel
