/-! walks: X10_tenth X10_start X10_tenths X10_round X10_bring X10_right X10_about X10_said X10_play. Written by wip/programs/parts.py. -/
theorem dX10_tenth_0 : decode cX10_tenth 0 = .ok (.iconst 0, 1) := by decide +kernel
theorem dX10_tenth_1 : decode cX10_tenth 1 = .ok (.istore_n 1, 1) := by decide +kernel
theorem dX10_tenth_2 : decode cX10_tenth 2 = .ok (.iload_n 1, 1) := by decide +kernel
theorem dX10_tenth_3 : decode cX10_tenth 3 = .ok (.aload_n 0, 1) := by decide +kernel
theorem dX10_tenth_4 : decode cX10_tenth 4 = .ok (.getfield 20, 3) := by decide +kernel
theorem dX10_tenth_7 : decode cX10_tenth 7 = .ok (.bipush 95, 2) := by decide +kernel
theorem dX10_tenth_9 : decode cX10_tenth 9 = .ok (.iaload, 1) := by decide +kernel
theorem dX10_tenth_10 : decode cX10_tenth 10 = .ok (.if_icmp .ge 130, 3) := by decide +kernel
theorem dX10_tenth_13 : decode cX10_tenth 13 = .ok (.aload_n 0, 1) := by decide +kernel
theorem dX10_tenth_14 : decode cX10_tenth 14 = .ok (.getfield 26, 3) := by decide +kernel
theorem dX10_tenth_17 : decode cX10_tenth 17 = .ok (.bipush 39, 2) := by decide +kernel
theorem dX10_tenth_19 : decode cX10_tenth 19 = .ok (.iload_n 1, 1) := by decide +kernel
theorem dX10_tenth_20 : decode cX10_tenth 20 = .ok (.iadd, 1) := by decide +kernel
theorem dX10_tenth_21 : decode cX10_tenth 21 = .ok (.aload_n 0, 1) := by decide +kernel
theorem dX10_tenth_22 : decode cX10_tenth 22 = .ok (.iload_n 1, 1) := by decide +kernel
theorem dX10_tenth_23 : decode cX10_tenth 23 = .ok (.invokevirtual 240, 3) := by decide +kernel
theorem dX10_tenth_26 : decode cX10_tenth 26 = .ok (.ifCond .eq 7, 3) := by decide +kernel
theorem dX10_tenth_29 : decode cX10_tenth 29 = .ok (.iconst 1, 1) := by decide +kernel
theorem dX10_tenth_30 : decode cX10_tenth 30 = .ok (.goto 4, 3) := by decide +kernel
theorem dX10_tenth_33 : decode cX10_tenth 33 = .ok (.iconst 0, 1) := by decide +kernel
theorem dX10_tenth_34 : decode cX10_tenth 34 = .ok (.iastore, 1) := by decide +kernel
theorem dX10_tenth_35 : decode cX10_tenth 35 = .ok (.aload_n 0, 1) := by decide +kernel
theorem dX10_tenth_36 : decode cX10_tenth 36 = .ok (.getfield 26, 3) := by decide +kernel
theorem dX10_tenth_39 : decode cX10_tenth 39 = .ok (.bipush 14, 2) := by decide +kernel
theorem dX10_tenth_41 : decode cX10_tenth 41 = .ok (.iload_n 1, 1) := by decide +kernel
theorem dX10_tenth_42 : decode cX10_tenth 42 = .ok (.iadd, 1) := by decide +kernel
theorem dX10_tenth_43 : decode cX10_tenth 43 = .ok (.dup2, 1) := by decide +kernel
theorem dX10_tenth_44 : decode cX10_tenth 44 = .ok (.iaload, 1) := by decide +kernel
theorem dX10_tenth_45 : decode cX10_tenth 45 = .ok (.aload_n 0, 1) := by decide +kernel
theorem dX10_tenth_46 : decode cX10_tenth 46 = .ok (.getfield 26, 3) := by decide +kernel
theorem dX10_tenth_49 : decode cX10_tenth 49 = .ok (.bipush 39, 2) := by decide +kernel
theorem dX10_tenth_51 : decode cX10_tenth 51 = .ok (.iload_n 1, 1) := by decide +kernel
theorem dX10_tenth_52 : decode cX10_tenth 52 = .ok (.iadd, 1) := by decide +kernel
theorem dX10_tenth_53 : decode cX10_tenth 53 = .ok (.iaload, 1) := by decide +kernel
theorem dX10_tenth_54 : decode cX10_tenth 54 = .ok (.iadd, 1) := by decide +kernel
theorem dX10_tenth_55 : decode cX10_tenth 55 = .ok (.iastore, 1) := by decide +kernel
theorem dX10_tenth_56 : decode cX10_tenth 56 = .ok (.aload_n 0, 1) := by decide +kernel
theorem dX10_tenth_57 : decode cX10_tenth 57 = .ok (.getfield 26, 3) := by decide +kernel
theorem dX10_tenth_60 : decode cX10_tenth 60 = .ok (.bipush 14, 2) := by decide +kernel
theorem dX10_tenth_62 : decode cX10_tenth 62 = .ok (.iload_n 1, 1) := by decide +kernel
theorem dX10_tenth_63 : decode cX10_tenth 63 = .ok (.iadd, 1) := by decide +kernel
theorem dX10_tenth_64 : decode cX10_tenth 64 = .ok (.iaload, 1) := by decide +kernel
theorem dX10_tenth_65 : decode cX10_tenth 65 = .ok (.aload_n 0, 1) := by decide +kernel
theorem dX10_tenth_66 : decode cX10_tenth 66 = .ok (.getfield 20, 3) := by decide +kernel
theorem dX10_tenth_69 : decode cX10_tenth 69 = .ok (.bipush 61, 2) := by decide +kernel
theorem dX10_tenth_71 : decode cX10_tenth 71 = .ok (.iload_n 1, 1) := by decide +kernel
theorem dX10_tenth_72 : decode cX10_tenth 72 = .ok (.iadd, 1) := by decide +kernel
theorem dX10_tenth_73 : decode cX10_tenth 73 = .ok (.iaload, 1) := by decide +kernel
theorem dX10_tenth_74 : decode cX10_tenth 74 = .ok (.if_icmp .ge 6, 3) := by decide +kernel
theorem dX10_tenth_77 : decode cX10_tenth 77 = .ok (.goto 57, 3) := by decide +kernel
theorem dX10_tenth_80 : decode cX10_tenth 80 = .ok (.aload_n 0, 1) := by decide +kernel
theorem dX10_tenth_81 : decode cX10_tenth 81 = .ok (.getfield 26, 3) := by decide +kernel
theorem dX10_tenth_84 : decode cX10_tenth 84 = .ok (.bipush 14, 2) := by decide +kernel
theorem dX10_tenth_86 : decode cX10_tenth 86 = .ok (.iload_n 1, 1) := by decide +kernel
theorem dX10_tenth_87 : decode cX10_tenth 87 = .ok (.iadd, 1) := by decide +kernel
theorem dX10_tenth_88 : decode cX10_tenth 88 = .ok (.iconst 0, 1) := by decide +kernel
theorem dX10_tenth_89 : decode cX10_tenth 89 = .ok (.iastore, 1) := by decide +kernel
theorem dX10_tenth_90 : decode cX10_tenth 90 = .ok (.aload_n 0, 1) := by decide +kernel
theorem dX10_tenth_91 : decode cX10_tenth 91 = .ok (.getfield 26, 3) := by decide +kernel
theorem dX10_tenth_94 : decode cX10_tenth 94 = .ok (.bipush 9, 2) := by decide +kernel
theorem dX10_tenth_96 : decode cX10_tenth 96 = .ok (.iload_n 1, 1) := by decide +kernel
theorem dX10_tenth_97 : decode cX10_tenth 97 = .ok (.iadd, 1) := by decide +kernel
theorem dX10_tenth_98 : decode cX10_tenth 98 = .ok (.dup2, 1) := by decide +kernel
theorem dX10_tenth_99 : decode cX10_tenth 99 = .ok (.iaload, 1) := by decide +kernel
theorem dX10_tenth_100 : decode cX10_tenth 100 = .ok (.iconst 1, 1) := by decide +kernel
theorem dX10_tenth_101 : decode cX10_tenth 101 = .ok (.iadd, 1) := by decide +kernel
theorem dX10_tenth_102 : decode cX10_tenth 102 = .ok (.iastore, 1) := by decide +kernel
theorem dX10_tenth_103 : decode cX10_tenth 103 = .ok (.aload_n 0, 1) := by decide +kernel
theorem dX10_tenth_104 : decode cX10_tenth 104 = .ok (.getfield 26, 3) := by decide +kernel
theorem dX10_tenth_107 : decode cX10_tenth 107 = .ok (.iconst 2, 1) := by decide +kernel
theorem dX10_tenth_108 : decode cX10_tenth 108 = .ok (.dup2, 1) := by decide +kernel
theorem dX10_tenth_109 : decode cX10_tenth 109 = .ok (.iaload, 1) := by decide +kernel
theorem dX10_tenth_110 : decode cX10_tenth 110 = .ok (.aload_n 0, 1) := by decide +kernel
theorem dX10_tenth_111 : decode cX10_tenth 111 = .ok (.aload_n 0, 1) := by decide +kernel
theorem dX10_tenth_112 : decode cX10_tenth 112 = .ok (.getfield 20, 3) := by decide +kernel
theorem dX10_tenth_115 : decode cX10_tenth 115 = .ok (.bipush 56, 2) := by decide +kernel
theorem dX10_tenth_117 : decode cX10_tenth 117 = .ok (.iload_n 1, 1) := by decide +kernel
theorem dX10_tenth_118 : decode cX10_tenth 118 = .ok (.iadd, 1) := by decide +kernel
theorem dX10_tenth_119 : decode cX10_tenth 119 = .ok (.iaload, 1) := by decide +kernel
theorem dX10_tenth_120 : decode cX10_tenth 120 = .ok (.aload_n 0, 1) := by decide +kernel
theorem dX10_tenth_121 : decode cX10_tenth 121 = .ok (.getfield 26, 3) := by decide +kernel
theorem dX10_tenth_124 : decode cX10_tenth 124 = .ok (.bipush 9, 2) := by decide +kernel
theorem dX10_tenth_126 : decode cX10_tenth 126 = .ok (.iload_n 1, 1) := by decide +kernel
theorem dX10_tenth_127 : decode cX10_tenth 127 = .ok (.iadd, 1) := by decide +kernel
theorem dX10_tenth_128 : decode cX10_tenth 128 = .ok (.iaload, 1) := by decide +kernel
theorem dX10_tenth_129 : decode cX10_tenth 129 = .ok (.invokevirtual 243, 3) := by decide +kernel
theorem dX10_tenth_132 : decode cX10_tenth 132 = .ok (.iadd, 1) := by decide +kernel
theorem dX10_tenth_133 : decode cX10_tenth 133 = .ok (.iastore, 1) := by decide +kernel
theorem dX10_tenth_134 : decode cX10_tenth 134 = .ok (.iinc 1 1, 3) := by decide +kernel
theorem dX10_tenth_137 : decode cX10_tenth 137 = .ok (.goto (-135), 3) := by decide +kernel
theorem dX10_tenth_140 : decode cX10_tenth 140 = .ok (.aload_n 0, 1) := by decide +kernel
theorem dX10_tenth_141 : decode cX10_tenth 141 = .ok (.getfield 26, 3) := by decide +kernel
theorem dX10_tenth_144 : decode cX10_tenth 144 = .ok (.iconst 4, 1) := by decide +kernel
theorem dX10_tenth_145 : decode cX10_tenth 145 = .ok (.dup2, 1) := by decide +kernel
theorem dX10_tenth_146 : decode cX10_tenth 146 = .ok (.iaload, 1) := by decide +kernel
theorem dX10_tenth_147 : decode cX10_tenth 147 = .ok (.iconst 1, 1) := by decide +kernel
theorem dX10_tenth_148 : decode cX10_tenth 148 = .ok (.iadd, 1) := by decide +kernel
theorem dX10_tenth_149 : decode cX10_tenth 149 = .ok (.iastore, 1) := by decide +kernel
theorem dX10_tenth_150 : decode cX10_tenth 150 = .ok (.aload_n 0, 1) := by decide +kernel
theorem dX10_tenth_151 : decode cX10_tenth 151 = .ok (.getfield 26, 3) := by decide +kernel
theorem dX10_tenth_154 : decode cX10_tenth 154 = .ok (.iconst 1, 1) := by decide +kernel
theorem dX10_tenth_155 : decode cX10_tenth 155 = .ok (.dup2, 1) := by decide +kernel
theorem dX10_tenth_156 : decode cX10_tenth 156 = .ok (.iaload, 1) := by decide +kernel
theorem dX10_tenth_157 : decode cX10_tenth 157 = .ok (.iconst 1, 1) := by decide +kernel
theorem dX10_tenth_158 : decode cX10_tenth 158 = .ok (.iadd, 1) := by decide +kernel
theorem dX10_tenth_159 : decode cX10_tenth 159 = .ok (.iastore, 1) := by decide +kernel
theorem dX10_tenth_160 : decode cX10_tenth 160 = .ok (.aload_n 0, 1) := by decide +kernel
theorem dX10_tenth_161 : decode cX10_tenth 161 = .ok (.getfield 20, 3) := by decide +kernel
theorem dX10_tenth_164 : decode cX10_tenth 164 = .ok (.bipush 95, 2) := by decide +kernel
theorem dX10_tenth_166 : decode cX10_tenth 166 = .ok (.iaload, 1) := by decide +kernel
theorem dX10_tenth_167 : decode cX10_tenth 167 = .ok (.iconst 1, 1) := by decide +kernel
theorem dX10_tenth_168 : decode cX10_tenth 168 = .ok (.isub, 1) := by decide +kernel
theorem dX10_tenth_169 : decode cX10_tenth 169 = .ok (.istore_n 1, 1) := by decide +kernel
theorem dX10_tenth_170 : decode cX10_tenth 170 = .ok (.iload_n 1, 1) := by decide +kernel
theorem dX10_tenth_171 : decode cX10_tenth 171 = .ok (.ifCond .lt 34, 3) := by decide +kernel
theorem dX10_tenth_174 : decode cX10_tenth 174 = .ok (.aload_n 0, 1) := by decide +kernel
theorem dX10_tenth_175 : decode cX10_tenth 175 = .ok (.getfield 26, 3) := by decide +kernel
theorem dX10_tenth_178 : decode cX10_tenth 178 = .ok (.bipush 9, 2) := by decide +kernel
theorem dX10_tenth_180 : decode cX10_tenth 180 = .ok (.iload_n 1, 1) := by decide +kernel
theorem dX10_tenth_181 : decode cX10_tenth 181 = .ok (.iadd, 1) := by decide +kernel
theorem dX10_tenth_182 : decode cX10_tenth 182 = .ok (.iaload, 1) := by decide +kernel
theorem dX10_tenth_183 : decode cX10_tenth 183 = .ok (.aload_n 0, 1) := by decide +kernel
theorem dX10_tenth_184 : decode cX10_tenth 184 = .ok (.getfield 20, 3) := by decide +kernel
theorem dX10_tenth_187 : decode cX10_tenth 187 = .ok (.iconst 0, 1) := by decide +kernel
theorem dX10_tenth_188 : decode cX10_tenth 188 = .ok (.iaload, 1) := by decide +kernel
theorem dX10_tenth_189 : decode cX10_tenth 189 = .ok (.if_icmp .ne 10, 3) := by decide +kernel
theorem dX10_tenth_192 : decode cX10_tenth 192 = .ok (.aload_n 0, 1) := by decide +kernel
theorem dX10_tenth_193 : decode cX10_tenth 193 = .ok (.getfield 26, 3) := by decide +kernel
theorem dX10_tenth_196 : decode cX10_tenth 196 = .ok (.iconst 5, 1) := by decide +kernel
theorem dX10_tenth_197 : decode cX10_tenth 197 = .ok (.iload_n 1, 1) := by decide +kernel
theorem dX10_tenth_198 : decode cX10_tenth 198 = .ok (.iastore, 1) := by decide +kernel
theorem dX10_tenth_199 : decode cX10_tenth 199 = .ok (.iinc 1 (-1), 3) := by decide +kernel
theorem dX10_tenth_202 : decode cX10_tenth 202 = .ok (.goto (-32), 3) := by decide +kernel
theorem dX10_tenth_205 : decode cX10_tenth 205 = .ok (.aload_n 0, 1) := by decide +kernel
theorem dX10_tenth_206 : decode cX10_tenth 206 = .ok (.getfield 26, 3) := by decide +kernel
theorem dX10_tenth_209 : decode cX10_tenth 209 = .ok (.iconst 5, 1) := by decide +kernel
theorem dX10_tenth_210 : decode cX10_tenth 210 = .ok (.iaload, 1) := by decide +kernel
theorem dX10_tenth_211 : decode cX10_tenth 211 = .ok (.ifCond .lt 9, 3) := by decide +kernel
theorem dX10_tenth_214 : decode cX10_tenth 214 = .ok (.aload_n 0, 1) := by decide +kernel
theorem dX10_tenth_215 : decode cX10_tenth 215 = .ok (.invokevirtual 246, 3) := by decide +kernel
theorem dX10_tenth_218 : decode cX10_tenth 218 = .ok (.iconst 0, 1) := by decide +kernel
theorem dX10_tenth_219 : decode cX10_tenth 219 = .ok (.ireturn, 1) := by decide +kernel
theorem dX10_tenth_220 : decode cX10_tenth 220 = .ok (.aload_n 0, 1) := by decide +kernel
theorem dX10_tenth_221 : decode cX10_tenth 221 = .ok (.getfield 26, 3) := by decide +kernel
theorem dX10_tenth_224 : decode cX10_tenth 224 = .ok (.iconst 1, 1) := by decide +kernel
theorem dX10_tenth_225 : decode cX10_tenth 225 = .ok (.iaload, 1) := by decide +kernel
theorem dX10_tenth_226 : decode cX10_tenth 226 = .ok (.aload_n 0, 1) := by decide +kernel
theorem dX10_tenth_227 : decode cX10_tenth 227 = .ok (.aload_n 0, 1) := by decide +kernel
theorem dX10_tenth_228 : decode cX10_tenth 228 = .ok (.getfield 26, 3) := by decide +kernel
theorem dX10_tenth_231 : decode cX10_tenth 231 = .ok (.iconst 0, 1) := by decide +kernel
theorem dX10_tenth_232 : decode cX10_tenth 232 = .ok (.iaload, 1) := by decide +kernel
theorem dX10_tenth_233 : decode cX10_tenth 233 = .ok (.invokevirtual 237, 3) := by decide +kernel
theorem dX10_tenth_236 : decode cX10_tenth 236 = .ok (.if_icmp .ge 5, 3) := by decide +kernel
theorem dX10_tenth_239 : decode cX10_tenth 239 = .ok (.iconst 0, 1) := by decide +kernel
theorem dX10_tenth_240 : decode cX10_tenth 240 = .ok (.ireturn, 1) := by decide +kernel
theorem dX10_tenth_241 : decode cX10_tenth 241 = .ok (.aload_n 0, 1) := by decide +kernel
theorem dX10_tenth_242 : decode cX10_tenth 242 = .ok (.getfield 26, 3) := by decide +kernel
theorem dX10_tenth_245 : decode cX10_tenth 245 = .ok (.iconst 0, 1) := by decide +kernel
theorem dX10_tenth_246 : decode cX10_tenth 246 = .ok (.iaload, 1) := by decide +kernel
theorem dX10_tenth_247 : decode cX10_tenth 247 = .ok (.aload_n 0, 1) := by decide +kernel
theorem dX10_tenth_248 : decode cX10_tenth 248 = .ok (.getfield 20, 3) := by decide +kernel
theorem dX10_tenth_251 : decode cX10_tenth 251 = .ok (.bipush 92, 2) := by decide +kernel
theorem dX10_tenth_253 : decode cX10_tenth 253 = .ok (.iaload, 1) := by decide +kernel
theorem dX10_tenth_254 : decode cX10_tenth 254 = .ok (.iconst 1, 1) := by decide +kernel
theorem dX10_tenth_255 : decode cX10_tenth 255 = .ok (.isub, 1) := by decide +kernel
theorem dX10_tenth_256 : decode cX10_tenth 256 = .ok (.if_icmp .ne 7, 3) := by decide +kernel
theorem dX10_tenth_259 : decode cX10_tenth 259 = .ok (.iconst 1, 1) := by decide +kernel
theorem dX10_tenth_260 : decode cX10_tenth 260 = .ok (.goto 4, 3) := by decide +kernel
theorem dX10_tenth_263 : decode cX10_tenth 263 = .ok (.iconst 0, 1) := by decide +kernel
theorem dX10_tenth_264 : decode cX10_tenth 264 = .ok (.istore_n 1, 1) := by decide +kernel
theorem dX10_tenth_265 : decode cX10_tenth 265 = .ok (.iload_n 1, 1) := by decide +kernel
theorem dX10_tenth_266 : decode cX10_tenth 266 = .ok (.ifCond .ne 39, 3) := by decide +kernel
theorem dX10_tenth_269 : decode cX10_tenth 269 = .ok (.aload_n 0, 1) := by decide +kernel
theorem dX10_tenth_270 : decode cX10_tenth 270 = .ok (.invokevirtual 249, 3) := by decide +kernel
theorem dX10_tenth_273 : decode cX10_tenth 273 = .ok (.aload_n 0, 1) := by decide +kernel
theorem dX10_tenth_274 : decode cX10_tenth 274 = .ok (.getfield 20, 3) := by decide +kernel
theorem dX10_tenth_277 : decode cX10_tenth 277 = .ok (.bipush 6, 2) := by decide +kernel
theorem dX10_tenth_279 : decode cX10_tenth 279 = .ok (.iload_n 1, 1) := by decide +kernel
theorem dX10_tenth_280 : decode cX10_tenth 280 = .ok (.ifCond .eq 7, 3) := by decide +kernel
theorem dX10_tenth_283 : decode cX10_tenth 283 = .ok (.iconst 0, 1) := by decide +kernel
theorem dX10_tenth_284 : decode cX10_tenth 284 = .ok (.goto 9, 3) := by decide +kernel
theorem dX10_tenth_287 : decode cX10_tenth 287 = .ok (.aload_n 0, 1) := by decide +kernel
theorem dX10_tenth_288 : decode cX10_tenth 288 = .ok (.getfield 26, 3) := by decide +kernel
theorem dX10_tenth_291 : decode cX10_tenth 291 = .ok (.iconst 0, 1) := by decide +kernel
theorem dX10_tenth_292 : decode cX10_tenth 292 = .ok (.iaload, 1) := by decide +kernel
theorem dX10_tenth_293 : decode cX10_tenth 293 = .ok (.iadd, 1) := by decide +kernel
theorem dX10_tenth_294 : decode cX10_tenth 294 = .ok (.iaload, 1) := by decide +kernel
theorem dX10_tenth_295 : decode cX10_tenth 295 = .ok (.aload_n 0, 1) := by decide +kernel
theorem dX10_tenth_296 : decode cX10_tenth 296 = .ok (.getfield 26, 3) := by decide +kernel
theorem dX10_tenth_299 : decode cX10_tenth 299 = .ok (.iconst 2, 1) := by decide +kernel
theorem dX10_tenth_300 : decode cX10_tenth 300 = .ok (.iaload, 1) := by decide +kernel
theorem dX10_tenth_301 : decode cX10_tenth 301 = .ok (.iadd, 1) := by decide +kernel
theorem dX10_tenth_302 : decode cX10_tenth 302 = .ok (.if_icmp .ge 7, 3) := by decide +kernel
theorem dX10_tenth_305 : decode cX10_tenth 305 = .ok (.iconst 1, 1) := by decide +kernel
theorem dX10_tenth_306 : decode cX10_tenth 306 = .ok (.goto 4, 3) := by decide +kernel
theorem dX10_tenth_309 : decode cX10_tenth 309 = .ok (.iconst 0, 1) := by decide +kernel
theorem dX10_tenth_310 : decode cX10_tenth 310 = .ok (.istore_n 2, 1) := by decide +kernel
theorem dX10_tenth_311 : decode cX10_tenth 311 = .ok (.aload_n 0, 1) := by decide +kernel
theorem dX10_tenth_312 : decode cX10_tenth 312 = .ok (.getfield 26, 3) := by decide +kernel
theorem dX10_tenth_315 : decode cX10_tenth 315 = .ok (.iconst 0, 1) := by decide +kernel
theorem dX10_tenth_316 : decode cX10_tenth 316 = .ok (.dup2, 1) := by decide +kernel
theorem dX10_tenth_317 : decode cX10_tenth 317 = .ok (.iaload, 1) := by decide +kernel
theorem dX10_tenth_318 : decode cX10_tenth 318 = .ok (.iconst 1, 1) := by decide +kernel
theorem dX10_tenth_319 : decode cX10_tenth 319 = .ok (.iadd, 1) := by decide +kernel
theorem dX10_tenth_320 : decode cX10_tenth 320 = .ok (.iastore, 1) := by decide +kernel
theorem dX10_tenth_321 : decode cX10_tenth 321 = .ok (.aload_n 0, 1) := by decide +kernel
theorem dX10_tenth_322 : decode cX10_tenth 322 = .ok (.getfield 26, 3) := by decide +kernel
theorem dX10_tenth_325 : decode cX10_tenth 325 = .ok (.iconst 1, 1) := by decide +kernel
theorem dX10_tenth_326 : decode cX10_tenth 326 = .ok (.iconst 0, 1) := by decide +kernel
theorem dX10_tenth_327 : decode cX10_tenth 327 = .ok (.iastore, 1) := by decide +kernel
theorem dX10_tenth_328 : decode cX10_tenth 328 = .ok (.iload_n 2, 1) := by decide +kernel
theorem dX10_tenth_329 : decode cX10_tenth 329 = .ok (.ifCond .eq 7, 3) := by decide +kernel
theorem dX10_tenth_332 : decode cX10_tenth 332 = .ok (.aload_n 0, 1) := by decide +kernel
theorem dX10_tenth_333 : decode cX10_tenth 333 = .ok (.invokevirtual 252, 3) := by decide +kernel
theorem dX10_tenth_336 : decode cX10_tenth 336 = .ok (.iload_n 2, 1) := by decide +kernel
theorem dX10_tenth_337 : decode cX10_tenth 337 = .ok (.ireturn, 1) := by decide +kernel
def lp_X10_tenth_2  (k140 : Mm → Option (Int32 × Mm)) : Nat → Int32 → Mm → Option (Int32 × Mm)
  | 0, _, _ => none
  | n + 1, y1, M =>
    gd (inb (95 : Int32) 141) <| if (M 84 (95 : Int32).toNatClampNeg) ≤ y1 then (k140  M) else (bd (f_X10_goesNow y1 M) fun v23_2 M23_1 => jn (fun (s3 : Int32) (M4 : Mm) => gd (inb ((39 : Int32) + y1) 44) <| gd (inb ((14 : Int32) + y1) 44) <| gd (inb ((39 : Int32) + y1) 44) <| gd (inb ((14 : Int32) + y1) 44) <| gd (inb ((14 : Int32) + y1) 44) <| gd (inb ((61 : Int32) + y1) 141) <| jn (fun (M6 : Mm) => lp_X10_tenth_2 k140 n (y1 + (1 : Int32)) M6) fun j7 => if ((mset (mset M4 86 ((39 : Int32) + y1).toNatClampNeg s3) 86 ((14 : Int32) + y1).toNatClampNeg (((mset M4 86 ((39 : Int32) + y1).toNatClampNeg s3) 86 ((14 : Int32) + y1).toNatClampNeg) + ((mset M4 86 ((39 : Int32) + y1).toNatClampNeg s3) 86 ((39 : Int32) + y1).toNatClampNeg))) 84 ((61 : Int32) + y1).toNatClampNeg) ≤ ((mset (mset M4 86 ((39 : Int32) + y1).toNatClampNeg s3) 86 ((14 : Int32) + y1).toNatClampNeg (((mset M4 86 ((39 : Int32) + y1).toNatClampNeg s3) 86 ((14 : Int32) + y1).toNatClampNeg) + ((mset M4 86 ((39 : Int32) + y1).toNatClampNeg s3) 86 ((39 : Int32) + y1).toNatClampNeg))) 86 ((14 : Int32) + y1).toNatClampNeg) then (gd (inb ((14 : Int32) + y1) 44) <| gd (inb ((9 : Int32) + y1) 44) <| gd (inb ((9 : Int32) + y1) 44) <| gd (inb (2 : Int32) 44) <| gd (inb ((56 : Int32) + y1) 141) <| gd (inb ((9 : Int32) + y1) 44) <| bd (f_X10_loudest ((mset (mset (mset (mset M4 86 ((39 : Int32) + y1).toNatClampNeg s3) 86 ((14 : Int32) + y1).toNatClampNeg (((mset M4 86 ((39 : Int32) + y1).toNatClampNeg s3) 86 ((14 : Int32) + y1).toNatClampNeg) + ((mset M4 86 ((39 : Int32) + y1).toNatClampNeg s3) 86 ((39 : Int32) + y1).toNatClampNeg))) 86 ((14 : Int32) + y1).toNatClampNeg (0 : Int32)) 86 ((9 : Int32) + y1).toNatClampNeg (((mset (mset (mset M4 86 ((39 : Int32) + y1).toNatClampNeg s3) 86 ((14 : Int32) + y1).toNatClampNeg (((mset M4 86 ((39 : Int32) + y1).toNatClampNeg s3) 86 ((14 : Int32) + y1).toNatClampNeg) + ((mset M4 86 ((39 : Int32) + y1).toNatClampNeg s3) 86 ((39 : Int32) + y1).toNatClampNeg))) 86 ((14 : Int32) + y1).toNatClampNeg (0 : Int32)) 86 ((9 : Int32) + y1).toNatClampNeg) + (1 : Int32))) 84 ((56 : Int32) + y1).toNatClampNeg) ((mset (mset (mset (mset M4 86 ((39 : Int32) + y1).toNatClampNeg s3) 86 ((14 : Int32) + y1).toNatClampNeg (((mset M4 86 ((39 : Int32) + y1).toNatClampNeg s3) 86 ((14 : Int32) + y1).toNatClampNeg) + ((mset M4 86 ((39 : Int32) + y1).toNatClampNeg s3) 86 ((39 : Int32) + y1).toNatClampNeg))) 86 ((14 : Int32) + y1).toNatClampNeg (0 : Int32)) 86 ((9 : Int32) + y1).toNatClampNeg (((mset (mset (mset M4 86 ((39 : Int32) + y1).toNatClampNeg s3) 86 ((14 : Int32) + y1).toNatClampNeg (((mset M4 86 ((39 : Int32) + y1).toNatClampNeg s3) 86 ((14 : Int32) + y1).toNatClampNeg) + ((mset M4 86 ((39 : Int32) + y1).toNatClampNeg s3) 86 ((39 : Int32) + y1).toNatClampNeg))) 86 ((14 : Int32) + y1).toNatClampNeg (0 : Int32)) 86 ((9 : Int32) + y1).toNatClampNeg) + (1 : Int32))) 86 ((9 : Int32) + y1).toNatClampNeg) (mset (mset (mset (mset M4 86 ((39 : Int32) + y1).toNatClampNeg s3) 86 ((14 : Int32) + y1).toNatClampNeg (((mset M4 86 ((39 : Int32) + y1).toNatClampNeg s3) 86 ((14 : Int32) + y1).toNatClampNeg) + ((mset M4 86 ((39 : Int32) + y1).toNatClampNeg s3) 86 ((39 : Int32) + y1).toNatClampNeg))) 86 ((14 : Int32) + y1).toNatClampNeg (0 : Int32)) 86 ((9 : Int32) + y1).toNatClampNeg (((mset (mset (mset M4 86 ((39 : Int32) + y1).toNatClampNeg s3) 86 ((14 : Int32) + y1).toNatClampNeg (((mset M4 86 ((39 : Int32) + y1).toNatClampNeg s3) 86 ((14 : Int32) + y1).toNatClampNeg) + ((mset M4 86 ((39 : Int32) + y1).toNatClampNeg s3) 86 ((39 : Int32) + y1).toNatClampNeg))) 86 ((14 : Int32) + y1).toNatClampNeg (0 : Int32)) 86 ((9 : Int32) + y1).toNatClampNeg) + (1 : Int32)))) fun v129_9 M129_8 => gd (inb (2 : Int32) 44) <| j7  (mset M129_8 86 (2 : Int32).toNatClampNeg (((mset (mset (mset (mset M4 86 ((39 : Int32) + y1).toNatClampNeg s3) 86 ((14 : Int32) + y1).toNatClampNeg (((mset M4 86 ((39 : Int32) + y1).toNatClampNeg s3) 86 ((14 : Int32) + y1).toNatClampNeg) + ((mset M4 86 ((39 : Int32) + y1).toNatClampNeg s3) 86 ((39 : Int32) + y1).toNatClampNeg))) 86 ((14 : Int32) + y1).toNatClampNeg (0 : Int32)) 86 ((9 : Int32) + y1).toNatClampNeg (((mset (mset (mset M4 86 ((39 : Int32) + y1).toNatClampNeg s3) 86 ((14 : Int32) + y1).toNatClampNeg (((mset M4 86 ((39 : Int32) + y1).toNatClampNeg s3) 86 ((14 : Int32) + y1).toNatClampNeg) + ((mset M4 86 ((39 : Int32) + y1).toNatClampNeg s3) 86 ((39 : Int32) + y1).toNatClampNeg))) 86 ((14 : Int32) + y1).toNatClampNeg (0 : Int32)) 86 ((9 : Int32) + y1).toNatClampNeg) + (1 : Int32))) 86 (2 : Int32).toNatClampNeg) + v129_9))) else (j7  (mset (mset M4 86 ((39 : Int32) + y1).toNatClampNeg s3) 86 ((14 : Int32) + y1).toNatClampNeg (((mset M4 86 ((39 : Int32) + y1).toNatClampNeg s3) 86 ((14 : Int32) + y1).toNatClampNeg) + ((mset M4 86 ((39 : Int32) + y1).toNatClampNeg s3) 86 ((39 : Int32) + y1).toNatClampNeg))))) fun j5 => if v23_2 = 0 then (j5 (0 : Int32) M23_1) else (j5 (1 : Int32) M23_1))
def lp_X10_tenth_170  (k205 : Mm → Option (Int32 × Mm)) : Nat → Int32 → Mm → Option (Int32 × Mm)
  | 0, _, _ => none
  | n + 1, y1, M =>
    if y1 < 0 then (k205  M) else (gd (inb ((9 : Int32) + y1) 44) <| gd (inb (0 : Int32) 141) <| jn (fun (M15 : Mm) => lp_X10_tenth_170 k205 n (y1 + (-1 : Int32)) M15) fun j16 => if (M 86 ((9 : Int32) + y1).toNatClampNeg) = (M 84 (0 : Int32).toNatClampNeg) then (gd (inb (5 : Int32) 44) <| j16  (mset M 86 (5 : Int32).toNatClampNeg y1)) else (j16  M))
def f_X10_tenth  (M : Mm) : Option (Int32 × Mm) :=
  lp_X10_tenth_2  (fun  (M13 : Mm) => gd (inb (4 : Int32) 44) <| gd (inb (4 : Int32) 44) <| gd (inb (1 : Int32) 44) <| gd (inb (1 : Int32) 44) <| gd (inb (95 : Int32) 141) <| lt ((((mset (mset M13 86 (4 : Int32).toNatClampNeg ((M13 86 (4 : Int32).toNatClampNeg) + (1 : Int32))) 86 (1 : Int32).toNatClampNeg (((mset M13 86 (4 : Int32).toNatClampNeg ((M13 86 (4 : Int32).toNatClampNeg) + (1 : Int32))) 86 (1 : Int32).toNatClampNeg) + (1 : Int32))) 84 (95 : Int32).toNatClampNeg) - (1 : Int32))) fun t14 => lp_X10_tenth_170  (fun  (M19 : Mm) => gd (inb (5 : Int32) 44) <| if (M19 86 (5 : Int32).toNatClampNeg) < 0 then (gd (inb (1 : Int32) 44) <| gd (inb (0 : Int32) 44) <| bd (f_X10_tenthsOf (M19 86 (0 : Int32).toNatClampNeg) M19) fun v233_21 M233_20 => if v233_21 ≤ (M19 86 (1 : Int32).toNatClampNeg) then (gd (inb (0 : Int32) 44) <| gd (inb (92 : Int32) 141) <| jn (fun (s22 : Int32) (M23 : Mm) => jn (fun (s25 : Int32) (M26 : Mm) => gd (inb (0 : Int32) 44) <| gd (inb (0 : Int32) 44) <| gd (inb (1 : Int32) 44) <| if s25 = 0 then (gd (zo s25) <| some (s25, (mset (mset M26 86 (0 : Int32).toNatClampNeg ((M26 86 (0 : Int32).toNatClampNeg) + (1 : Int32))) 86 (1 : Int32).toNatClampNeg (0 : Int32)))) else (bv (f_X10_look  (mset (mset M26 86 (0 : Int32).toNatClampNeg ((M26 86 (0 : Int32).toNatClampNeg) + (1 : Int32))) 86 (1 : Int32).toNatClampNeg (0 : Int32))) fun M333_28 => gd (zo s25) <| some (s25, M333_28))) fun j27 => jn (fun (M31 : Mm) => j27 (1 : Int32) M31) fun j32 => if s22 = 0 then (bd (f_X10_draw  M23) fun v270_34 M270_33 => jn (fun (s35 : Int32) (M36 : Mm) => gd (inb ((6 : Int32) + s35) 141) <| gd (inb (2 : Int32) 44) <| if ((M36 84 ((6 : Int32) + s35).toNatClampNeg) + (M36 86 (2 : Int32).toNatClampNeg)) ≤ v270_34 then (j27 (0 : Int32) M36) else (j32  M36)) fun j37 => if s22 = 0 then (gd (inb (0 : Int32) 44) <| j37 (M270_33 86 (0 : Int32).toNatClampNeg) M270_33) else (j37 (0 : Int32) M270_33)) else (j32  M23)) fun j24 => if (M233_20 86 (0 : Int32).toNatClampNeg) = ((M233_20 84 (92 : Int32).toNatClampNeg) - (1 : Int32)) then (j24 (1 : Int32) M233_20) else (j24 (0 : Int32) M233_20)) else (some ((0 : Int32), M233_20))) else (bv (f_X10_run  M19) fun M215_43 => some ((0 : Int32), M215_43))) N0 t14 (mset (mset M13 86 (4 : Int32).toNatClampNeg ((M13 86 (4 : Int32).toNatClampNeg) + (1 : Int32))) 86 (1 : Int32).toNatClampNeg (((mset M13 86 (4 : Int32).toNatClampNeg ((M13 86 (4 : Int32).toNatClampNeg) + (1 : Int32))) 86 (1 : Int32).toNatClampNeg) + (1 : Int32)))) N0 (0 : Int32) M
set_option maxHeartbeats 4000000 in
set_option maxRecDepth 100000 in
theorem sl_X10_tenth_2 {l : Launch} {B : BT} (hA : bA B = false) {d : Nat} {r : Int32} {M' : Mm}   {k140 : Mm → Option (Int32 × Mm)} (hk140 : ∀  (M9 : Mm), k140  M9 = some (r, M') → GG l B LY (d + 3) yX10_tenth cX10_tenth 3 (some .boolean) 0 0 (PI r M') 97 0 0 140 [(0, .ref 81)] [] M9) :
    ∀ (n : Nat) (y1 : Int32) (M : Mm), lp_X10_tenth_2 k140 n y1 M = some (r, M') → GG l B LY (d + 3) yX10_tenth cX10_tenth 3 (some .boolean) 0 0 (PI r M') 97 0 0 2 [(0, .ref 81), (1, .int y1)] [] M := by
  intro n
  induction n with
  | zero => intro y1 M h; cases h
  | succ n ih =>
    intro y1 M h
    rw [lp_X10_tenth_2] at h
    refine g_iload_n dX10_tenth_2 rfl 1 rfl ?_
    refine g_aload_n dX10_tenth_3 rfl 0 rfl ?_
    refine m_getr (k := 15) okX10 rfl rfl (by decide) w_1284 rfl dX10_tenth_4 ?_
    refine g_bipush (v := 95) dX10_tenth_7 (by decide) ?_
    obtain ⟨hz, h⟩ := gd_s h
    refine m_iald rfl hz dX10_tenth_9 ?_
    refine g_icmp_ge (tgt := 140) dX10_tenth_10 (by decide) (fun c12 => ?_) (fun c12 => ?_)
    · replace h := ite_p c12 h
      refine g_sub [0] (lv' := [(0, .ref 81)]) rfl ?_
      exact hk140  _ h
    · replace h := ite_n c12 h
      refine g_aload_n dX10_tenth_13 rfl 0 rfl ?_
      refine m_getr (k := 17) okX10 rfl rfl (by decide) w_1286 rfl dX10_tenth_14 ?_
      refine g_bipush (v := 39) dX10_tenth_17 (by decide) ?_
      refine g_iload_n dX10_tenth_19 rfl 1 rfl ?_
      refine g_iadd dX10_tenth_20 ?_
      refine g_aload_n dX10_tenth_21 rfl 0 rfl ?_
      refine g_iload_n dX10_tenth_22 rfl 1 rfl ?_
      obtain ⟨v23_2, M23_1, eM23_1, h⟩ := bd_e h
      refine m_callVi (As := [.int y1]) (st := [.int ((39 : Int32) + y1), .ref 86]) (s_X10_goesNow (d := d + 1) hA  eM23_1) rfl okX10 ck_X10_goesNow w_1520 rfl (Nat.le_of_ble_eq_true rfl) dX10_tenth_23 ?_
      obtain ⟨j5, ej5, h⟩ := jn_e h
      have hj5 : ∀ (s3 : Int32) (M4 : Mm), j5 s3 M4 = some (r, M') → GG l B LY (d + 3) yX10_tenth cX10_tenth 3 (some .boolean) 0 0 (PI r M') 97 0 0 34 [(0, .ref 81), (1, .int y1)] [.int s3, .int ((39 : Int32) + y1), .ref 86] M4 := by
        intro s3 M4 h
        rw [ej5] at h
        obtain ⟨hz, h⟩ := gd_s h
        refine m_iast hA rfl hz dX10_tenth_34 ?_
        refine g_aload_n dX10_tenth_35 rfl 0 rfl ?_
        refine m_getr (k := 17) okX10 rfl rfl (by decide) w_1286 rfl dX10_tenth_36 ?_
        refine g_bipush (v := 14) dX10_tenth_39 (by decide) ?_
        refine g_iload_n dX10_tenth_41 rfl 1 rfl ?_
        refine g_iadd dX10_tenth_42 ?_
        refine g_dup2 dX10_tenth_43 rfl rfl ?_
        obtain ⟨hz, h⟩ := gd_s h
        refine m_iald rfl hz dX10_tenth_44 ?_
        refine g_aload_n dX10_tenth_45 rfl 0 rfl ?_
        refine m_getr (k := 17) okX10 rfl rfl (by decide) w_1286 rfl dX10_tenth_46 ?_
        refine g_bipush (v := 39) dX10_tenth_49 (by decide) ?_
        refine g_iload_n dX10_tenth_51 rfl 1 rfl ?_
        refine g_iadd dX10_tenth_52 ?_
        obtain ⟨hz, h⟩ := gd_s h
        refine m_iald rfl hz dX10_tenth_53 ?_
        refine g_iadd dX10_tenth_54 ?_
        obtain ⟨hz, h⟩ := gd_s h
        refine m_iast hA rfl hz dX10_tenth_55 ?_
        refine g_aload_n dX10_tenth_56 rfl 0 rfl ?_
        refine m_getr (k := 17) okX10 rfl rfl (by decide) w_1286 rfl dX10_tenth_57 ?_
        refine g_bipush (v := 14) dX10_tenth_60 (by decide) ?_
        refine g_iload_n dX10_tenth_62 rfl 1 rfl ?_
        refine g_iadd dX10_tenth_63 ?_
        obtain ⟨hz, h⟩ := gd_s h
        refine m_iald rfl hz dX10_tenth_64 ?_
        refine g_aload_n dX10_tenth_65 rfl 0 rfl ?_
        refine m_getr (k := 15) okX10 rfl rfl (by decide) w_1284 rfl dX10_tenth_66 ?_
        refine g_bipush (v := 61) dX10_tenth_69 (by decide) ?_
        refine g_iload_n dX10_tenth_71 rfl 1 rfl ?_
        refine g_iadd dX10_tenth_72 ?_
        obtain ⟨hz, h⟩ := gd_s h
        refine m_iald rfl hz dX10_tenth_73 ?_
        obtain ⟨j7, ej7, h⟩ := jn_e h
        have hj7 : ∀ (M6 : Mm), j7 M6 = some (r, M') → GG l B LY (d + 3) yX10_tenth cX10_tenth 3 (some .boolean) 0 0 (PI r M') 97 0 0 134 [(0, .ref 81), (1, .int y1)] [] M6 := by
          intro M6 h
          rw [ej7] at h
          refine g_iinc (v := (y1 + (1 : Int32))) (lv' := [(1, .int (y1 + (1 : Int32))), (0, .ref 81)]) dX10_tenth_134 1 rfl rfl (by decide) rfl ?_
          refine g_goto (tgt := 2) dX10_tenth_137 (by decide) ?_
          refine g_sub [1, 0] (lv' := [(0, .ref 81), (1, .int (y1 + (1 : Int32)))]) rfl ?_
          exact ih _  _ h
        refine g_icmp_ge (tgt := 80) dX10_tenth_74 (by decide) (fun c10 => ?_) (fun c10 => ?_)
        · replace h := ite_p c10 h
          refine g_aload_n dX10_tenth_80 rfl 0 rfl ?_
          refine m_getr (k := 17) okX10 rfl rfl (by decide) w_1286 rfl dX10_tenth_81 ?_
          refine g_bipush (v := 14) dX10_tenth_84 (by decide) ?_
          refine g_iload_n dX10_tenth_86 rfl 1 rfl ?_
          refine g_iadd dX10_tenth_87 ?_
          refine g_iconst (v := 0) dX10_tenth_88 (by decide) ?_
          obtain ⟨hz, h⟩ := gd_s h
          refine m_iast hA rfl hz dX10_tenth_89 ?_
          refine g_aload_n dX10_tenth_90 rfl 0 rfl ?_
          refine m_getr (k := 17) okX10 rfl rfl (by decide) w_1286 rfl dX10_tenth_91 ?_
          refine g_bipush (v := 9) dX10_tenth_94 (by decide) ?_
          refine g_iload_n dX10_tenth_96 rfl 1 rfl ?_
          refine g_iadd dX10_tenth_97 ?_
          refine g_dup2 dX10_tenth_98 rfl rfl ?_
          obtain ⟨hz, h⟩ := gd_s h
          refine m_iald rfl hz dX10_tenth_99 ?_
          refine g_iconst (v := 1) dX10_tenth_100 (by decide) ?_
          refine g_iadd dX10_tenth_101 ?_
          obtain ⟨hz, h⟩ := gd_s h
          refine m_iast hA rfl hz dX10_tenth_102 ?_
          refine g_aload_n dX10_tenth_103 rfl 0 rfl ?_
          refine m_getr (k := 17) okX10 rfl rfl (by decide) w_1286 rfl dX10_tenth_104 ?_
          refine g_iconst (v := 2) dX10_tenth_107 (by decide) ?_
          refine g_dup2 dX10_tenth_108 rfl rfl ?_
          obtain ⟨hz, h⟩ := gd_s h
          refine m_iald rfl hz dX10_tenth_109 ?_
          refine g_aload_n dX10_tenth_110 rfl 0 rfl ?_
          refine g_aload_n dX10_tenth_111 rfl 0 rfl ?_
          refine m_getr (k := 15) okX10 rfl rfl (by decide) w_1284 rfl dX10_tenth_112 ?_
          refine g_bipush (v := 56) dX10_tenth_115 (by decide) ?_
          refine g_iload_n dX10_tenth_117 rfl 1 rfl ?_
          refine g_iadd dX10_tenth_118 ?_
          obtain ⟨hz, h⟩ := gd_s h
          refine m_iald rfl hz dX10_tenth_119 ?_
          refine g_aload_n dX10_tenth_120 rfl 0 rfl ?_
          refine m_getr (k := 17) okX10 rfl rfl (by decide) w_1286 rfl dX10_tenth_121 ?_
          refine g_bipush (v := 9) dX10_tenth_124 (by decide) ?_
          refine g_iload_n dX10_tenth_126 rfl 1 rfl ?_
          refine g_iadd dX10_tenth_127 ?_
          obtain ⟨hz, h⟩ := gd_s h
          refine m_iald rfl hz dX10_tenth_128 ?_
          obtain ⟨v129_9, M129_8, eM129_8, h⟩ := bd_e h
          refine m_callVi (As := [.int ((mset (mset (mset (mset M4 86 ((39 : Int32) + y1).toNatClampNeg s3) 86 ((14 : Int32) + y1).toNatClampNeg (((mset M4 86 ((39 : Int32) + y1).toNatClampNeg s3) 86 ((14 : Int32) + y1).toNatClampNeg) + ((mset M4 86 ((39 : Int32) + y1).toNatClampNeg s3) 86 ((39 : Int32) + y1).toNatClampNeg))) 86 ((14 : Int32) + y1).toNatClampNeg (0 : Int32)) 86 ((9 : Int32) + y1).toNatClampNeg (((mset (mset (mset M4 86 ((39 : Int32) + y1).toNatClampNeg s3) 86 ((14 : Int32) + y1).toNatClampNeg (((mset M4 86 ((39 : Int32) + y1).toNatClampNeg s3) 86 ((14 : Int32) + y1).toNatClampNeg) + ((mset M4 86 ((39 : Int32) + y1).toNatClampNeg s3) 86 ((39 : Int32) + y1).toNatClampNeg))) 86 ((14 : Int32) + y1).toNatClampNeg (0 : Int32)) 86 ((9 : Int32) + y1).toNatClampNeg) + (1 : Int32))) 84 ((56 : Int32) + y1).toNatClampNeg), .int ((mset (mset (mset (mset M4 86 ((39 : Int32) + y1).toNatClampNeg s3) 86 ((14 : Int32) + y1).toNatClampNeg (((mset M4 86 ((39 : Int32) + y1).toNatClampNeg s3) 86 ((14 : Int32) + y1).toNatClampNeg) + ((mset M4 86 ((39 : Int32) + y1).toNatClampNeg s3) 86 ((39 : Int32) + y1).toNatClampNeg))) 86 ((14 : Int32) + y1).toNatClampNeg (0 : Int32)) 86 ((9 : Int32) + y1).toNatClampNeg (((mset (mset (mset M4 86 ((39 : Int32) + y1).toNatClampNeg s3) 86 ((14 : Int32) + y1).toNatClampNeg (((mset M4 86 ((39 : Int32) + y1).toNatClampNeg s3) 86 ((14 : Int32) + y1).toNatClampNeg) + ((mset M4 86 ((39 : Int32) + y1).toNatClampNeg s3) 86 ((39 : Int32) + y1).toNatClampNeg))) 86 ((14 : Int32) + y1).toNatClampNeg (0 : Int32)) 86 ((9 : Int32) + y1).toNatClampNeg) + (1 : Int32))) 86 ((9 : Int32) + y1).toNatClampNeg)]) (st := [.int ((mset (mset (mset (mset M4 86 ((39 : Int32) + y1).toNatClampNeg s3) 86 ((14 : Int32) + y1).toNatClampNeg (((mset M4 86 ((39 : Int32) + y1).toNatClampNeg s3) 86 ((14 : Int32) + y1).toNatClampNeg) + ((mset M4 86 ((39 : Int32) + y1).toNatClampNeg s3) 86 ((39 : Int32) + y1).toNatClampNeg))) 86 ((14 : Int32) + y1).toNatClampNeg (0 : Int32)) 86 ((9 : Int32) + y1).toNatClampNeg (((mset (mset (mset M4 86 ((39 : Int32) + y1).toNatClampNeg s3) 86 ((14 : Int32) + y1).toNatClampNeg (((mset M4 86 ((39 : Int32) + y1).toNatClampNeg s3) 86 ((14 : Int32) + y1).toNatClampNeg) + ((mset M4 86 ((39 : Int32) + y1).toNatClampNeg s3) 86 ((39 : Int32) + y1).toNatClampNeg))) 86 ((14 : Int32) + y1).toNatClampNeg (0 : Int32)) 86 ((9 : Int32) + y1).toNatClampNeg) + (1 : Int32))) 86 (2 : Int32).toNatClampNeg), .int (2 : Int32), .ref 86]) (s_X10_loudest (d := d + 1) hA  eM129_8) rfl okX10 ck_X10_loudest w_1528 rfl (Nat.le_of_ble_eq_true rfl) dX10_tenth_129 ?_
          refine g_iadd dX10_tenth_132 ?_
          obtain ⟨hz, h⟩ := gd_s h
          refine m_iast hA rfl hz dX10_tenth_133 ?_
          refine g_sub [0, 1] (lv' := [(0, .ref 81), (1, .int y1)]) rfl ?_
          exact hj7  _ h
        · replace h := ite_n c10 h
          refine g_goto (tgt := 134) dX10_tenth_77 (by decide) ?_
          refine g_sub [0, 1] (lv' := [(0, .ref 81), (1, .int y1)]) rfl ?_
          exact hj7  _ h
      refine g_if_eq (tgt := 33) dX10_tenth_26 (by decide) (fun c11 => ?_) (fun c11 => ?_)
      · replace h := ite_p c11 h
        refine g_iconst (v := 0) dX10_tenth_33 (by decide) ?_
        refine g_sub [0, 1] (lv' := [(0, .ref 81), (1, .int y1)]) rfl ?_
        exact hj5 _ _ h
      · replace h := ite_n c11 h
        refine g_iconst (v := 1) dX10_tenth_29 (by decide) ?_
        refine g_goto (tgt := 34) dX10_tenth_30 (by decide) ?_
        refine g_sub [0, 1] (lv' := [(0, .ref 81), (1, .int y1)]) rfl ?_
        exact hj5 _ _ h
set_option maxHeartbeats 4000000 in
set_option maxRecDepth 100000 in
theorem sl_X10_tenth_170 {l : Launch} {B : BT} (hA : bA B = false) {d : Nat} {r : Int32} {M' : Mm}   {k205 : Mm → Option (Int32 × Mm)} (hk205 : ∀  (M9 : Mm), k205  M9 = some (r, M') → GG l B LY (d + 3) yX10_tenth cX10_tenth 3 (some .boolean) 0 0 (PI r M') 97 0 0 205 [(0, .ref 81)] [] M9) :
    ∀ (n : Nat) (y1 : Int32) (M : Mm), lp_X10_tenth_170 k205 n y1 M = some (r, M') → GG l B LY (d + 3) yX10_tenth cX10_tenth 3 (some .boolean) 0 0 (PI r M') 97 0 0 170 [(0, .ref 81), (1, .int y1)] [] M := by
  intro n
  induction n with
  | zero => intro y1 M h; cases h
  | succ n ih =>
    intro y1 M h
    rw [lp_X10_tenth_170] at h
    refine g_iload_n dX10_tenth_170 rfl 1 rfl ?_
    refine g_if_lt (tgt := 205) dX10_tenth_171 (by decide) (fun c18 => ?_) (fun c18 => ?_)
    · replace h := ite_p c18 h
      refine g_sub [0] (lv' := [(0, .ref 81)]) rfl ?_
      exact hk205  _ h
    · replace h := ite_n c18 h
      refine g_aload_n dX10_tenth_174 rfl 0 rfl ?_
      refine m_getr (k := 17) okX10 rfl rfl (by decide) w_1286 rfl dX10_tenth_175 ?_
      refine g_bipush (v := 9) dX10_tenth_178 (by decide) ?_
      refine g_iload_n dX10_tenth_180 rfl 1 rfl ?_
      refine g_iadd dX10_tenth_181 ?_
      obtain ⟨hz, h⟩ := gd_s h
      refine m_iald rfl hz dX10_tenth_182 ?_
      refine g_aload_n dX10_tenth_183 rfl 0 rfl ?_
      refine m_getr (k := 15) okX10 rfl rfl (by decide) w_1284 rfl dX10_tenth_184 ?_
      refine g_iconst (v := 0) dX10_tenth_187 (by decide) ?_
      obtain ⟨hz, h⟩ := gd_s h
      refine m_iald rfl hz dX10_tenth_188 ?_
      obtain ⟨j16, ej16, h⟩ := jn_e h
      have hj16 : ∀ (M15 : Mm), j16 M15 = some (r, M') → GG l B LY (d + 3) yX10_tenth cX10_tenth 3 (some .boolean) 0 0 (PI r M') 97 0 0 199 [(0, .ref 81), (1, .int y1)] [] M15 := by
        intro M15 h
        rw [ej16] at h
        refine g_iinc (v := (y1 + (-1 : Int32))) (lv' := [(1, .int (y1 + (-1 : Int32))), (0, .ref 81)]) dX10_tenth_199 1 rfl rfl (by decide) rfl ?_
        refine g_goto (tgt := 170) dX10_tenth_202 (by decide) ?_
        refine g_sub [1, 0] (lv' := [(0, .ref 81), (1, .int (y1 + (-1 : Int32)))]) rfl ?_
        exact ih _  _ h
      refine g_icmp_ne (tgt := 199) dX10_tenth_189 (by decide) (fun c17 => ?_) (fun c17 => ?_)
      · replace h := ite_n c17 h
        refine g_sub [0, 1] (lv' := [(0, .ref 81), (1, .int y1)]) rfl ?_
        exact hj16  _ h
      · replace h := ite_p c17 h
        refine g_aload_n dX10_tenth_192 rfl 0 rfl ?_
        refine m_getr (k := 17) okX10 rfl rfl (by decide) w_1286 rfl dX10_tenth_193 ?_
        refine g_iconst (v := 5) dX10_tenth_196 (by decide) ?_
        refine g_iload_n dX10_tenth_197 rfl 1 rfl ?_
        obtain ⟨hz, h⟩ := gd_s h
        refine m_iast hA rfl hz dX10_tenth_198 ?_
        refine g_sub [0, 1] (lv' := [(0, .ref 81), (1, .int y1)]) rfl ?_
        exact hj16  _ h
set_option maxHeartbeats 4000000 in
set_option maxRecDepth 100000 in
theorem s_X10_tenth {l : Launch} {B : BT} (hA : bA B = false) {d : Nat} {r : Int32} {M' : Mm}  {M : Mm}  (h : f_X10_tenth  M = some (r, M')) : Con l B LY (d + 3) yX10_tenth cX10_tenth 3 (some .boolean) 0 0 [.ref 81] 97 M (PI r M') := by
  refine con_of (by decide) (Nat.le_of_ble_eq_true rfl) ?_
  show GG l B LY (d + 3) yX10_tenth cX10_tenth 3 (some .boolean) 0 0 (PI r M') 97 0 0 0 [(0, .ref 81)] [] M
  rw [f_X10_tenth] at h
  refine g_iconst (v := 0) dX10_tenth_0 (by decide) ?_
  refine g_istore_n (lv' := [(1, .int (0 : Int32)), (0, .ref 81)]) dX10_tenth_1 rfl (by decide) rfl ?_
  refine g_sub [1, 0] (lv' := [(0, .ref 81), (1, .int (0 : Int32))]) rfl ?_
  refine sl_X10_tenth_2 hA  ?_ _ _ _ h
  · intro  M13 h
    refine g_aload_n dX10_tenth_140 rfl 0 rfl ?_
    refine m_getr (k := 17) okX10 rfl rfl (by decide) w_1286 rfl dX10_tenth_141 ?_
    refine g_iconst (v := 4) dX10_tenth_144 (by decide) ?_
    refine g_dup2 dX10_tenth_145 rfl rfl ?_
    obtain ⟨hz, h⟩ := gd_s h
    refine m_iald rfl hz dX10_tenth_146 ?_
    refine g_iconst (v := 1) dX10_tenth_147 (by decide) ?_
    refine g_iadd dX10_tenth_148 ?_
    obtain ⟨hz, h⟩ := gd_s h
    refine m_iast hA rfl hz dX10_tenth_149 ?_
    refine g_aload_n dX10_tenth_150 rfl 0 rfl ?_
    refine m_getr (k := 17) okX10 rfl rfl (by decide) w_1286 rfl dX10_tenth_151 ?_
    refine g_iconst (v := 1) dX10_tenth_154 (by decide) ?_
    refine g_dup2 dX10_tenth_155 rfl rfl ?_
    obtain ⟨hz, h⟩ := gd_s h
    refine m_iald rfl hz dX10_tenth_156 ?_
    refine g_iconst (v := 1) dX10_tenth_157 (by decide) ?_
    refine g_iadd dX10_tenth_158 ?_
    obtain ⟨hz, h⟩ := gd_s h
    refine m_iast hA rfl hz dX10_tenth_159 ?_
    refine g_aload_n dX10_tenth_160 rfl 0 rfl ?_
    refine m_getr (k := 15) okX10 rfl rfl (by decide) w_1284 rfl dX10_tenth_161 ?_
    refine g_bipush (v := 95) dX10_tenth_164 (by decide) ?_
    obtain ⟨hz, h⟩ := gd_s h
    refine m_iald rfl hz dX10_tenth_166 ?_
    refine g_iconst (v := 1) dX10_tenth_167 (by decide) ?_
    refine g_isub dX10_tenth_168 ?_
    obtain ⟨t14, et14, h⟩ := lt_e h
    refine g_cuti et14 ?_
    refine g_istore_n (lv' := [(1, .int t14), (0, .ref 81)]) dX10_tenth_169 rfl (by decide) rfl ?_
    refine g_sub [1, 0] (lv' := [(0, .ref 81), (1, .int t14)]) rfl ?_
    refine sl_X10_tenth_170 hA  ?_ _ _ _ h
    · intro  M19 h
      refine g_aload_n dX10_tenth_205 rfl 0 rfl ?_
      refine m_getr (k := 17) okX10 rfl rfl (by decide) w_1286 rfl dX10_tenth_206 ?_
      refine g_iconst (v := 5) dX10_tenth_209 (by decide) ?_
      obtain ⟨hz, h⟩ := gd_s h
      refine m_iald rfl hz dX10_tenth_210 ?_
      refine g_if_lt (tgt := 220) dX10_tenth_211 (by decide) (fun c45 => ?_) (fun c45 => ?_)
      · replace h := ite_p c45 h
        refine g_aload_n dX10_tenth_220 rfl 0 rfl ?_
        refine m_getr (k := 17) okX10 rfl rfl (by decide) w_1286 rfl dX10_tenth_221 ?_
        refine g_iconst (v := 1) dX10_tenth_224 (by decide) ?_
        obtain ⟨hz, h⟩ := gd_s h
        refine m_iald rfl hz dX10_tenth_225 ?_
        refine g_aload_n dX10_tenth_226 rfl 0 rfl ?_
        refine g_aload_n dX10_tenth_227 rfl 0 rfl ?_
        refine m_getr (k := 17) okX10 rfl rfl (by decide) w_1286 rfl dX10_tenth_228 ?_
        refine g_iconst (v := 0) dX10_tenth_231 (by decide) ?_
        obtain ⟨hz, h⟩ := gd_s h
        refine m_iald rfl hz dX10_tenth_232 ?_
        obtain ⟨v233_21, M233_20, eM233_20, h⟩ := bd_e h
        refine m_callVi (As := [.int (M19 86 (0 : Int32).toNatClampNeg)]) (st := [.int (M19 86 (1 : Int32).toNatClampNeg)]) (s_X10_tenthsOf (d := d + 2) hA  eM233_20) rfl okX10 ck_X10_tenthsOf w_1524 rfl (Nat.le_of_ble_eq_true rfl) dX10_tenth_233 ?_
        refine g_icmp_ge (tgt := 241) dX10_tenth_236 (by decide) (fun c42 => ?_) (fun c42 => ?_)
        · replace h := ite_p c42 h
          refine g_aload_n dX10_tenth_241 rfl 0 rfl ?_
          refine m_getr (k := 17) okX10 rfl rfl (by decide) w_1286 rfl dX10_tenth_242 ?_
          refine g_iconst (v := 0) dX10_tenth_245 (by decide) ?_
          obtain ⟨hz, h⟩ := gd_s h
          refine m_iald rfl hz dX10_tenth_246 ?_
          refine g_aload_n dX10_tenth_247 rfl 0 rfl ?_
          refine m_getr (k := 15) okX10 rfl rfl (by decide) w_1284 rfl dX10_tenth_248 ?_
          refine g_bipush (v := 92) dX10_tenth_251 (by decide) ?_
          obtain ⟨hz, h⟩ := gd_s h
          refine m_iald rfl hz dX10_tenth_253 ?_
          refine g_iconst (v := 1) dX10_tenth_254 (by decide) ?_
          refine g_isub dX10_tenth_255 ?_
          obtain ⟨j24, ej24, h⟩ := jn_e h
          have hj24 : ∀ (s22 : Int32) (M23 : Mm), j24 s22 M23 = some (r, M') → GG l B LY (d + 3) yX10_tenth cX10_tenth 3 (some .boolean) 0 0 (PI r M') 97 0 0 264 [(0, .ref 81)] [.int s22] M23 := by
            intro s22 M23 h
            rw [ej24] at h
            refine g_istore_n (lv' := [(1, .int s22), (0, .ref 81)]) dX10_tenth_264 rfl (by decide) rfl ?_
            refine g_iload_n dX10_tenth_265 rfl 0 rfl ?_
            obtain ⟨j27, ej27, h⟩ := jn_e h
            have hj27 : ∀ (s25 : Int32) (M26 : Mm), j27 s25 M26 = some (r, M') → GG l B LY (d + 3) yX10_tenth cX10_tenth 3 (some .boolean) 0 0 (PI r M') 97 0 0 310 [(0, .ref 81)] [.int s25] M26 := by
              intro s25 M26 h
              rw [ej27] at h
              refine g_istore_n (lv' := [(2, .int s25), (0, .ref 81)]) dX10_tenth_310 rfl (by decide) rfl ?_
              refine g_aload_n dX10_tenth_311 rfl 1 rfl ?_
              refine m_getr (k := 17) okX10 rfl rfl (by decide) w_1286 rfl dX10_tenth_312 ?_
              refine g_iconst (v := 0) dX10_tenth_315 (by decide) ?_
              refine g_dup2 dX10_tenth_316 rfl rfl ?_
              obtain ⟨hz, h⟩ := gd_s h
              refine m_iald rfl hz dX10_tenth_317 ?_
              refine g_iconst (v := 1) dX10_tenth_318 (by decide) ?_
              refine g_iadd dX10_tenth_319 ?_
              obtain ⟨hz, h⟩ := gd_s h
              refine m_iast hA rfl hz dX10_tenth_320 ?_
              refine g_aload_n dX10_tenth_321 rfl 1 rfl ?_
              refine m_getr (k := 17) okX10 rfl rfl (by decide) w_1286 rfl dX10_tenth_322 ?_
              refine g_iconst (v := 1) dX10_tenth_325 (by decide) ?_
              refine g_iconst (v := 0) dX10_tenth_326 (by decide) ?_
              obtain ⟨hz, h⟩ := gd_s h
              refine m_iast hA rfl hz dX10_tenth_327 ?_
              refine g_iload_n dX10_tenth_328 rfl 0 rfl ?_
              refine g_if_eq (tgt := 336) dX10_tenth_329 (by decide) (fun c30 => ?_) (fun c30 => ?_)
              · replace h := ite_p c30 h
                refine g_iload_n dX10_tenth_336 rfl 0 rfl ?_
                obtain ⟨hz, h⟩ := gd_s h
                exact g_zret rfl (nar_zo hz) (pi_of h) dX10_tenth_337
              · replace h := ite_n c30 h
                refine g_aload_n dX10_tenth_332 rfl 1 rfl ?_
                obtain ⟨M333_28, eM333_28, h⟩ := bv_e h
                refine m_callVv (As := []) (st := []) (s_X10_look (d := d + 1) hA  eM333_28) rfl okX10 ck_X10_look w_1548 rfl (Nat.le_of_ble_eq_true rfl) dX10_tenth_333 ?_
                refine g_iload_n dX10_tenth_336 rfl 0 rfl ?_
                obtain ⟨hz, h⟩ := gd_s h
                exact g_zret rfl (nar_zo hz) (pi_of h) dX10_tenth_337
            obtain ⟨j32, ej32, h⟩ := jn_e h
            have hj32 : ∀ (M31 : Mm), j32 M31 = some (r, M') → GG l B LY (d + 3) yX10_tenth cX10_tenth 3 (some .boolean) 0 0 (PI r M') 97 0 0 305 [(0, .ref 81)] [] M31 := by
              intro M31 h
              rw [ej32] at h
              refine g_iconst (v := 1) dX10_tenth_305 (by decide) ?_
              refine g_goto (tgt := 310) dX10_tenth_306 (by decide) ?_
              refine g_sub [0] (lv' := [(0, .ref 81)]) rfl ?_
              exact hj27 _ _ h
            refine g_if_ne (tgt := 305) dX10_tenth_266 (by decide) (fun c40 => ?_) (fun c40 => ?_)
            · replace h := ite_n c40 h
              refine g_sub [1] (lv' := [(0, .ref 81)]) rfl ?_
              exact hj32  _ h
            · replace h := ite_p c40 h
              refine g_aload_n dX10_tenth_269 rfl 1 rfl ?_
              obtain ⟨v270_34, M270_33, eM270_33, h⟩ := bd_e h
              refine m_callVi (As := []) (st := []) (s_X10_draw (d := d + 2) hA  eM270_33) rfl okX10 ck_X10_draw w_1543 rfl (Nat.le_of_ble_eq_true rfl) dX10_tenth_270 ?_
              refine g_aload_n dX10_tenth_273 rfl 1 rfl ?_
              refine m_getr (k := 15) okX10 rfl rfl (by decide) w_1284 rfl dX10_tenth_274 ?_
              refine g_bipush (v := 6) dX10_tenth_277 (by decide) ?_
              refine g_iload_n dX10_tenth_279 rfl 0 rfl ?_
              obtain ⟨j37, ej37, h⟩ := jn_e h
              have hj37 : ∀ (s35 : Int32) (M36 : Mm), j37 s35 M36 = some (r, M') → GG l B LY (d + 3) yX10_tenth cX10_tenth 3 (some .boolean) 0 0 (PI r M') 97 0 0 293 [(0, .ref 81)] [.int s35, .int (6 : Int32), .ref 84, .int v270_34] M36 := by
                intro s35 M36 h
                rw [ej37] at h
                refine g_iadd dX10_tenth_293 ?_
                obtain ⟨hz, h⟩ := gd_s h
                refine m_iald rfl hz dX10_tenth_294 ?_
                refine g_aload_n dX10_tenth_295 rfl 0 rfl ?_
                refine m_getr (k := 17) okX10 rfl rfl (by decide) w_1286 rfl dX10_tenth_296 ?_
                refine g_iconst (v := 2) dX10_tenth_299 (by decide) ?_
                obtain ⟨hz, h⟩ := gd_s h
                refine m_iald rfl hz dX10_tenth_300 ?_
                refine g_iadd dX10_tenth_301 ?_
                refine g_icmp_ge (tgt := 309) dX10_tenth_302 (by decide) (fun c38 => ?_) (fun c38 => ?_)
                · replace h := ite_p c38 h
                  refine g_iconst (v := 0) dX10_tenth_309 (by decide) ?_
                  refine g_sub [0] (lv' := [(0, .ref 81)]) rfl ?_
                  exact hj27 _ _ h
                · replace h := ite_n c38 h
                  refine g_sub [0] (lv' := [(0, .ref 81)]) rfl ?_
                  exact hj32  _ h
              refine g_if_eq (tgt := 287) dX10_tenth_280 (by decide) (fun c39 => ?_) (fun c39 => ?_)
              · replace h := ite_p c39 h
                refine g_aload_n dX10_tenth_287 rfl 1 rfl ?_
                refine m_getr (k := 17) okX10 rfl rfl (by decide) w_1286 rfl dX10_tenth_288 ?_
                refine g_iconst (v := 0) dX10_tenth_291 (by decide) ?_
                obtain ⟨hz, h⟩ := gd_s h
                refine m_iald rfl hz dX10_tenth_292 ?_
                refine g_sub [1] (lv' := [(0, .ref 81)]) rfl ?_
                exact hj37 _ _ h
              · replace h := ite_n c39 h
                refine g_iconst (v := 0) dX10_tenth_283 (by decide) ?_
                refine g_goto (tgt := 293) dX10_tenth_284 (by decide) ?_
                refine g_sub [1] (lv' := [(0, .ref 81)]) rfl ?_
                exact hj37 _ _ h
          refine g_icmp_ne (tgt := 263) dX10_tenth_256 (by decide) (fun c41 => ?_) (fun c41 => ?_)
          · replace h := ite_n c41 h
            refine g_iconst (v := 0) dX10_tenth_263 (by decide) ?_
            refine g_sub [0] (lv' := [(0, .ref 81)]) rfl ?_
            exact hj24 _ _ h
          · replace h := ite_p c41 h
            refine g_iconst (v := 1) dX10_tenth_259 (by decide) ?_
            refine g_goto (tgt := 264) dX10_tenth_260 (by decide) ?_
            refine g_sub [0] (lv' := [(0, .ref 81)]) rfl ?_
            exact hj24 _ _ h
        · replace h := ite_n c42 h
          refine g_iconst (v := 0) dX10_tenth_239 (by decide) ?_
          exact g_zret rfl rfl (pi_of h) dX10_tenth_240
      · replace h := ite_n c45 h
        refine g_aload_n dX10_tenth_214 rfl 0 rfl ?_
        obtain ⟨M215_43, eM215_43, h⟩ := bv_e h
        refine m_callVv (As := []) (st := []) (s_X10_run (d := d + 0) hA  eM215_43) rfl okX10 ck_X10_run w_1532 rfl (Nat.le_of_ble_eq_true rfl) dX10_tenth_215 ?_
        refine g_iconst (v := 0) dX10_tenth_218 (by decide) ?_
        exact g_zret rfl rfl (pi_of h) dX10_tenth_219
theorem ck_X10_tenth : CKV yX10_tenth cX10_tenth 3 (some .boolean) 0 := ⟨⟨by decide, by decide, by decide +kernel⟩, w_1519, w_81, ⟨w_1518, w_31⟩, by decide⟩
theorem dX10_start_0 : decode cX10_start 0 = .ok (.aload_n 0, 1) := by decide +kernel
theorem dX10_start_1 : decode cX10_start 1 = .ok (.invokevirtual 156, 3) := by decide +kernel
theorem dX10_start_4 : decode cX10_start 4 = .ok (.aload_n 0, 1) := by decide +kernel
theorem dX10_start_5 : decode cX10_start 5 = .ok (.getfield 165, 3) := by decide +kernel
theorem dX10_start_8 : decode cX10_start 8 = .ok (.ifCond .ne 9, 3) := by decide +kernel
theorem dX10_start_11 : decode cX10_start 11 = .ok (.aload_n 0, 1) := by decide +kernel
theorem dX10_start_12 : decode cX10_start 12 = .ok (.iconst 1, 1) := by decide +kernel
theorem dX10_start_13 : decode cX10_start 13 = .ok (.invokevirtual 271, 3) := by decide +kernel
theorem dX10_start_16 : decode cX10_start 16 = .ok (.ireturn, 1) := by decide +kernel
theorem dX10_start_17 : decode cX10_start 17 = .ok (.iload_n 1, 1) := by decide +kernel
theorem dX10_start_18 : decode cX10_start 18 = .ok (.iconst 0, 1) := by decide +kernel
theorem dX10_start_19 : decode cX10_start 19 = .ok (.ldc_w 274, 3) := by decide +kernel
theorem dX10_start_22 : decode cX10_start 22 = .ok (.invokestatic 144, 3) := by decide +kernel
theorem dX10_start_25 : decode cX10_start 25 = .ok (.ifCond .ne 9, 3) := by decide +kernel
theorem dX10_start_28 : decode cX10_start 28 = .ok (.aload_n 0, 1) := by decide +kernel
theorem dX10_start_29 : decode cX10_start 29 = .ok (.iconst 2, 1) := by decide +kernel
theorem dX10_start_30 : decode cX10_start 30 = .ok (.invokevirtual 271, 3) := by decide +kernel
theorem dX10_start_33 : decode cX10_start 33 = .ok (.ireturn, 1) := by decide +kernel
theorem dX10_start_34 : decode cX10_start 34 = .ok (.aload_n 0, 1) := by decide +kernel
theorem dX10_start_35 : decode cX10_start 35 = .ok (.iload_n 1, 1) := by decide +kernel
theorem dX10_start_36 : decode cX10_start 36 = .ok (.invokevirtual 168, 3) := by decide +kernel
theorem dX10_start_39 : decode cX10_start 39 = .ok (.iconst 1, 1) := by decide +kernel
theorem dX10_start_40 : decode cX10_start 40 = .ok (.ireturn, 1) := by decide +kernel
def f_X10_start (x1 : Int32) (M : Mm) : Option (Int32 × Mm) :=
  bv (f_X10_good  M) fun M1_1 => if (M1_1 81 14) = 0 then (bd (f_X10_isNot (1 : Int32) M1_1) fun v13_11 M13_10 => gd (zo v13_11) <| some (v13_11, M13_10)) else (bd (f_X10_within x1 (0 : Int32) (65536 : Int32) M1_1) fun v22_4 M22_3 => if v22_4 = 0 then (bd (f_X10_isNot (2 : Int32) M22_3) fun v30_8 M30_7 => gd (zo v30_8) <| some (v30_8, M30_7)) else (bv (f_X10_begin x1 M22_3) fun M36_5 => some ((1 : Int32), M36_5)))
set_option maxHeartbeats 4000000 in
set_option maxRecDepth 100000 in
theorem s_X10_start {l : Launch} {B : BT} (hA : bA B = false) {d : Nat} {r : Int32} {M' : Mm} {x1 : Int32} {M : Mm}  (h : f_X10_start x1 M = some (r, M')) : Con l B LY (d + 1) yX10_start cX10_start 2 (some .boolean) 0 0 [.ref 81, .int x1] 97 M (PI r M') := by
  refine con_of (by decide) (Nat.le_of_ble_eq_true rfl) ?_
  show GG l B LY (d + 1) yX10_start cX10_start 2 (some .boolean) 0 0 (PI r M') 97 0 0 0 [(0, .ref 81), (1, .int x1)] [] M
  rw [f_X10_start] at h
  refine g_aload_n dX10_start_0 rfl 0 rfl ?_
  obtain ⟨M1_1, eM1_1, h⟩ := bv_e h
  refine m_callVv (As := []) (st := []) (s_X10_good (d := d + 0) hA  eM1_1) rfl okX10 ck_X10_good w_1381 rfl (Nat.le_of_ble_eq_true rfl) dX10_start_1 ?_
  refine g_aload_n dX10_start_4 rfl 0 rfl ?_
  refine m_geti (k := 14) okX10 rfl rfl (by decide) w_1283 rfl dX10_start_5 ?_
  refine g_if_ne (tgt := 17) dX10_start_8 (by decide) (fun c12 => ?_) (fun c12 => ?_)
  · replace h := ite_n c12 h
    refine g_iload_n dX10_start_17 rfl 1 rfl ?_
    refine g_iconst (v := 0) dX10_start_18 (by decide) ?_
    refine g_ldcw (v := 65536) w_1511 dX10_start_19 ?_
    obtain ⟨v22_4, M22_3, eM22_3, h⟩ := bd_e h
    refine m_callSi (As := [.int x1, .int (0 : Int32), .int (65536 : Int32)]) (st := []) (s_X10_within (d := d + 0) hA  eM22_3) ck_X10_within w_1385 rfl (Nat.le_of_ble_eq_true rfl) dX10_start_22 ?_
    refine g_if_ne (tgt := 34) dX10_start_25 (by decide) (fun c9 => ?_) (fun c9 => ?_)
    · replace h := ite_n c9 h
      refine g_aload_n dX10_start_34 rfl 0 rfl ?_
      refine g_iload_n dX10_start_35 rfl 1 rfl ?_
      obtain ⟨M36_5, eM36_5, h⟩ := bv_e h
      refine m_callVv (As := [.int x1]) (st := []) (s_X10_begin (d := d + 0) hA  eM36_5) rfl okX10 ck_X10_begin w_1491 rfl (Nat.le_of_ble_eq_true rfl) dX10_start_36 ?_
      refine g_iconst (v := 1) dX10_start_39 (by decide) ?_
      exact g_zret rfl rfl (pi_of h) dX10_start_40
    · replace h := ite_p c9 h
      refine g_aload_n dX10_start_28 rfl 0 rfl ?_
      refine g_iconst (v := 2) dX10_start_29 (by decide) ?_
      obtain ⟨v30_8, M30_7, eM30_7, h⟩ := bd_e h
      refine m_callVi (As := [.int (2 : Int32)]) (st := []) (s_X10_isNot (d := d + 0) hA  eM30_7) rfl okX10 ck_X10_isNot w_1507 rfl (Nat.le_of_ble_eq_true rfl) dX10_start_30 ?_
      obtain ⟨hz, h⟩ := gd_s h
      exact g_zret rfl (nar_zo hz) (pi_of h) dX10_start_33
  · replace h := ite_p c12 h
    refine g_aload_n dX10_start_11 rfl 0 rfl ?_
    refine g_iconst (v := 1) dX10_start_12 (by decide) ?_
    obtain ⟨v13_11, M13_10, eM13_10, h⟩ := bd_e h
    refine m_callVi (As := [.int (1 : Int32)]) (st := []) (s_X10_isNot (d := d + 0) hA  eM13_10) rfl okX10 ck_X10_isNot w_1507 rfl (Nat.le_of_ble_eq_true rfl) dX10_start_13 ?_
    obtain ⟨hz, h⟩ := gd_s h
    exact g_zret rfl (nar_zo hz) (pi_of h) dX10_start_16
theorem ck_X10_start : CKV yX10_start cX10_start 2 (some .boolean) 1 := ⟨⟨by decide, by decide, by decide +kernel⟩, w_1506, w_81, ⟨w_1504, w_1505⟩, by decide⟩
theorem dX10_tenths_0 : decode cX10_tenths 0 = .ok (.aload_n 0, 1) := by decide +kernel
theorem dX10_tenths_1 : decode cX10_tenths 1 = .ok (.invokevirtual 156, 3) := by decide +kernel
theorem dX10_tenths_4 : decode cX10_tenths 4 = .ok (.aload_n 0, 1) := by decide +kernel
theorem dX10_tenths_5 : decode cX10_tenths 5 = .ok (.getfield 165, 3) := by decide +kernel
theorem dX10_tenths_8 : decode cX10_tenths 8 = .ok (.ifCond .ne 9, 3) := by decide +kernel
theorem dX10_tenths_11 : decode cX10_tenths 11 = .ok (.aload_n 0, 1) := by decide +kernel
theorem dX10_tenths_12 : decode cX10_tenths 12 = .ok (.iconst 1, 1) := by decide +kernel
theorem dX10_tenths_13 : decode cX10_tenths 13 = .ok (.invokevirtual 159, 3) := by decide +kernel
theorem dX10_tenths_16 : decode cX10_tenths 16 = .ok (.ireturn, 1) := by decide +kernel
theorem dX10_tenths_17 : decode cX10_tenths 17 = .ok (.iload_n 1, 1) := by decide +kernel
theorem dX10_tenths_18 : decode cX10_tenths 18 = .ok (.iconst 1, 1) := by decide +kernel
theorem dX10_tenths_19 : decode cX10_tenths 19 = .ok (.bipush 100, 2) := by decide +kernel
theorem dX10_tenths_21 : decode cX10_tenths 21 = .ok (.invokestatic 144, 3) := by decide +kernel
theorem dX10_tenths_24 : decode cX10_tenths 24 = .ok (.ifCond .ne 9, 3) := by decide +kernel
theorem dX10_tenths_27 : decode cX10_tenths 27 = .ok (.aload_n 0, 1) := by decide +kernel
theorem dX10_tenths_28 : decode cX10_tenths 28 = .ok (.iconst 2, 1) := by decide +kernel
theorem dX10_tenths_29 : decode cX10_tenths 29 = .ok (.invokevirtual 159, 3) := by decide +kernel
theorem dX10_tenths_32 : decode cX10_tenths 32 = .ok (.ireturn, 1) := by decide +kernel
theorem dX10_tenths_33 : decode cX10_tenths 33 = .ok (.aload_n 0, 1) := by decide +kernel
theorem dX10_tenths_34 : decode cX10_tenths 34 = .ok (.getfield 26, 3) := by decide +kernel
theorem dX10_tenths_37 : decode cX10_tenths 37 = .ok (.bipush 8, 2) := by decide +kernel
theorem dX10_tenths_39 : decode cX10_tenths 39 = .ok (.iaload, 1) := by decide +kernel
theorem dX10_tenths_40 : decode cX10_tenths 40 = .ok (.iconst 1, 1) := by decide +kernel
theorem dX10_tenths_41 : decode cX10_tenths 41 = .ok (.if_icmp .ne 10, 3) := by decide +kernel
theorem dX10_tenths_44 : decode cX10_tenths 44 = .ok (.aload_n 0, 1) := by decide +kernel
theorem dX10_tenths_45 : decode cX10_tenths 45 = .ok (.bipush 6, 2) := by decide +kernel
theorem dX10_tenths_47 : decode cX10_tenths 47 = .ok (.invokevirtual 159, 3) := by decide +kernel
theorem dX10_tenths_50 : decode cX10_tenths 50 = .ok (.ireturn, 1) := by decide +kernel
theorem dX10_tenths_51 : decode cX10_tenths 51 = .ok (.aload_n 0, 1) := by decide +kernel
theorem dX10_tenths_52 : decode cX10_tenths 52 = .ok (.getfield 26, 3) := by decide +kernel
theorem dX10_tenths_55 : decode cX10_tenths 55 = .ok (.iconst 4, 1) := by decide +kernel
theorem dX10_tenths_56 : decode cX10_tenths 56 = .ok (.iaload, 1) := by decide +kernel
theorem dX10_tenths_57 : decode cX10_tenths 57 = .ok (.istore_n 2, 1) := by decide +kernel
theorem dX10_tenths_58 : decode cX10_tenths 58 = .ok (.iconst 1, 1) := by decide +kernel
theorem dX10_tenths_59 : decode cX10_tenths 59 = .ok (.istore_n 3, 1) := by decide +kernel
theorem dX10_tenths_60 : decode cX10_tenths 60 = .ok (.aload_n 0, 1) := by decide +kernel
theorem dX10_tenths_61 : decode cX10_tenths 61 = .ok (.getfield 26, 3) := by decide +kernel
theorem dX10_tenths_64 : decode cX10_tenths 64 = .ok (.iconst 4, 1) := by decide +kernel
theorem dX10_tenths_65 : decode cX10_tenths 65 = .ok (.iaload, 1) := by decide +kernel
theorem dX10_tenths_66 : decode cX10_tenths 66 = .ok (.iload_n 2, 1) := by decide +kernel
theorem dX10_tenths_67 : decode cX10_tenths 67 = .ok (.isub, 1) := by decide +kernel
theorem dX10_tenths_68 : decode cX10_tenths 68 = .ok (.iload_n 1, 1) := by decide +kernel
theorem dX10_tenths_69 : decode cX10_tenths 69 = .ok (.if_icmp .ge 33, 3) := by decide +kernel
theorem dX10_tenths_72 : decode cX10_tenths 72 = .ok (.iload_n 3, 1) := by decide +kernel
theorem dX10_tenths_73 : decode cX10_tenths 73 = .ok (.ifCond .eq 29, 3) := by decide +kernel
theorem dX10_tenths_76 : decode cX10_tenths 76 = .ok (.aload_n 0, 1) := by decide +kernel
theorem dX10_tenths_77 : decode cX10_tenths 77 = .ok (.invokevirtual 275, 3) := by decide +kernel
theorem dX10_tenths_80 : decode cX10_tenths 80 = .ok (.ifCond .ne 13, 3) := by decide +kernel
theorem dX10_tenths_83 : decode cX10_tenths 83 = .ok (.aload_n 0, 1) := by decide +kernel
theorem dX10_tenths_84 : decode cX10_tenths 84 = .ok (.getfield 26, 3) := by decide +kernel
theorem dX10_tenths_87 : decode cX10_tenths 87 = .ok (.bipush 8, 2) := by decide +kernel
theorem dX10_tenths_89 : decode cX10_tenths 89 = .ok (.iaload, 1) := by decide +kernel
theorem dX10_tenths_90 : decode cX10_tenths 90 = .ok (.ifCond .ne 7, 3) := by decide +kernel
theorem dX10_tenths_93 : decode cX10_tenths 93 = .ok (.iconst 1, 1) := by decide +kernel
theorem dX10_tenths_94 : decode cX10_tenths 94 = .ok (.goto 4, 3) := by decide +kernel
theorem dX10_tenths_97 : decode cX10_tenths 97 = .ok (.iconst 0, 1) := by decide +kernel
theorem dX10_tenths_98 : decode cX10_tenths 98 = .ok (.istore_n 3, 1) := by decide +kernel
theorem dX10_tenths_99 : decode cX10_tenths 99 = .ok (.goto (-39), 3) := by decide +kernel
theorem dX10_tenths_102 : decode cX10_tenths 102 = .ok (.aload_n 0, 1) := by decide +kernel
theorem dX10_tenths_103 : decode cX10_tenths 103 = .ok (.getfield 26, 3) := by decide +kernel
theorem dX10_tenths_106 : decode cX10_tenths 106 = .ok (.iconst 4, 1) := by decide +kernel
theorem dX10_tenths_107 : decode cX10_tenths 107 = .ok (.iaload, 1) := by decide +kernel
theorem dX10_tenths_108 : decode cX10_tenths 108 = .ok (.iload_n 2, 1) := by decide +kernel
theorem dX10_tenths_109 : decode cX10_tenths 109 = .ok (.isub, 1) := by decide +kernel
theorem dX10_tenths_110 : decode cX10_tenths 110 = .ok (.ireturn, 1) := by decide +kernel
def lp_X10_tenths_60 (y1 : Int32) (y2 : Int32) (k102 : Mm → Option (Int32 × Mm)) : Nat → Int32 → Mm → Option (Int32 × Mm)
  | 0, _, _ => none
  | n + 1, y3, M =>
    gd (inb (4 : Int32) 44) <| if y1 ≤ ((M 86 (4 : Int32).toNatClampNeg) - y2) then (k102  M) else (if y3 = 0 then (k102  M) else (bd (f_X10_tenth  M) fun v77_7 M77_6 => jn (fun (s8 : Int32) (M9 : Mm) => lp_X10_tenths_60 y1 y2 k102 n s8 M9) fun j10 => jn (fun (M11 : Mm) => j10 (1 : Int32) M11) fun j12 => if v77_7 = 0 then (gd (inb (8 : Int32) 44) <| if (M77_6 86 (8 : Int32).toNatClampNeg) = 0 then (j12  M77_6) else (j10 (0 : Int32) M77_6)) else (j12  M77_6)))
def f_X10_tenths (x1 : Int32) (M : Mm) : Option (Int32 × Mm) :=
  bv (f_X10_good  M) fun M1_1 => if (M1_1 81 14) = 0 then (bd (f_X10_no (1 : Int32) M1_1) fun v13_25 M13_24 => some (v13_25, M13_24)) else (bd (f_X10_within x1 (1 : Int32) (100 : Int32) M1_1) fun v21_4 M21_3 => if v21_4 = 0 then (bd (f_X10_no (2 : Int32) M21_3) fun v29_22 M29_21 => some (v29_22, M29_21)) else (gd (inb (8 : Int32) 44) <| if (M21_3 86 (8 : Int32).toNatClampNeg) = (1 : Int32) then (bd (f_X10_no (6 : Int32) M21_3) fun v47_19 M47_18 => some (v47_19, M47_18)) else (gd (inb (4 : Int32) 44) <| lt ((M21_3 86 (4 : Int32).toNatClampNeg)) fun t5 => lp_X10_tenths_60 x1 t5 (fun  (M17 : Mm) => gd (inb (4 : Int32) 44) <| some (((M17 86 (4 : Int32).toNatClampNeg) - t5), M17)) N0 (1 : Int32) M21_3)))
set_option maxHeartbeats 4000000 in
set_option maxRecDepth 100000 in
theorem sl_X10_tenths_60 {l : Launch} {B : BT} (hA : bA B = false) {d : Nat} {r : Int32} {M' : Mm} {y1 : Int32} {y2 : Int32}  {k102 : Mm → Option (Int32 × Mm)} (hk102 : ∀  (M9 : Mm), k102  M9 = some (r, M') → GG l B LY (d + 4) yX10_tenths cX10_tenths 4 (some .int) 0 0 (PI r M') 97 0 0 102 [(0, .ref 81), (2, .int y2)] [] M9) :
    ∀ (n : Nat) (y3 : Int32) (M : Mm), lp_X10_tenths_60 y1 y2 k102 n y3 M = some (r, M') → GG l B LY (d + 4) yX10_tenths cX10_tenths 4 (some .int) 0 0 (PI r M') 97 0 0 60 [(0, .ref 81), (1, .int y1), (2, .int y2), (3, .int y3)] [] M := by
  intro n
  induction n with
  | zero => intro y3 M h; cases h
  | succ n ih =>
    intro y3 M h
    rw [lp_X10_tenths_60] at h
    refine g_aload_n dX10_tenths_60 rfl 0 rfl ?_
    refine m_getr (k := 17) okX10 rfl rfl (by decide) w_1286 rfl dX10_tenths_61 ?_
    refine g_iconst (v := 4) dX10_tenths_64 (by decide) ?_
    obtain ⟨hz, h⟩ := gd_s h
    refine m_iald rfl hz dX10_tenths_65 ?_
    refine g_iload_n dX10_tenths_66 rfl 2 rfl ?_
    refine g_isub dX10_tenths_67 ?_
    refine g_iload_n dX10_tenths_68 rfl 1 rfl ?_
    refine g_icmp_ge (tgt := 102) dX10_tenths_69 (by decide) (fun c16 => ?_) (fun c16 => ?_)
    · replace h := ite_p c16 h
      refine g_sub [0, 2] (lv' := [(0, .ref 81), (2, .int y2)]) rfl ?_
      exact hk102  _ h
    · replace h := ite_n c16 h
      refine g_iload_n dX10_tenths_72 rfl 3 rfl ?_
      refine g_if_eq (tgt := 102) dX10_tenths_73 (by decide) (fun c15 => ?_) (fun c15 => ?_)
      · replace h := ite_p c15 h
        refine g_sub [0, 2] (lv' := [(0, .ref 81), (2, .int y2)]) rfl ?_
        exact hk102  _ h
      · replace h := ite_n c15 h
        refine g_aload_n dX10_tenths_76 rfl 0 rfl ?_
        obtain ⟨v77_7, M77_6, eM77_6, h⟩ := bd_e h
        refine m_callVi (As := []) (st := []) (s_X10_tenth (d := d + 0) hA  eM77_6) rfl okX10 ck_X10_tenth w_1516 rfl (Nat.le_of_ble_eq_true rfl) dX10_tenths_77 ?_
        obtain ⟨j10, ej10, h⟩ := jn_e h
        have hj10 : ∀ (s8 : Int32) (M9 : Mm), j10 s8 M9 = some (r, M') → GG l B LY (d + 4) yX10_tenths cX10_tenths 4 (some .int) 0 0 (PI r M') 97 0 0 98 [(0, .ref 81), (1, .int y1), (2, .int y2)] [.int s8] M9 := by
          intro s8 M9 h
          rw [ej10] at h
          refine g_istore_n (lv' := [(3, .int s8), (0, .ref 81), (1, .int y1), (2, .int y2)]) dX10_tenths_98 rfl (by decide) rfl ?_
          refine g_goto (tgt := 60) dX10_tenths_99 (by decide) ?_
          refine g_sub [1, 2, 3, 0] (lv' := [(0, .ref 81), (1, .int y1), (2, .int y2), (3, .int s8)]) rfl ?_
          exact ih _  _ h
        obtain ⟨j12, ej12, h⟩ := jn_e h
        have hj12 : ∀ (M11 : Mm), j12 M11 = some (r, M') → GG l B LY (d + 4) yX10_tenths cX10_tenths 4 (some .int) 0 0 (PI r M') 97 0 0 93 [(0, .ref 81), (1, .int y1), (2, .int y2)] [] M11 := by
          intro M11 h
          rw [ej12] at h
          refine g_iconst (v := 1) dX10_tenths_93 (by decide) ?_
          refine g_goto (tgt := 98) dX10_tenths_94 (by decide) ?_
          refine g_sub [0, 1, 2] (lv' := [(0, .ref 81), (1, .int y1), (2, .int y2)]) rfl ?_
          exact hj10 _ _ h
        refine g_if_ne (tgt := 93) dX10_tenths_80 (by decide) (fun c14 => ?_) (fun c14 => ?_)
        · replace h := ite_n c14 h
          refine g_sub [0, 1, 2] (lv' := [(0, .ref 81), (1, .int y1), (2, .int y2)]) rfl ?_
          exact hj12  _ h
        · replace h := ite_p c14 h
          refine g_aload_n dX10_tenths_83 rfl 0 rfl ?_
          refine m_getr (k := 17) okX10 rfl rfl (by decide) w_1286 rfl dX10_tenths_84 ?_
          refine g_bipush (v := 8) dX10_tenths_87 (by decide) ?_
          obtain ⟨hz, h⟩ := gd_s h
          refine m_iald rfl hz dX10_tenths_89 ?_
          refine g_if_ne (tgt := 97) dX10_tenths_90 (by decide) (fun c13 => ?_) (fun c13 => ?_)
          · replace h := ite_n c13 h
            refine g_iconst (v := 0) dX10_tenths_97 (by decide) ?_
            refine g_sub [0, 1, 2] (lv' := [(0, .ref 81), (1, .int y1), (2, .int y2)]) rfl ?_
            exact hj10 _ _ h
          · replace h := ite_p c13 h
            refine g_sub [0, 1, 2] (lv' := [(0, .ref 81), (1, .int y1), (2, .int y2)]) rfl ?_
            exact hj12  _ h
set_option maxHeartbeats 4000000 in
set_option maxRecDepth 100000 in
theorem s_X10_tenths {l : Launch} {B : BT} (hA : bA B = false) {d : Nat} {r : Int32} {M' : Mm} {x1 : Int32} {M : Mm}  (h : f_X10_tenths x1 M = some (r, M')) : Con l B LY (d + 4) yX10_tenths cX10_tenths 4 (some .int) 0 0 [.ref 81, .int x1] 97 M (PI r M') := by
  refine con_of (by decide) (Nat.le_of_ble_eq_true rfl) ?_
  show GG l B LY (d + 4) yX10_tenths cX10_tenths 4 (some .int) 0 0 (PI r M') 97 0 0 0 [(0, .ref 81), (1, .int x1)] [] M
  rw [f_X10_tenths] at h
  refine g_aload_n dX10_tenths_0 rfl 0 rfl ?_
  obtain ⟨M1_1, eM1_1, h⟩ := bv_e h
  refine m_callVv (As := []) (st := []) (s_X10_good (d := d + 3) hA  eM1_1) rfl okX10 ck_X10_good w_1381 rfl (Nat.le_of_ble_eq_true rfl) dX10_tenths_1 ?_
  refine g_aload_n dX10_tenths_4 rfl 0 rfl ?_
  refine m_geti (k := 14) okX10 rfl rfl (by decide) w_1283 rfl dX10_tenths_5 ?_
  refine g_if_ne (tgt := 17) dX10_tenths_8 (by decide) (fun c26 => ?_) (fun c26 => ?_)
  · replace h := ite_n c26 h
    refine g_iload_n dX10_tenths_17 rfl 1 rfl ?_
    refine g_iconst (v := 1) dX10_tenths_18 (by decide) ?_
    refine g_bipush (v := 100) dX10_tenths_19 (by decide) ?_
    obtain ⟨v21_4, M21_3, eM21_3, h⟩ := bd_e h
    refine m_callSi (As := [.int x1, .int (1 : Int32), .int (100 : Int32)]) (st := []) (s_X10_within (d := d + 3) hA  eM21_3) ck_X10_within w_1385 rfl (Nat.le_of_ble_eq_true rfl) dX10_tenths_21 ?_
    refine g_if_ne (tgt := 33) dX10_tenths_24 (by decide) (fun c23 => ?_) (fun c23 => ?_)
    · replace h := ite_n c23 h
      refine g_aload_n dX10_tenths_33 rfl 0 rfl ?_
      refine m_getr (k := 17) okX10 rfl rfl (by decide) w_1286 rfl dX10_tenths_34 ?_
      refine g_bipush (v := 8) dX10_tenths_37 (by decide) ?_
      obtain ⟨hz, h⟩ := gd_s h
      refine m_iald rfl hz dX10_tenths_39 ?_
      refine g_iconst (v := 1) dX10_tenths_40 (by decide) ?_
      refine g_icmp_ne (tgt := 51) dX10_tenths_41 (by decide) (fun c20 => ?_) (fun c20 => ?_)
      · replace h := ite_n c20 h
        refine g_aload_n dX10_tenths_51 rfl 0 rfl ?_
        refine m_getr (k := 17) okX10 rfl rfl (by decide) w_1286 rfl dX10_tenths_52 ?_
        refine g_iconst (v := 4) dX10_tenths_55 (by decide) ?_
        obtain ⟨hz, h⟩ := gd_s h
        refine m_iald rfl hz dX10_tenths_56 ?_
        obtain ⟨t5, et5, h⟩ := lt_e h
        refine g_cuti et5 ?_
        refine g_istore_n (lv' := [(2, .int t5), (0, .ref 81), (1, .int x1)]) dX10_tenths_57 rfl (by decide) rfl ?_
        refine g_iconst (v := 1) dX10_tenths_58 (by decide) ?_
        refine g_istore_n (lv' := [(3, .int (1 : Int32)), (2, .int t5), (0, .ref 81), (1, .int x1)]) dX10_tenths_59 rfl (by decide) rfl ?_
        refine g_sub [2, 3, 1, 0] (lv' := [(0, .ref 81), (1, .int x1), (2, .int t5), (3, .int (1 : Int32))]) rfl ?_
        refine sl_X10_tenths_60 hA  ?_ _ _ _ h
        · intro  M17 h
          refine g_aload_n dX10_tenths_102 rfl 0 rfl ?_
          refine m_getr (k := 17) okX10 rfl rfl (by decide) w_1286 rfl dX10_tenths_103 ?_
          refine g_iconst (v := 4) dX10_tenths_106 (by decide) ?_
          obtain ⟨hz, h⟩ := gd_s h
          refine m_iald rfl hz dX10_tenths_107 ?_
          refine g_iload_n dX10_tenths_108 rfl 1 rfl ?_
          refine g_isub dX10_tenths_109 ?_
          exact g_zret rfl rfl (pi_of h) dX10_tenths_110
      · replace h := ite_p c20 h
        refine g_aload_n dX10_tenths_44 rfl 0 rfl ?_
        refine g_bipush (v := 6) dX10_tenths_45 (by decide) ?_
        obtain ⟨v47_19, M47_18, eM47_18, h⟩ := bd_e h
        refine m_callVi (As := [.int (6 : Int32)]) (st := []) (s_X10_no (d := d + 3) hA  eM47_18) rfl okX10 ck_X10_no w_1388 rfl (Nat.le_of_ble_eq_true rfl) dX10_tenths_47 ?_
        exact g_zret rfl rfl (pi_of h) dX10_tenths_50
    · replace h := ite_p c23 h
      refine g_aload_n dX10_tenths_27 rfl 0 rfl ?_
      refine g_iconst (v := 2) dX10_tenths_28 (by decide) ?_
      obtain ⟨v29_22, M29_21, eM29_21, h⟩ := bd_e h
      refine m_callVi (As := [.int (2 : Int32)]) (st := []) (s_X10_no (d := d + 3) hA  eM29_21) rfl okX10 ck_X10_no w_1388 rfl (Nat.le_of_ble_eq_true rfl) dX10_tenths_29 ?_
      exact g_zret rfl rfl (pi_of h) dX10_tenths_32
  · replace h := ite_p c26 h
    refine g_aload_n dX10_tenths_11 rfl 0 rfl ?_
    refine g_iconst (v := 1) dX10_tenths_12 (by decide) ?_
    obtain ⟨v13_25, M13_24, eM13_24, h⟩ := bd_e h
    refine m_callVi (As := [.int (1 : Int32)]) (st := []) (s_X10_no (d := d + 3) hA  eM13_24) rfl okX10 ck_X10_no w_1388 rfl (Nat.le_of_ble_eq_true rfl) dX10_tenths_13 ?_
    exact g_zret rfl rfl (pi_of h) dX10_tenths_16
theorem ck_X10_tenths : CKV yX10_tenths cX10_tenths 4 (some .int) 1 := ⟨⟨by decide, by decide, by decide +kernel⟩, w_1515, w_81, ⟨w_1513, w_1514⟩, by decide⟩
theorem dX10_round_0 : decode cX10_round 0 = .ok (.aload_n 0, 1) := by decide +kernel
theorem dX10_round_1 : decode cX10_round 1 = .ok (.invokevirtual 156, 3) := by decide +kernel
theorem dX10_round_4 : decode cX10_round 4 = .ok (.aload_n 0, 1) := by decide +kernel
theorem dX10_round_5 : decode cX10_round 5 = .ok (.getfield 165, 3) := by decide +kernel
theorem dX10_round_8 : decode cX10_round 8 = .ok (.ifCond .ne 9, 3) := by decide +kernel
theorem dX10_round_11 : decode cX10_round 11 = .ok (.aload_n 0, 1) := by decide +kernel
theorem dX10_round_12 : decode cX10_round 12 = .ok (.iconst 1, 1) := by decide +kernel
theorem dX10_round_13 : decode cX10_round 13 = .ok (.invokevirtual 159, 3) := by decide +kernel
theorem dX10_round_16 : decode cX10_round 16 = .ok (.ireturn, 1) := by decide +kernel
theorem dX10_round_17 : decode cX10_round 17 = .ok (.aload_n 0, 1) := by decide +kernel
theorem dX10_round_18 : decode cX10_round 18 = .ok (.getfield 26, 3) := by decide +kernel
theorem dX10_round_21 : decode cX10_round 21 = .ok (.bipush 8, 2) := by decide +kernel
theorem dX10_round_23 : decode cX10_round 23 = .ok (.iaload, 1) := by decide +kernel
theorem dX10_round_24 : decode cX10_round 24 = .ok (.iconst 1, 1) := by decide +kernel
theorem dX10_round_25 : decode cX10_round 25 = .ok (.if_icmp .ne 10, 3) := by decide +kernel
theorem dX10_round_28 : decode cX10_round 28 = .ok (.aload_n 0, 1) := by decide +kernel
theorem dX10_round_29 : decode cX10_round 29 = .ok (.bipush 6, 2) := by decide +kernel
theorem dX10_round_31 : decode cX10_round 31 = .ok (.invokevirtual 159, 3) := by decide +kernel
theorem dX10_round_34 : decode cX10_round 34 = .ok (.ireturn, 1) := by decide +kernel
theorem dX10_round_35 : decode cX10_round 35 = .ok (.iconst 0, 1) := by decide +kernel
theorem dX10_round_36 : decode cX10_round 36 = .ok (.istore_n 1, 1) := by decide +kernel
theorem dX10_round_37 : decode cX10_round 37 = .ok (.iload_n 1, 1) := by decide +kernel
theorem dX10_round_38 : decode cX10_round 38 = .ok (.ifCond .ne 21, 3) := by decide +kernel
theorem dX10_round_41 : decode cX10_round 41 = .ok (.aload_n 0, 1) := by decide +kernel
theorem dX10_round_42 : decode cX10_round 42 = .ok (.getfield 26, 3) := by decide +kernel
theorem dX10_round_45 : decode cX10_round 45 = .ok (.bipush 8, 2) := by decide +kernel
theorem dX10_round_47 : decode cX10_round 47 = .ok (.iaload, 1) := by decide +kernel
theorem dX10_round_48 : decode cX10_round 48 = .ok (.ifCond .ne 11, 3) := by decide +kernel
theorem dX10_round_51 : decode cX10_round 51 = .ok (.aload_n 0, 1) := by decide +kernel
theorem dX10_round_52 : decode cX10_round 52 = .ok (.invokevirtual 275, 3) := by decide +kernel
theorem dX10_round_55 : decode cX10_round 55 = .ok (.istore_n 1, 1) := by decide +kernel
theorem dX10_round_56 : decode cX10_round 56 = .ok (.goto (-19), 3) := by decide +kernel
theorem dX10_round_59 : decode cX10_round 59 = .ok (.iload_n 1, 1) := by decide +kernel
theorem dX10_round_60 : decode cX10_round 60 = .ok (.ifCond .eq 7, 3) := by decide +kernel
theorem dX10_round_63 : decode cX10_round 63 = .ok (.iconst 1, 1) := by decide +kernel
theorem dX10_round_64 : decode cX10_round 64 = .ok (.goto 4, 3) := by decide +kernel
theorem dX10_round_67 : decode cX10_round 67 = .ok (.iconst 2, 1) := by decide +kernel
theorem dX10_round_68 : decode cX10_round 68 = .ok (.ireturn, 1) := by decide +kernel
def lp_X10_round_37  (k59 : Int32 → Mm → Option (Int32 × Mm)) : Nat → Int32 → Mm → Option (Int32 × Mm)
  | 0, _, _ => none
  | n + 1, y1, M =>
    if y1 = 0 then (gd (inb (8 : Int32) 44) <| if (M 86 (8 : Int32).toNatClampNeg) = 0 then (bd (f_X10_tenth  M) fun v52_4 M52_3 => lp_X10_round_37 k59 n v52_4 M52_3) else (k59 y1 M)) else (k59 y1 M)
def f_X10_round  (M : Mm) : Option (Int32 × Mm) :=
  bv (f_X10_good  M) fun M1_1 => if (M1_1 81 14) = 0 then (bd (f_X10_no (1 : Int32) M1_1) fun v13_14 M13_13 => some (v13_14, M13_13)) else (gd (inb (8 : Int32) 44) <| if (M1_1 86 (8 : Int32).toNatClampNeg) = (1 : Int32) then (bd (f_X10_no (6 : Int32) M1_1) fun v31_11 M31_10 => some (v31_11, M31_10)) else (lp_X10_round_37  (fun (u7 : Int32) (M8 : Mm) => if u7 = 0 then (some ((2 : Int32), M8)) else (some ((1 : Int32), M8))) N0 (0 : Int32) M1_1))
set_option maxHeartbeats 4000000 in
set_option maxRecDepth 100000 in
theorem sl_X10_round_37 {l : Launch} {B : BT} (hA : bA B = false) {d : Nat} {r : Int32} {M' : Mm}   {k59 : Int32 → Mm → Option (Int32 × Mm)} (hk59 : ∀ (z1 : Int32) (M9 : Mm), k59 z1 M9 = some (r, M') → GG l B LY (d + 4) yX10_round cX10_round 2 (some .int) 0 0 (PI r M') 97 0 0 59 [(1, .int z1)] [] M9) :
    ∀ (n : Nat) (y1 : Int32) (M : Mm), lp_X10_round_37 k59 n y1 M = some (r, M') → GG l B LY (d + 4) yX10_round cX10_round 2 (some .int) 0 0 (PI r M') 97 0 0 37 [(0, .ref 81), (1, .int y1)] [] M := by
  intro n
  induction n with
  | zero => intro y1 M h; cases h
  | succ n ih =>
    intro y1 M h
    rw [lp_X10_round_37] at h
    refine g_iload_n dX10_round_37 rfl 1 rfl ?_
    refine g_if_ne (tgt := 59) dX10_round_38 (by decide) (fun c6 => ?_) (fun c6 => ?_)
    · replace h := ite_n c6 h
      refine g_sub [1] (lv' := [(1, .int y1)]) rfl ?_
      exact hk59 _ _ h
    · replace h := ite_p c6 h
      refine g_aload_n dX10_round_41 rfl 0 rfl ?_
      refine m_getr (k := 17) okX10 rfl rfl (by decide) w_1286 rfl dX10_round_42 ?_
      refine g_bipush (v := 8) dX10_round_45 (by decide) ?_
      obtain ⟨hz, h⟩ := gd_s h
      refine m_iald rfl hz dX10_round_47 ?_
      refine g_if_ne (tgt := 59) dX10_round_48 (by decide) (fun c5 => ?_) (fun c5 => ?_)
      · replace h := ite_n c5 h
        refine g_sub [1] (lv' := [(1, .int y1)]) rfl ?_
        exact hk59 _ _ h
      · replace h := ite_p c5 h
        refine g_aload_n dX10_round_51 rfl 0 rfl ?_
        obtain ⟨v52_4, M52_3, eM52_3, h⟩ := bd_e h
        refine m_callVi (As := []) (st := []) (s_X10_tenth (d := d + 0) hA  eM52_3) rfl okX10 ck_X10_tenth w_1516 rfl (Nat.le_of_ble_eq_true rfl) dX10_round_52 ?_
        refine g_istore_n (lv' := [(1, .int v52_4), (0, .ref 81)]) dX10_round_55 rfl (by decide) rfl ?_
        refine g_goto (tgt := 37) dX10_round_56 (by decide) ?_
        refine g_sub [1, 0] (lv' := [(0, .ref 81), (1, .int v52_4)]) rfl ?_
        exact ih _  _ h
set_option maxHeartbeats 4000000 in
set_option maxRecDepth 100000 in
theorem s_X10_round {l : Launch} {B : BT} (hA : bA B = false) {d : Nat} {r : Int32} {M' : Mm}  {M : Mm}  (h : f_X10_round  M = some (r, M')) : Con l B LY (d + 4) yX10_round cX10_round 2 (some .int) 0 0 [.ref 81] 97 M (PI r M') := by
  refine con_of (by decide) (Nat.le_of_ble_eq_true rfl) ?_
  show GG l B LY (d + 4) yX10_round cX10_round 2 (some .int) 0 0 (PI r M') 97 0 0 0 [(0, .ref 81)] [] M
  rw [f_X10_round] at h
  refine g_aload_n dX10_round_0 rfl 0 rfl ?_
  obtain ⟨M1_1, eM1_1, h⟩ := bv_e h
  refine m_callVv (As := []) (st := []) (s_X10_good (d := d + 3) hA  eM1_1) rfl okX10 ck_X10_good w_1381 rfl (Nat.le_of_ble_eq_true rfl) dX10_round_1 ?_
  refine g_aload_n dX10_round_4 rfl 0 rfl ?_
  refine m_geti (k := 14) okX10 rfl rfl (by decide) w_1283 rfl dX10_round_5 ?_
  refine g_if_ne (tgt := 17) dX10_round_8 (by decide) (fun c15 => ?_) (fun c15 => ?_)
  · replace h := ite_n c15 h
    refine g_aload_n dX10_round_17 rfl 0 rfl ?_
    refine m_getr (k := 17) okX10 rfl rfl (by decide) w_1286 rfl dX10_round_18 ?_
    refine g_bipush (v := 8) dX10_round_21 (by decide) ?_
    obtain ⟨hz, h⟩ := gd_s h
    refine m_iald rfl hz dX10_round_23 ?_
    refine g_iconst (v := 1) dX10_round_24 (by decide) ?_
    refine g_icmp_ne (tgt := 35) dX10_round_25 (by decide) (fun c12 => ?_) (fun c12 => ?_)
    · replace h := ite_n c12 h
      refine g_iconst (v := 0) dX10_round_35 (by decide) ?_
      refine g_istore_n (lv' := [(1, .int (0 : Int32)), (0, .ref 81)]) dX10_round_36 rfl (by decide) rfl ?_
      refine g_sub [1, 0] (lv' := [(0, .ref 81), (1, .int (0 : Int32))]) rfl ?_
      refine sl_X10_round_37 hA  ?_ _ _ _ h
      · intro u7 M8 h
        refine g_iload_n dX10_round_59 rfl 0 rfl ?_
        refine g_if_eq (tgt := 67) dX10_round_60 (by decide) (fun c9 => ?_) (fun c9 => ?_)
        · replace h := ite_p c9 h
          refine g_iconst (v := 2) dX10_round_67 (by decide) ?_
          exact g_zret rfl rfl (pi_of h) dX10_round_68
        · replace h := ite_n c9 h
          refine g_iconst (v := 1) dX10_round_63 (by decide) ?_
          refine g_goto (tgt := 68) dX10_round_64 (by decide) ?_
          exact g_zret rfl rfl (pi_of h) dX10_round_68
    · replace h := ite_p c12 h
      refine g_aload_n dX10_round_28 rfl 0 rfl ?_
      refine g_bipush (v := 6) dX10_round_29 (by decide) ?_
      obtain ⟨v31_11, M31_10, eM31_10, h⟩ := bd_e h
      refine m_callVi (As := [.int (6 : Int32)]) (st := []) (s_X10_no (d := d + 3) hA  eM31_10) rfl okX10 ck_X10_no w_1388 rfl (Nat.le_of_ble_eq_true rfl) dX10_round_31 ?_
      exact g_zret rfl rfl (pi_of h) dX10_round_34
  · replace h := ite_p c15 h
    refine g_aload_n dX10_round_11 rfl 0 rfl ?_
    refine g_iconst (v := 1) dX10_round_12 (by decide) ?_
    obtain ⟨v13_14, M13_13, eM13_13, h⟩ := bd_e h
    refine m_callVi (As := [.int (1 : Int32)]) (st := []) (s_X10_no (d := d + 3) hA  eM13_13) rfl okX10 ck_X10_no w_1388 rfl (Nat.le_of_ble_eq_true rfl) dX10_round_13 ?_
    exact g_zret rfl rfl (pi_of h) dX10_round_16
theorem ck_X10_round : CKV yX10_round cX10_round 2 (some .int) 0 := ⟨⟨by decide, by decide, by decide +kernel⟩, w_1567, w_81, ⟨w_1565, w_1566⟩, by decide⟩
theorem dX10_bring_0 : decode cX10_bring 0 = .ok (.aload_n 0, 1) := by decide +kernel
theorem dX10_bring_1 : decode cX10_bring 1 = .ok (.invokevirtual 156, 3) := by decide +kernel
theorem dX10_bring_4 : decode cX10_bring 4 = .ok (.aload_n 0, 1) := by decide +kernel
theorem dX10_bring_5 : decode cX10_bring 5 = .ok (.iload_n 1, 1) := by decide +kernel
theorem dX10_bring_6 : decode cX10_bring 6 = .ok (.invokevirtual 278, 3) := by decide +kernel
theorem dX10_bring_9 : decode cX10_bring 9 = .ok (.ifCond .ne 9, 3) := by decide +kernel
theorem dX10_bring_12 : decode cX10_bring 12 = .ok (.aload_n 0, 1) := by decide +kernel
theorem dX10_bring_13 : decode cX10_bring 13 = .ok (.iconst 1, 1) := by decide +kernel
theorem dX10_bring_14 : decode cX10_bring 14 = .ok (.invokevirtual 271, 3) := by decide +kernel
theorem dX10_bring_17 : decode cX10_bring 17 = .ok (.ireturn, 1) := by decide +kernel
theorem dX10_bring_18 : decode cX10_bring 18 = .ok (.iload_n 2, 1) := by decide +kernel
theorem dX10_bring_19 : decode cX10_bring 19 = .ok (.iconst 0, 1) := by decide +kernel
theorem dX10_bring_20 : decode cX10_bring 20 = .ok (.aload_n 0, 1) := by decide +kernel
theorem dX10_bring_21 : decode cX10_bring 21 = .ok (.getfield 20, 3) := by decide +kernel
theorem dX10_bring_24 : decode cX10_bring 24 = .ok (.iconst 0, 1) := by decide +kernel
theorem dX10_bring_25 : decode cX10_bring 25 = .ok (.iaload, 1) := by decide +kernel
theorem dX10_bring_26 : decode cX10_bring 26 = .ok (.iconst 1, 1) := by decide +kernel
theorem dX10_bring_27 : decode cX10_bring 27 = .ok (.isub, 1) := by decide +kernel
theorem dX10_bring_28 : decode cX10_bring 28 = .ok (.invokestatic 144, 3) := by decide +kernel
theorem dX10_bring_31 : decode cX10_bring 31 = .ok (.ifCond .ne 9, 3) := by decide +kernel
theorem dX10_bring_34 : decode cX10_bring 34 = .ok (.aload_n 0, 1) := by decide +kernel
theorem dX10_bring_35 : decode cX10_bring 35 = .ok (.iconst 2, 1) := by decide +kernel
theorem dX10_bring_36 : decode cX10_bring 36 = .ok (.invokevirtual 271, 3) := by decide +kernel
theorem dX10_bring_39 : decode cX10_bring 39 = .ok (.ireturn, 1) := by decide +kernel
theorem dX10_bring_40 : decode cX10_bring 40 = .ok (.aload_n 0, 1) := by decide +kernel
theorem dX10_bring_41 : decode cX10_bring 41 = .ok (.getfield 26, 3) := by decide +kernel
theorem dX10_bring_44 : decode cX10_bring 44 = .ok (.bipush 8, 2) := by decide +kernel
theorem dX10_bring_46 : decode cX10_bring 46 = .ok (.iaload, 1) := by decide +kernel
theorem dX10_bring_47 : decode cX10_bring 47 = .ok (.iconst 1, 1) := by decide +kernel
theorem dX10_bring_48 : decode cX10_bring 48 = .ok (.if_icmp .ne 10, 3) := by decide +kernel
theorem dX10_bring_51 : decode cX10_bring 51 = .ok (.aload_n 0, 1) := by decide +kernel
theorem dX10_bring_52 : decode cX10_bring 52 = .ok (.bipush 6, 2) := by decide +kernel
theorem dX10_bring_54 : decode cX10_bring 54 = .ok (.invokevirtual 271, 3) := by decide +kernel
theorem dX10_bring_57 : decode cX10_bring 57 = .ok (.ireturn, 1) := by decide +kernel
theorem dX10_bring_58 : decode cX10_bring 58 = .ok (.aload_n 0, 1) := by decide +kernel
theorem dX10_bring_59 : decode cX10_bring 59 = .ok (.getfield 26, 3) := by decide +kernel
theorem dX10_bring_62 : decode cX10_bring 62 = .ok (.bipush 9, 2) := by decide +kernel
theorem dX10_bring_64 : decode cX10_bring 64 = .ok (.iload_n 1, 1) := by decide +kernel
theorem dX10_bring_65 : decode cX10_bring 65 = .ok (.iadd, 1) := by decide +kernel
theorem dX10_bring_66 : decode cX10_bring 66 = .ok (.iload_n 2, 1) := by decide +kernel
theorem dX10_bring_67 : decode cX10_bring 67 = .ok (.iastore, 1) := by decide +kernel
theorem dX10_bring_68 : decode cX10_bring 68 = .ok (.aload_n 0, 1) := by decide +kernel
theorem dX10_bring_69 : decode cX10_bring 69 = .ok (.getfield 26, 3) := by decide +kernel
theorem dX10_bring_72 : decode cX10_bring 72 = .ok (.bipush 14, 2) := by decide +kernel
theorem dX10_bring_74 : decode cX10_bring 74 = .ok (.iload_n 1, 1) := by decide +kernel
theorem dX10_bring_75 : decode cX10_bring 75 = .ok (.iadd, 1) := by decide +kernel
theorem dX10_bring_76 : decode cX10_bring 76 = .ok (.iconst 0, 1) := by decide +kernel
theorem dX10_bring_77 : decode cX10_bring 77 = .ok (.iastore, 1) := by decide +kernel
theorem dX10_bring_78 : decode cX10_bring 78 = .ok (.iconst 1, 1) := by decide +kernel
theorem dX10_bring_79 : decode cX10_bring 79 = .ok (.ireturn, 1) := by decide +kernel
def f_X10_bring (x1 : Int32) (x2 : Int32) (M : Mm) : Option (Int32 × Mm) :=
  bv (f_X10_good  M) fun M1_1 => bd (f_X10_isCreeper x1 M1_1) fun v6_4 M6_3 => if v6_4 = 0 then (bd (f_X10_isNot (1 : Int32) M6_3) fun v14_14 M14_13 => gd (zo v14_14) <| some (v14_14, M14_13)) else (gd (inb (0 : Int32) 141) <| bd (f_X10_within x2 (0 : Int32) ((M6_3 84 (0 : Int32).toNatClampNeg) - (1 : Int32)) M6_3) fun v28_6 M28_5 => if v28_6 = 0 then (bd (f_X10_isNot (2 : Int32) M28_5) fun v36_11 M36_10 => gd (zo v36_11) <| some (v36_11, M36_10)) else (gd (inb (8 : Int32) 44) <| if (M28_5 86 (8 : Int32).toNatClampNeg) = (1 : Int32) then (bd (f_X10_isNot (6 : Int32) M28_5) fun v54_8 M54_7 => gd (zo v54_8) <| some (v54_8, M54_7)) else (gd (inb ((9 : Int32) + x1) 44) <| gd (inb ((14 : Int32) + x1) 44) <| some ((1 : Int32), (mset (mset M28_5 86 ((9 : Int32) + x1).toNatClampNeg x2) 86 ((14 : Int32) + x1).toNatClampNeg (0 : Int32))))))
set_option maxHeartbeats 4000000 in
set_option maxRecDepth 100000 in
theorem s_X10_bring {l : Launch} {B : BT} (hA : bA B = false) {d : Nat} {r : Int32} {M' : Mm} {x1 : Int32} {x2 : Int32} {M : Mm}  (h : f_X10_bring x1 x2 M = some (r, M')) : Con l B LY (d + 2) yX10_bring cX10_bring 3 (some .boolean) 0 0 [.ref 81, .int x1, .int x2] 97 M (PI r M') := by
  refine con_of (by decide) (Nat.le_of_ble_eq_true rfl) ?_
  show GG l B LY (d + 2) yX10_bring cX10_bring 3 (some .boolean) 0 0 (PI r M') 97 0 0 0 [(0, .ref 81), (1, .int x1), (2, .int x2)] [] M
  rw [f_X10_bring] at h
  refine g_aload_n dX10_bring_0 rfl 0 rfl ?_
  obtain ⟨M1_1, eM1_1, h⟩ := bv_e h
  refine m_callVv (As := []) (st := []) (s_X10_good (d := d + 1) hA  eM1_1) rfl okX10 ck_X10_good w_1381 rfl (Nat.le_of_ble_eq_true rfl) dX10_bring_1 ?_
  refine g_aload_n dX10_bring_4 rfl 0 rfl ?_
  refine g_iload_n dX10_bring_5 rfl 1 rfl ?_
  obtain ⟨v6_4, M6_3, eM6_3, h⟩ := bd_e h
  refine m_callVi (As := [.int x1]) (st := []) (s_X10_isCreeper (d := d + 0) hA  eM6_3) rfl okX10 ck_X10_isCreeper w_1572 rfl (Nat.le_of_ble_eq_true rfl) dX10_bring_6 ?_
  refine g_if_ne (tgt := 18) dX10_bring_9 (by decide) (fun c15 => ?_) (fun c15 => ?_)
  · replace h := ite_n c15 h
    refine g_iload_n dX10_bring_18 rfl 2 rfl ?_
    refine g_iconst (v := 0) dX10_bring_19 (by decide) ?_
    refine g_aload_n dX10_bring_20 rfl 0 rfl ?_
    refine m_getr (k := 15) okX10 rfl rfl (by decide) w_1284 rfl dX10_bring_21 ?_
    refine g_iconst (v := 0) dX10_bring_24 (by decide) ?_
    obtain ⟨hz, h⟩ := gd_s h
    refine m_iald rfl hz dX10_bring_25 ?_
    refine g_iconst (v := 1) dX10_bring_26 (by decide) ?_
    refine g_isub dX10_bring_27 ?_
    obtain ⟨v28_6, M28_5, eM28_5, h⟩ := bd_e h
    refine m_callSi (As := [.int x2, .int (0 : Int32), .int ((M6_3 84 (0 : Int32).toNatClampNeg) - (1 : Int32))]) (st := []) (s_X10_within (d := d + 1) hA  eM28_5) ck_X10_within w_1385 rfl (Nat.le_of_ble_eq_true rfl) dX10_bring_28 ?_
    refine g_if_ne (tgt := 40) dX10_bring_31 (by decide) (fun c12 => ?_) (fun c12 => ?_)
    · replace h := ite_n c12 h
      refine g_aload_n dX10_bring_40 rfl 0 rfl ?_
      refine m_getr (k := 17) okX10 rfl rfl (by decide) w_1286 rfl dX10_bring_41 ?_
      refine g_bipush (v := 8) dX10_bring_44 (by decide) ?_
      obtain ⟨hz, h⟩ := gd_s h
      refine m_iald rfl hz dX10_bring_46 ?_
      refine g_iconst (v := 1) dX10_bring_47 (by decide) ?_
      refine g_icmp_ne (tgt := 58) dX10_bring_48 (by decide) (fun c9 => ?_) (fun c9 => ?_)
      · replace h := ite_n c9 h
        refine g_aload_n dX10_bring_58 rfl 0 rfl ?_
        refine m_getr (k := 17) okX10 rfl rfl (by decide) w_1286 rfl dX10_bring_59 ?_
        refine g_bipush (v := 9) dX10_bring_62 (by decide) ?_
        refine g_iload_n dX10_bring_64 rfl 1 rfl ?_
        refine g_iadd dX10_bring_65 ?_
        refine g_iload_n dX10_bring_66 rfl 2 rfl ?_
        obtain ⟨hz, h⟩ := gd_s h
        refine m_iast hA rfl hz dX10_bring_67 ?_
        refine g_aload_n dX10_bring_68 rfl 0 rfl ?_
        refine m_getr (k := 17) okX10 rfl rfl (by decide) w_1286 rfl dX10_bring_69 ?_
        refine g_bipush (v := 14) dX10_bring_72 (by decide) ?_
        refine g_iload_n dX10_bring_74 rfl 1 rfl ?_
        refine g_iadd dX10_bring_75 ?_
        refine g_iconst (v := 0) dX10_bring_76 (by decide) ?_
        obtain ⟨hz, h⟩ := gd_s h
        refine m_iast hA rfl hz dX10_bring_77 ?_
        refine g_iconst (v := 1) dX10_bring_78 (by decide) ?_
        exact g_zret rfl rfl (pi_of h) dX10_bring_79
      · replace h := ite_p c9 h
        refine g_aload_n dX10_bring_51 rfl 0 rfl ?_
        refine g_bipush (v := 6) dX10_bring_52 (by decide) ?_
        obtain ⟨v54_8, M54_7, eM54_7, h⟩ := bd_e h
        refine m_callVi (As := [.int (6 : Int32)]) (st := []) (s_X10_isNot (d := d + 1) hA  eM54_7) rfl okX10 ck_X10_isNot w_1507 rfl (Nat.le_of_ble_eq_true rfl) dX10_bring_54 ?_
        obtain ⟨hz, h⟩ := gd_s h
        exact g_zret rfl (nar_zo hz) (pi_of h) dX10_bring_57
    · replace h := ite_p c12 h
      refine g_aload_n dX10_bring_34 rfl 0 rfl ?_
      refine g_iconst (v := 2) dX10_bring_35 (by decide) ?_
      obtain ⟨v36_11, M36_10, eM36_10, h⟩ := bd_e h
      refine m_callVi (As := [.int (2 : Int32)]) (st := []) (s_X10_isNot (d := d + 1) hA  eM36_10) rfl okX10 ck_X10_isNot w_1507 rfl (Nat.le_of_ble_eq_true rfl) dX10_bring_36 ?_
      obtain ⟨hz, h⟩ := gd_s h
      exact g_zret rfl (nar_zo hz) (pi_of h) dX10_bring_39
  · replace h := ite_p c15 h
    refine g_aload_n dX10_bring_12 rfl 0 rfl ?_
    refine g_iconst (v := 1) dX10_bring_13 (by decide) ?_
    obtain ⟨v14_14, M14_13, eM14_13, h⟩ := bd_e h
    refine m_callVi (As := [.int (1 : Int32)]) (st := []) (s_X10_isNot (d := d + 1) hA  eM14_13) rfl okX10 ck_X10_isNot w_1507 rfl (Nat.le_of_ble_eq_true rfl) dX10_bring_14 ?_
    obtain ⟨hz, h⟩ := gd_s h
    exact g_zret rfl (nar_zo hz) (pi_of h) dX10_bring_17
theorem ck_X10_bring : CKV yX10_bring cX10_bring 3 (some .boolean) 2 := ⟨⟨by decide, by decide, by decide +kernel⟩, w_1571, w_81, ⟨w_1569, w_1570⟩, by decide⟩
theorem dX10_right_0 : decode cX10_right 0 = .ok (.aload_n 0, 1) := by decide +kernel
theorem dX10_right_1 : decode cX10_right 1 = .ok (.invokevirtual 156, 3) := by decide +kernel
theorem dX10_right_4 : decode cX10_right 4 = .ok (.aload_n 0, 1) := by decide +kernel
theorem dX10_right_5 : decode cX10_right 5 = .ok (.iload_n 1, 1) := by decide +kernel
theorem dX10_right_6 : decode cX10_right 6 = .ok (.invokevirtual 278, 3) := by decide +kernel
theorem dX10_right_9 : decode cX10_right 9 = .ok (.ifCond .ne 9, 3) := by decide +kernel
theorem dX10_right_12 : decode cX10_right 12 = .ok (.aload_n 0, 1) := by decide +kernel
theorem dX10_right_13 : decode cX10_right 13 = .ok (.iconst 1, 1) := by decide +kernel
theorem dX10_right_14 : decode cX10_right 14 = .ok (.invokevirtual 271, 3) := by decide +kernel
theorem dX10_right_17 : decode cX10_right 17 = .ok (.ireturn, 1) := by decide +kernel
theorem dX10_right_18 : decode cX10_right 18 = .ok (.aload_n 0, 1) := by decide +kernel
theorem dX10_right_19 : decode cX10_right 19 = .ok (.getfield 26, 3) := by decide +kernel
theorem dX10_right_22 : decode cX10_right 22 = .ok (.bipush 8, 2) := by decide +kernel
theorem dX10_right_24 : decode cX10_right 24 = .ok (.iaload, 1) := by decide +kernel
theorem dX10_right_25 : decode cX10_right 25 = .ok (.iconst 1, 1) := by decide +kernel
theorem dX10_right_26 : decode cX10_right 26 = .ok (.if_icmp .ne 10, 3) := by decide +kernel
theorem dX10_right_29 : decode cX10_right 29 = .ok (.aload_n 0, 1) := by decide +kernel
theorem dX10_right_30 : decode cX10_right 30 = .ok (.bipush 6, 2) := by decide +kernel
theorem dX10_right_32 : decode cX10_right 32 = .ok (.invokevirtual 271, 3) := by decide +kernel
theorem dX10_right_35 : decode cX10_right 35 = .ok (.ireturn, 1) := by decide +kernel
theorem dX10_right_36 : decode cX10_right 36 = .ok (.aload_n 0, 1) := by decide +kernel
theorem dX10_right_37 : decode cX10_right 37 = .ok (.getfield 26, 3) := by decide +kernel
theorem dX10_right_40 : decode cX10_right 40 = .ok (.bipush 19, 2) := by decide +kernel
theorem dX10_right_42 : decode cX10_right 42 = .ok (.iload_n 1, 1) := by decide +kernel
theorem dX10_right_43 : decode cX10_right 43 = .ok (.iadd, 1) := by decide +kernel
theorem dX10_right_44 : decode cX10_right 44 = .ok (.iaload, 1) := by decide +kernel
theorem dX10_right_45 : decode cX10_right 45 = .ok (.iconst 5, 1) := by decide +kernel
theorem dX10_right_46 : decode cX10_right 46 = .ok (.if_icmp .eq 9, 3) := by decide +kernel
theorem dX10_right_49 : decode cX10_right 49 = .ok (.aload_n 0, 1) := by decide +kernel
theorem dX10_right_50 : decode cX10_right 50 = .ok (.iconst 5, 1) := by decide +kernel
theorem dX10_right_51 : decode cX10_right 51 = .ok (.invokevirtual 271, 3) := by decide +kernel
theorem dX10_right_54 : decode cX10_right 54 = .ok (.ireturn, 1) := by decide +kernel
theorem dX10_right_55 : decode cX10_right 55 = .ok (.aload_n 0, 1) := by decide +kernel
theorem dX10_right_56 : decode cX10_right 56 = .ok (.getfield 26, 3) := by decide +kernel
theorem dX10_right_59 : decode cX10_right 59 = .ok (.bipush 19, 2) := by decide +kernel
theorem dX10_right_61 : decode cX10_right 61 = .ok (.iload_n 1, 1) := by decide +kernel
theorem dX10_right_62 : decode cX10_right 62 = .ok (.iadd, 1) := by decide +kernel
theorem dX10_right_63 : decode cX10_right 63 = .ok (.iconst 0, 1) := by decide +kernel
theorem dX10_right_64 : decode cX10_right 64 = .ok (.iastore, 1) := by decide +kernel
theorem dX10_right_65 : decode cX10_right 65 = .ok (.aload_n 0, 1) := by decide +kernel
theorem dX10_right_66 : decode cX10_right 66 = .ok (.getfield 26, 3) := by decide +kernel
theorem dX10_right_69 : decode cX10_right 69 = .ok (.bipush 29, 2) := by decide +kernel
theorem dX10_right_71 : decode cX10_right 71 = .ok (.iload_n 1, 1) := by decide +kernel
theorem dX10_right_72 : decode cX10_right 72 = .ok (.iadd, 1) := by decide +kernel
theorem dX10_right_73 : decode cX10_right 73 = .ok (.dup2, 1) := by decide +kernel
theorem dX10_right_74 : decode cX10_right 74 = .ok (.iaload, 1) := by decide +kernel
theorem dX10_right_75 : decode cX10_right 75 = .ok (.iconst 1, 1) := by decide +kernel
theorem dX10_right_76 : decode cX10_right 76 = .ok (.isub, 1) := by decide +kernel
theorem dX10_right_77 : decode cX10_right 77 = .ok (.iastore, 1) := by decide +kernel
theorem dX10_right_78 : decode cX10_right 78 = .ok (.aload_n 0, 1) := by decide +kernel
theorem dX10_right_79 : decode cX10_right 79 = .ok (.getfield 26, 3) := by decide +kernel
theorem dX10_right_82 : decode cX10_right 82 = .ok (.bipush 9, 2) := by decide +kernel
theorem dX10_right_84 : decode cX10_right 84 = .ok (.iload_n 1, 1) := by decide +kernel
theorem dX10_right_85 : decode cX10_right 85 = .ok (.iadd, 1) := by decide +kernel
theorem dX10_right_86 : decode cX10_right 86 = .ok (.aload_n 0, 1) := by decide +kernel
theorem dX10_right_87 : decode cX10_right 87 = .ok (.getfield 26, 3) := by decide +kernel
theorem dX10_right_90 : decode cX10_right 90 = .ok (.bipush 34, 2) := by decide +kernel
theorem dX10_right_92 : decode cX10_right 92 = .ok (.iload_n 1, 1) := by decide +kernel
theorem dX10_right_93 : decode cX10_right 93 = .ok (.iadd, 1) := by decide +kernel
theorem dX10_right_94 : decode cX10_right 94 = .ok (.iaload, 1) := by decide +kernel
theorem dX10_right_95 : decode cX10_right 95 = .ok (.iastore, 1) := by decide +kernel
theorem dX10_right_96 : decode cX10_right 96 = .ok (.aload_n 0, 1) := by decide +kernel
theorem dX10_right_97 : decode cX10_right 97 = .ok (.getfield 26, 3) := by decide +kernel
theorem dX10_right_100 : decode cX10_right 100 = .ok (.bipush 14, 2) := by decide +kernel
theorem dX10_right_102 : decode cX10_right 102 = .ok (.iload_n 1, 1) := by decide +kernel
theorem dX10_right_103 : decode cX10_right 103 = .ok (.iadd, 1) := by decide +kernel
theorem dX10_right_104 : decode cX10_right 104 = .ok (.iconst 0, 1) := by decide +kernel
theorem dX10_right_105 : decode cX10_right 105 = .ok (.iastore, 1) := by decide +kernel
theorem dX10_right_106 : decode cX10_right 106 = .ok (.iconst 1, 1) := by decide +kernel
theorem dX10_right_107 : decode cX10_right 107 = .ok (.ireturn, 1) := by decide +kernel
def f_X10_right (x1 : Int32) (M : Mm) : Option (Int32 × Mm) :=
  bv (f_X10_good  M) fun M1_1 => bd (f_X10_isCreeper x1 M1_1) fun v6_4 M6_3 => if v6_4 = 0 then (bd (f_X10_isNot (1 : Int32) M6_3) fun v14_12 M14_11 => gd (zo v14_12) <| some (v14_12, M14_11)) else (gd (inb (8 : Int32) 44) <| if (M6_3 86 (8 : Int32).toNatClampNeg) = (1 : Int32) then (bd (f_X10_isNot (6 : Int32) M6_3) fun v32_9 M32_8 => gd (zo v32_9) <| some (v32_9, M32_8)) else (gd (inb ((19 : Int32) + x1) 44) <| if (M6_3 86 ((19 : Int32) + x1).toNatClampNeg) = (5 : Int32) then (gd (inb ((19 : Int32) + x1) 44) <| gd (inb ((29 : Int32) + x1) 44) <| gd (inb ((29 : Int32) + x1) 44) <| gd (inb ((34 : Int32) + x1) 44) <| gd (inb ((9 : Int32) + x1) 44) <| gd (inb ((14 : Int32) + x1) 44) <| some ((1 : Int32), (mset (mset (mset (mset M6_3 86 ((19 : Int32) + x1).toNatClampNeg (0 : Int32)) 86 ((29 : Int32) + x1).toNatClampNeg (((mset M6_3 86 ((19 : Int32) + x1).toNatClampNeg (0 : Int32)) 86 ((29 : Int32) + x1).toNatClampNeg) - (1 : Int32))) 86 ((9 : Int32) + x1).toNatClampNeg ((mset (mset M6_3 86 ((19 : Int32) + x1).toNatClampNeg (0 : Int32)) 86 ((29 : Int32) + x1).toNatClampNeg (((mset M6_3 86 ((19 : Int32) + x1).toNatClampNeg (0 : Int32)) 86 ((29 : Int32) + x1).toNatClampNeg) - (1 : Int32))) 86 ((34 : Int32) + x1).toNatClampNeg)) 86 ((14 : Int32) + x1).toNatClampNeg (0 : Int32)))) else (bd (f_X10_isNot (5 : Int32) M6_3) fun v51_6 M51_5 => gd (zo v51_6) <| some (v51_6, M51_5))))
set_option maxHeartbeats 4000000 in
set_option maxRecDepth 100000 in
theorem s_X10_right {l : Launch} {B : BT} (hA : bA B = false) {d : Nat} {r : Int32} {M' : Mm} {x1 : Int32} {M : Mm}  (h : f_X10_right x1 M = some (r, M')) : Con l B LY (d + 2) yX10_right cX10_right 2 (some .boolean) 0 0 [.ref 81, .int x1] 97 M (PI r M') := by
  refine con_of (by decide) (Nat.le_of_ble_eq_true rfl) ?_
  show GG l B LY (d + 2) yX10_right cX10_right 2 (some .boolean) 0 0 (PI r M') 97 0 0 0 [(0, .ref 81), (1, .int x1)] [] M
  rw [f_X10_right] at h
  refine g_aload_n dX10_right_0 rfl 0 rfl ?_
  obtain ⟨M1_1, eM1_1, h⟩ := bv_e h
  refine m_callVv (As := []) (st := []) (s_X10_good (d := d + 1) hA  eM1_1) rfl okX10 ck_X10_good w_1381 rfl (Nat.le_of_ble_eq_true rfl) dX10_right_1 ?_
  refine g_aload_n dX10_right_4 rfl 0 rfl ?_
  refine g_iload_n dX10_right_5 rfl 1 rfl ?_
  obtain ⟨v6_4, M6_3, eM6_3, h⟩ := bd_e h
  refine m_callVi (As := [.int x1]) (st := []) (s_X10_isCreeper (d := d + 0) hA  eM6_3) rfl okX10 ck_X10_isCreeper w_1572 rfl (Nat.le_of_ble_eq_true rfl) dX10_right_6 ?_
  refine g_if_ne (tgt := 18) dX10_right_9 (by decide) (fun c13 => ?_) (fun c13 => ?_)
  · replace h := ite_n c13 h
    refine g_aload_n dX10_right_18 rfl 0 rfl ?_
    refine m_getr (k := 17) okX10 rfl rfl (by decide) w_1286 rfl dX10_right_19 ?_
    refine g_bipush (v := 8) dX10_right_22 (by decide) ?_
    obtain ⟨hz, h⟩ := gd_s h
    refine m_iald rfl hz dX10_right_24 ?_
    refine g_iconst (v := 1) dX10_right_25 (by decide) ?_
    refine g_icmp_ne (tgt := 36) dX10_right_26 (by decide) (fun c10 => ?_) (fun c10 => ?_)
    · replace h := ite_n c10 h
      refine g_aload_n dX10_right_36 rfl 0 rfl ?_
      refine m_getr (k := 17) okX10 rfl rfl (by decide) w_1286 rfl dX10_right_37 ?_
      refine g_bipush (v := 19) dX10_right_40 (by decide) ?_
      refine g_iload_n dX10_right_42 rfl 1 rfl ?_
      refine g_iadd dX10_right_43 ?_
      obtain ⟨hz, h⟩ := gd_s h
      refine m_iald rfl hz dX10_right_44 ?_
      refine g_iconst (v := 5) dX10_right_45 (by decide) ?_
      refine g_icmp_eq (tgt := 55) dX10_right_46 (by decide) (fun c7 => ?_) (fun c7 => ?_)
      · replace h := ite_p c7 h
        refine g_aload_n dX10_right_55 rfl 0 rfl ?_
        refine m_getr (k := 17) okX10 rfl rfl (by decide) w_1286 rfl dX10_right_56 ?_
        refine g_bipush (v := 19) dX10_right_59 (by decide) ?_
        refine g_iload_n dX10_right_61 rfl 1 rfl ?_
        refine g_iadd dX10_right_62 ?_
        refine g_iconst (v := 0) dX10_right_63 (by decide) ?_
        obtain ⟨hz, h⟩ := gd_s h
        refine m_iast hA rfl hz dX10_right_64 ?_
        refine g_aload_n dX10_right_65 rfl 0 rfl ?_
        refine m_getr (k := 17) okX10 rfl rfl (by decide) w_1286 rfl dX10_right_66 ?_
        refine g_bipush (v := 29) dX10_right_69 (by decide) ?_
        refine g_iload_n dX10_right_71 rfl 1 rfl ?_
        refine g_iadd dX10_right_72 ?_
        refine g_dup2 dX10_right_73 rfl rfl ?_
        obtain ⟨hz, h⟩ := gd_s h
        refine m_iald rfl hz dX10_right_74 ?_
        refine g_iconst (v := 1) dX10_right_75 (by decide) ?_
        refine g_isub dX10_right_76 ?_
        obtain ⟨hz, h⟩ := gd_s h
        refine m_iast hA rfl hz dX10_right_77 ?_
        refine g_aload_n dX10_right_78 rfl 0 rfl ?_
        refine m_getr (k := 17) okX10 rfl rfl (by decide) w_1286 rfl dX10_right_79 ?_
        refine g_bipush (v := 9) dX10_right_82 (by decide) ?_
        refine g_iload_n dX10_right_84 rfl 1 rfl ?_
        refine g_iadd dX10_right_85 ?_
        refine g_aload_n dX10_right_86 rfl 0 rfl ?_
        refine m_getr (k := 17) okX10 rfl rfl (by decide) w_1286 rfl dX10_right_87 ?_
        refine g_bipush (v := 34) dX10_right_90 (by decide) ?_
        refine g_iload_n dX10_right_92 rfl 1 rfl ?_
        refine g_iadd dX10_right_93 ?_
        obtain ⟨hz, h⟩ := gd_s h
        refine m_iald rfl hz dX10_right_94 ?_
        obtain ⟨hz, h⟩ := gd_s h
        refine m_iast hA rfl hz dX10_right_95 ?_
        refine g_aload_n dX10_right_96 rfl 0 rfl ?_
        refine m_getr (k := 17) okX10 rfl rfl (by decide) w_1286 rfl dX10_right_97 ?_
        refine g_bipush (v := 14) dX10_right_100 (by decide) ?_
        refine g_iload_n dX10_right_102 rfl 1 rfl ?_
        refine g_iadd dX10_right_103 ?_
        refine g_iconst (v := 0) dX10_right_104 (by decide) ?_
        obtain ⟨hz, h⟩ := gd_s h
        refine m_iast hA rfl hz dX10_right_105 ?_
        refine g_iconst (v := 1) dX10_right_106 (by decide) ?_
        exact g_zret rfl rfl (pi_of h) dX10_right_107
      · replace h := ite_n c7 h
        refine g_aload_n dX10_right_49 rfl 0 rfl ?_
        refine g_iconst (v := 5) dX10_right_50 (by decide) ?_
        obtain ⟨v51_6, M51_5, eM51_5, h⟩ := bd_e h
        refine m_callVi (As := [.int (5 : Int32)]) (st := []) (s_X10_isNot (d := d + 1) hA  eM51_5) rfl okX10 ck_X10_isNot w_1507 rfl (Nat.le_of_ble_eq_true rfl) dX10_right_51 ?_
        obtain ⟨hz, h⟩ := gd_s h
        exact g_zret rfl (nar_zo hz) (pi_of h) dX10_right_54
    · replace h := ite_p c10 h
      refine g_aload_n dX10_right_29 rfl 0 rfl ?_
      refine g_bipush (v := 6) dX10_right_30 (by decide) ?_
      obtain ⟨v32_9, M32_8, eM32_8, h⟩ := bd_e h
      refine m_callVi (As := [.int (6 : Int32)]) (st := []) (s_X10_isNot (d := d + 1) hA  eM32_8) rfl okX10 ck_X10_isNot w_1507 rfl (Nat.le_of_ble_eq_true rfl) dX10_right_32 ?_
      obtain ⟨hz, h⟩ := gd_s h
      exact g_zret rfl (nar_zo hz) (pi_of h) dX10_right_35
  · replace h := ite_p c13 h
    refine g_aload_n dX10_right_12 rfl 0 rfl ?_
    refine g_iconst (v := 1) dX10_right_13 (by decide) ?_
    obtain ⟨v14_12, M14_11, eM14_11, h⟩ := bd_e h
    refine m_callVi (As := [.int (1 : Int32)]) (st := []) (s_X10_isNot (d := d + 1) hA  eM14_11) rfl okX10 ck_X10_isNot w_1507 rfl (Nat.le_of_ble_eq_true rfl) dX10_right_14 ?_
    obtain ⟨hz, h⟩ := gd_s h
    exact g_zret rfl (nar_zo hz) (pi_of h) dX10_right_17
theorem ck_X10_right : CKV yX10_right cX10_right 2 (some .boolean) 1 := ⟨⟨by decide, by decide, by decide +kernel⟩, w_1579, w_81, ⟨w_1577, w_1578⟩, by decide⟩
theorem dX10_about_0 : decode cX10_about 0 = .ok (.aload_n 0, 1) := by decide +kernel
theorem dX10_about_1 : decode cX10_about 1 = .ok (.invokevirtual 156, 3) := by decide +kernel
theorem dX10_about_4 : decode cX10_about 4 = .ok (.aload_n 0, 1) := by decide +kernel
theorem dX10_about_5 : decode cX10_about 5 = .ok (.iload_n 1, 1) := by decide +kernel
theorem dX10_about_6 : decode cX10_about 6 = .ok (.invokevirtual 278, 3) := by decide +kernel
theorem dX10_about_9 : decode cX10_about 9 = .ok (.ifCond .eq 12, 3) := by decide +kernel
theorem dX10_about_12 : decode cX10_about 12 = .ok (.iload_n 2, 1) := by decide +kernel
theorem dX10_about_13 : decode cX10_about 13 = .ok (.iconst 0, 1) := by decide +kernel
theorem dX10_about_14 : decode cX10_about 14 = .ok (.iconst 5, 1) := by decide +kernel
theorem dX10_about_15 : decode cX10_about 15 = .ok (.invokestatic 144, 3) := by decide +kernel
theorem dX10_about_18 : decode cX10_about 18 = .ok (.ifCond .ne 9, 3) := by decide +kernel
theorem dX10_about_21 : decode cX10_about 21 = .ok (.aload_n 0, 1) := by decide +kernel
theorem dX10_about_22 : decode cX10_about 22 = .ok (.iconst 1, 1) := by decide +kernel
theorem dX10_about_23 : decode cX10_about 23 = .ok (.invokevirtual 159, 3) := by decide +kernel
theorem dX10_about_26 : decode cX10_about 26 = .ok (.ireturn, 1) := by decide +kernel
theorem dX10_about_27 : decode cX10_about 27 = .ok (.iload_n 2, 1) := by decide +kernel
theorem dX10_about_28 : decode cX10_about 28 = .ok (.tableswitch 86 0 4 #[36, 46, 56, 66, 76], 36) := by decide +kernel
theorem dX10_about_64 : decode cX10_about 64 = .ok (.aload_n 0, 1) := by decide +kernel
theorem dX10_about_65 : decode cX10_about 65 = .ok (.getfield 26, 3) := by decide +kernel
theorem dX10_about_68 : decode cX10_about 68 = .ok (.bipush 9, 2) := by decide +kernel
theorem dX10_about_70 : decode cX10_about 70 = .ok (.iload_n 1, 1) := by decide +kernel
theorem dX10_about_71 : decode cX10_about 71 = .ok (.iadd, 1) := by decide +kernel
theorem dX10_about_72 : decode cX10_about 72 = .ok (.iaload, 1) := by decide +kernel
theorem dX10_about_73 : decode cX10_about 73 = .ok (.ireturn, 1) := by decide +kernel
theorem dX10_about_74 : decode cX10_about 74 = .ok (.aload_n 0, 1) := by decide +kernel
theorem dX10_about_75 : decode cX10_about 75 = .ok (.getfield 26, 3) := by decide +kernel
theorem dX10_about_78 : decode cX10_about 78 = .ok (.bipush 14, 2) := by decide +kernel
theorem dX10_about_80 : decode cX10_about 80 = .ok (.iload_n 1, 1) := by decide +kernel
theorem dX10_about_81 : decode cX10_about 81 = .ok (.iadd, 1) := by decide +kernel
theorem dX10_about_82 : decode cX10_about 82 = .ok (.iaload, 1) := by decide +kernel
theorem dX10_about_83 : decode cX10_about 83 = .ok (.ireturn, 1) := by decide +kernel
theorem dX10_about_84 : decode cX10_about 84 = .ok (.aload_n 0, 1) := by decide +kernel
theorem dX10_about_85 : decode cX10_about 85 = .ok (.getfield 26, 3) := by decide +kernel
theorem dX10_about_88 : decode cX10_about 88 = .ok (.bipush 19, 2) := by decide +kernel
theorem dX10_about_90 : decode cX10_about 90 = .ok (.iload_n 1, 1) := by decide +kernel
theorem dX10_about_91 : decode cX10_about 91 = .ok (.iadd, 1) := by decide +kernel
theorem dX10_about_92 : decode cX10_about 92 = .ok (.iaload, 1) := by decide +kernel
theorem dX10_about_93 : decode cX10_about 93 = .ok (.ireturn, 1) := by decide +kernel
theorem dX10_about_94 : decode cX10_about 94 = .ok (.aload_n 0, 1) := by decide +kernel
theorem dX10_about_95 : decode cX10_about 95 = .ok (.getfield 26, 3) := by decide +kernel
theorem dX10_about_98 : decode cX10_about 98 = .ok (.bipush 24, 2) := by decide +kernel
theorem dX10_about_100 : decode cX10_about 100 = .ok (.iload_n 1, 1) := by decide +kernel
theorem dX10_about_101 : decode cX10_about 101 = .ok (.iadd, 1) := by decide +kernel
theorem dX10_about_102 : decode cX10_about 102 = .ok (.iaload, 1) := by decide +kernel
theorem dX10_about_103 : decode cX10_about 103 = .ok (.ireturn, 1) := by decide +kernel
theorem dX10_about_104 : decode cX10_about 104 = .ok (.aload_n 0, 1) := by decide +kernel
theorem dX10_about_105 : decode cX10_about 105 = .ok (.getfield 26, 3) := by decide +kernel
theorem dX10_about_108 : decode cX10_about 108 = .ok (.bipush 29, 2) := by decide +kernel
theorem dX10_about_110 : decode cX10_about 110 = .ok (.iload_n 1, 1) := by decide +kernel
theorem dX10_about_111 : decode cX10_about 111 = .ok (.iadd, 1) := by decide +kernel
theorem dX10_about_112 : decode cX10_about 112 = .ok (.iaload, 1) := by decide +kernel
theorem dX10_about_113 : decode cX10_about 113 = .ok (.ireturn, 1) := by decide +kernel
theorem dX10_about_114 : decode cX10_about 114 = .ok (.aload_n 0, 1) := by decide +kernel
theorem dX10_about_115 : decode cX10_about 115 = .ok (.getfield 26, 3) := by decide +kernel
theorem dX10_about_118 : decode cX10_about 118 = .ok (.bipush 8, 2) := by decide +kernel
theorem dX10_about_120 : decode cX10_about 120 = .ok (.iaload, 1) := by decide +kernel
theorem dX10_about_121 : decode cX10_about 121 = .ok (.ifCond .ne 15, 3) := by decide +kernel
theorem dX10_about_124 : decode cX10_about 124 = .ok (.aload_n 0, 1) := by decide +kernel
theorem dX10_about_125 : decode cX10_about 125 = .ok (.iload_n 1, 1) := by decide +kernel
theorem dX10_about_126 : decode cX10_about 126 = .ok (.invokevirtual 240, 3) := by decide +kernel
theorem dX10_about_129 : decode cX10_about 129 = .ok (.ifCond .eq 7, 3) := by decide +kernel
theorem dX10_about_132 : decode cX10_about 132 = .ok (.iconst 1, 1) := by decide +kernel
theorem dX10_about_133 : decode cX10_about 133 = .ok (.goto 4, 3) := by decide +kernel
theorem dX10_about_136 : decode cX10_about 136 = .ok (.iconst 0, 1) := by decide +kernel
theorem dX10_about_137 : decode cX10_about 137 = .ok (.ireturn, 1) := by decide +kernel
def f_X10_about (x1 : Int32) (x2 : Int32) (M : Mm) : Option (Int32 × Mm) :=
  bv (f_X10_good  M) fun M1_1 => bd (f_X10_isCreeper x1 M1_1) fun v6_4 M6_3 => jn (fun (M5 : Mm) => bd (f_X10_no (1 : Int32) M5) fun v23_8 M23_7 => some (v23_8, M23_7)) fun j6 => if v6_4 = 0 then (j6  M6_3) else (bd (f_X10_within x2 (0 : Int32) (5 : Int32) M6_3) fun v15_10 M15_9 => if v15_10 = 0 then (j6  M15_9) else (if x2 = (0 : Int32) then (gd (inb ((9 : Int32) + x1) 44) <| some ((M15_9 86 ((9 : Int32) + x1).toNatClampNeg), M15_9)) else (if x2 = (1 : Int32) then (gd (inb ((14 : Int32) + x1) 44) <| some ((M15_9 86 ((14 : Int32) + x1).toNatClampNeg), M15_9)) else (if x2 = (2 : Int32) then (gd (inb ((19 : Int32) + x1) 44) <| some ((M15_9 86 ((19 : Int32) + x1).toNatClampNeg), M15_9)) else (if x2 = (3 : Int32) then (gd (inb ((24 : Int32) + x1) 44) <| some ((M15_9 86 ((24 : Int32) + x1).toNatClampNeg), M15_9)) else (if x2 = (4 : Int32) then (gd (inb ((29 : Int32) + x1) 44) <| some ((M15_9 86 ((29 : Int32) + x1).toNatClampNeg), M15_9)) else (gd (inb (8 : Int32) 44) <| jn (fun (M16 : Mm) => some ((0 : Int32), M16)) fun j17 => if (M15_9 86 (8 : Int32).toNatClampNeg) = 0 then (bd (f_X10_goesNow x1 M15_9) fun v126_19 M126_18 => if v126_19 = 0 then (j17  M126_18) else (some ((1 : Int32), M126_18))) else (j17  M15_9))))))))
set_option maxHeartbeats 4000000 in
set_option maxRecDepth 100000 in
theorem s_X10_about {l : Launch} {B : BT} (hA : bA B = false) {d : Nat} {r : Int32} {M' : Mm} {x1 : Int32} {x2 : Int32} {M : Mm}  (h : f_X10_about x1 x2 M = some (r, M')) : Con l B LY (d + 2) yX10_about cX10_about 3 (some .int) 0 0 [.ref 81, .int x1, .int x2] 97 M (PI r M') := by
  refine con_of (by decide) (Nat.le_of_ble_eq_true rfl) ?_
  show GG l B LY (d + 2) yX10_about cX10_about 3 (some .int) 0 0 (PI r M') 97 0 0 0 [(0, .ref 81), (1, .int x1), (2, .int x2)] [] M
  rw [f_X10_about] at h
  refine g_aload_n dX10_about_0 rfl 0 rfl ?_
  obtain ⟨M1_1, eM1_1, h⟩ := bv_e h
  refine m_callVv (As := []) (st := []) (s_X10_good (d := d + 1) hA  eM1_1) rfl okX10 ck_X10_good w_1381 rfl (Nat.le_of_ble_eq_true rfl) dX10_about_1 ?_
  refine g_aload_n dX10_about_4 rfl 0 rfl ?_
  refine g_iload_n dX10_about_5 rfl 1 rfl ?_
  obtain ⟨v6_4, M6_3, eM6_3, h⟩ := bd_e h
  refine m_callVi (As := [.int x1]) (st := []) (s_X10_isCreeper (d := d + 0) hA  eM6_3) rfl okX10 ck_X10_isCreeper w_1572 rfl (Nat.le_of_ble_eq_true rfl) dX10_about_6 ?_
  obtain ⟨j6, ej6, h⟩ := jn_e h
  have hj6 : ∀ (M5 : Mm), j6 M5 = some (r, M') → GG l B LY (d + 2) yX10_about cX10_about 3 (some .int) 0 0 (PI r M') 97 0 0 21 [(0, .ref 81)] [] M5 := by
    intro M5 h
    rw [ej6] at h
    refine g_aload_n dX10_about_21 rfl 0 rfl ?_
    refine g_iconst (v := 1) dX10_about_22 (by decide) ?_
    obtain ⟨v23_8, M23_7, eM23_7, h⟩ := bd_e h
    refine m_callVi (As := [.int (1 : Int32)]) (st := []) (s_X10_no (d := d + 1) hA  eM23_7) rfl okX10 ck_X10_no w_1388 rfl (Nat.le_of_ble_eq_true rfl) dX10_about_23 ?_
    exact g_zret rfl rfl (pi_of h) dX10_about_26
  refine g_if_eq (tgt := 21) dX10_about_9 (by decide) (fun c23 => ?_) (fun c23 => ?_)
  · replace h := ite_p c23 h
    refine g_sub [0] (lv' := [(0, .ref 81)]) rfl ?_
    exact hj6  _ h
  · replace h := ite_n c23 h
    refine g_iload_n dX10_about_12 rfl 2 rfl ?_
    refine g_iconst (v := 0) dX10_about_13 (by decide) ?_
    refine g_iconst (v := 5) dX10_about_14 (by decide) ?_
    obtain ⟨v15_10, M15_9, eM15_9, h⟩ := bd_e h
    refine m_callSi (As := [.int x2, .int (0 : Int32), .int (5 : Int32)]) (st := []) (s_X10_within (d := d + 1) hA  eM15_9) ck_X10_within w_1385 rfl (Nat.le_of_ble_eq_true rfl) dX10_about_15 ?_
    refine g_if_ne (tgt := 27) dX10_about_18 (by decide) (fun c22 => ?_) (fun c22 => ?_)
    · replace h := ite_n c22 h
      refine g_iload_n dX10_about_27 rfl 2 rfl ?_
      by_cases c11 : x2 = (0 : Int32)
      · replace h := ite_p c11 h
        refine g_tabIn (tgt := 64) dX10_about_28 (by rw [c11]; decide) (by rw [c11]; decide) (off := 36) (by rw [c11]; rfl) (by decide) ?_
        refine g_aload_n dX10_about_64 rfl 0 rfl ?_
        refine m_getr (k := 17) okX10 rfl rfl (by decide) w_1286 rfl dX10_about_65 ?_
        refine g_bipush (v := 9) dX10_about_68 (by decide) ?_
        refine g_iload_n dX10_about_70 rfl 1 rfl ?_
        refine g_iadd dX10_about_71 ?_
        obtain ⟨hz, h⟩ := gd_s h
        refine m_iald rfl hz dX10_about_72 ?_
        exact g_zret rfl rfl (pi_of h) dX10_about_73
      replace h := ite_n c11 h
      by_cases c12 : x2 = (1 : Int32)
      · replace h := ite_p c12 h
        refine g_tabIn (tgt := 74) dX10_about_28 (by rw [c12]; decide) (by rw [c12]; decide) (off := 46) (by rw [c12]; rfl) (by decide) ?_
        refine g_aload_n dX10_about_74 rfl 0 rfl ?_
        refine m_getr (k := 17) okX10 rfl rfl (by decide) w_1286 rfl dX10_about_75 ?_
        refine g_bipush (v := 14) dX10_about_78 (by decide) ?_
        refine g_iload_n dX10_about_80 rfl 1 rfl ?_
        refine g_iadd dX10_about_81 ?_
        obtain ⟨hz, h⟩ := gd_s h
        refine m_iald rfl hz dX10_about_82 ?_
        exact g_zret rfl rfl (pi_of h) dX10_about_83
      replace h := ite_n c12 h
      by_cases c13 : x2 = (2 : Int32)
      · replace h := ite_p c13 h
        refine g_tabIn (tgt := 84) dX10_about_28 (by rw [c13]; decide) (by rw [c13]; decide) (off := 56) (by rw [c13]; rfl) (by decide) ?_
        refine g_aload_n dX10_about_84 rfl 0 rfl ?_
        refine m_getr (k := 17) okX10 rfl rfl (by decide) w_1286 rfl dX10_about_85 ?_
        refine g_bipush (v := 19) dX10_about_88 (by decide) ?_
        refine g_iload_n dX10_about_90 rfl 1 rfl ?_
        refine g_iadd dX10_about_91 ?_
        obtain ⟨hz, h⟩ := gd_s h
        refine m_iald rfl hz dX10_about_92 ?_
        exact g_zret rfl rfl (pi_of h) dX10_about_93
      replace h := ite_n c13 h
      by_cases c14 : x2 = (3 : Int32)
      · replace h := ite_p c14 h
        refine g_tabIn (tgt := 94) dX10_about_28 (by rw [c14]; decide) (by rw [c14]; decide) (off := 66) (by rw [c14]; rfl) (by decide) ?_
        refine g_aload_n dX10_about_94 rfl 0 rfl ?_
        refine m_getr (k := 17) okX10 rfl rfl (by decide) w_1286 rfl dX10_about_95 ?_
        refine g_bipush (v := 24) dX10_about_98 (by decide) ?_
        refine g_iload_n dX10_about_100 rfl 1 rfl ?_
        refine g_iadd dX10_about_101 ?_
        obtain ⟨hz, h⟩ := gd_s h
        refine m_iald rfl hz dX10_about_102 ?_
        exact g_zret rfl rfl (pi_of h) dX10_about_103
      replace h := ite_n c14 h
      by_cases c15 : x2 = (4 : Int32)
      · replace h := ite_p c15 h
        refine g_tabIn (tgt := 104) dX10_about_28 (by rw [c15]; decide) (by rw [c15]; decide) (off := 76) (by rw [c15]; rfl) (by decide) ?_
        refine g_aload_n dX10_about_104 rfl 0 rfl ?_
        refine m_getr (k := 17) okX10 rfl rfl (by decide) w_1286 rfl dX10_about_105 ?_
        refine g_bipush (v := 29) dX10_about_108 (by decide) ?_
        refine g_iload_n dX10_about_110 rfl 1 rfl ?_
        refine g_iadd dX10_about_111 ?_
        obtain ⟨hz, h⟩ := gd_s h
        refine m_iald rfl hz dX10_about_112 ?_
        exact g_zret rfl rfl (pi_of h) dX10_about_113
      replace h := ite_n c15 h
      have tc11 : x2.toInt ≠ 0 := fun e => c11 (Int32.toInt_inj.mp (e.trans (by decide)))
      have tc12 : x2.toInt ≠ 1 := fun e => c12 (Int32.toInt_inj.mp (e.trans (by decide)))
      have tc13 : x2.toInt ≠ 2 := fun e => c13 (Int32.toInt_inj.mp (e.trans (by decide)))
      have tc14 : x2.toInt ≠ 3 := fun e => c14 (Int32.toInt_inj.mp (e.trans (by decide)))
      have tc15 : x2.toInt ≠ 4 := fun e => c15 (Int32.toInt_inj.mp (e.trans (by decide)))
      refine g_tabOut (tgt := 114) dX10_about_28 (by omega) (by decide) ?_
      refine g_aload_n dX10_about_114 rfl 0 rfl ?_
      refine m_getr (k := 17) okX10 rfl rfl (by decide) w_1286 rfl dX10_about_115 ?_
      refine g_bipush (v := 8) dX10_about_118 (by decide) ?_
      obtain ⟨hz, h⟩ := gd_s h
      refine m_iald rfl hz dX10_about_120 ?_
      obtain ⟨j17, ej17, h⟩ := jn_e h
      have hj17 : ∀ (M16 : Mm), j17 M16 = some (r, M') → GG l B LY (d + 2) yX10_about cX10_about 3 (some .int) 0 0 (PI r M') 97 0 0 136 [] [] M16 := by
        intro M16 h
        rw [ej17] at h
        refine g_iconst (v := 0) dX10_about_136 (by decide) ?_
        exact g_zret rfl rfl (pi_of h) dX10_about_137
      refine g_if_ne (tgt := 136) dX10_about_121 (by decide) (fun c21 => ?_) (fun c21 => ?_)
      · replace h := ite_n c21 h
        refine g_sub [] (lv' := []) rfl ?_
        exact hj17  _ h
      · replace h := ite_p c21 h
        refine g_aload_n dX10_about_124 rfl 0 rfl ?_
        refine g_iload_n dX10_about_125 rfl 1 rfl ?_
        obtain ⟨v126_19, M126_18, eM126_18, h⟩ := bd_e h
        refine m_callVi (As := [.int x1]) (st := []) (s_X10_goesNow (d := d + 0) hA  eM126_18) rfl okX10 ck_X10_goesNow w_1520 rfl (Nat.le_of_ble_eq_true rfl) dX10_about_126 ?_
        refine g_if_eq (tgt := 136) dX10_about_129 (by decide) (fun c20 => ?_) (fun c20 => ?_)
        · replace h := ite_p c20 h
          refine g_sub [] (lv' := []) rfl ?_
          exact hj17  _ h
        · replace h := ite_n c20 h
          refine g_iconst (v := 1) dX10_about_132 (by decide) ?_
          refine g_goto (tgt := 137) dX10_about_133 (by decide) ?_
          exact g_zret rfl rfl (pi_of h) dX10_about_137
    · replace h := ite_p c22 h
      refine g_sub [0] (lv' := [(0, .ref 81)]) rfl ?_
      exact hj6  _ h
theorem ck_X10_about : CKV yX10_about cX10_about 3 (some .int) 2 := ⟨⟨by decide, by decide, by decide +kernel⟩, w_1583, w_81, ⟨w_1581, w_1582⟩, by decide⟩
theorem dX10_said_0 : decode cX10_said 0 = .ok (.aload_n 0, 1) := by decide +kernel
theorem dX10_said_1 : decode cX10_said 1 = .ok (.getfield 26, 3) := by decide +kernel
theorem dX10_said_4 : decode cX10_said 4 = .ok (.iconst 0, 1) := by decide +kernel
theorem dX10_said_5 : decode cX10_said 5 = .ok (.iaload, 1) := by decide +kernel
theorem dX10_said_6 : decode cX10_said 6 = .ok (.istore_n 2, 1) := by decide +kernel
theorem dX10_said_7 : decode cX10_said 7 = .ok (.aload_n 0, 1) := by decide +kernel
theorem dX10_said_8 : decode cX10_said 8 = .ok (.getfield 26, 3) := by decide +kernel
theorem dX10_said_11 : decode cX10_said 11 = .ok (.iconst 1, 1) := by decide +kernel
theorem dX10_said_12 : decode cX10_said 12 = .ok (.iaload, 1) := by decide +kernel
theorem dX10_said_13 : decode cX10_said 13 = .ok (.istore_n 3, 1) := by decide +kernel
theorem dX10_said_14 : decode cX10_said 14 = .ok (.iconst 0, 1) := by decide +kernel
theorem dX10_said_15 : decode cX10_said 15 = .ok (.istore 4, 2) := by decide +kernel
theorem dX10_said_17 : decode cX10_said 17 = .ok (.iload_n 3, 1) := by decide +kernel
theorem dX10_said_18 : decode cX10_said 18 = .ok (.aload_n 0, 1) := by decide +kernel
theorem dX10_said_19 : decode cX10_said 19 = .ok (.getfield 20, 3) := by decide +kernel
theorem dX10_said_22 : decode cX10_said 22 = .ok (.bipush 16, 2) := by decide +kernel
theorem dX10_said_24 : decode cX10_said 24 = .ok (.iconst 4, 1) := by decide +kernel
theorem dX10_said_25 : decode cX10_said 25 = .ok (.iload_n 2, 1) := by decide +kernel
theorem dX10_said_26 : decode cX10_said 26 = .ok (.imul, 1) := by decide +kernel
theorem dX10_said_27 : decode cX10_said 27 = .ok (.iadd, 1) := by decide +kernel
theorem dX10_said_28 : decode cX10_said 28 = .ok (.iload 4, 2) := by decide +kernel
theorem dX10_said_30 : decode cX10_said 30 = .ok (.iadd, 1) := by decide +kernel
theorem dX10_said_31 : decode cX10_said 31 = .ok (.iaload, 1) := by decide +kernel
theorem dX10_said_32 : decode cX10_said 32 = .ok (.if_icmp .lt 42, 3) := by decide +kernel
theorem dX10_said_35 : decode cX10_said 35 = .ok (.iload 4, 2) := by decide +kernel
theorem dX10_said_37 : decode cX10_said 37 = .ok (.iconst 1, 1) := by decide +kernel
theorem dX10_said_38 : decode cX10_said 38 = .ok (.iadd, 1) := by decide +kernel
theorem dX10_said_39 : decode cX10_said 39 = .ok (.aload_n 0, 1) := by decide +kernel
theorem dX10_said_40 : decode cX10_said 40 = .ok (.getfield 20, 3) := by decide +kernel
theorem dX10_said_43 : decode cX10_said 43 = .ok (.bipush 11, 2) := by decide +kernel
theorem dX10_said_45 : decode cX10_said 45 = .ok (.iload_n 2, 1) := by decide +kernel
theorem dX10_said_46 : decode cX10_said 46 = .ok (.iadd, 1) := by decide +kernel
theorem dX10_said_47 : decode cX10_said 47 = .ok (.iaload, 1) := by decide +kernel
theorem dX10_said_48 : decode cX10_said 48 = .ok (.if_icmp .ge 26, 3) := by decide +kernel
theorem dX10_said_51 : decode cX10_said 51 = .ok (.iload_n 3, 1) := by decide +kernel
theorem dX10_said_52 : decode cX10_said 52 = .ok (.aload_n 0, 1) := by decide +kernel
theorem dX10_said_53 : decode cX10_said 53 = .ok (.getfield 20, 3) := by decide +kernel
theorem dX10_said_56 : decode cX10_said 56 = .ok (.bipush 16, 2) := by decide +kernel
theorem dX10_said_58 : decode cX10_said 58 = .ok (.iconst 4, 1) := by decide +kernel
theorem dX10_said_59 : decode cX10_said 59 = .ok (.iload_n 2, 1) := by decide +kernel
theorem dX10_said_60 : decode cX10_said 60 = .ok (.imul, 1) := by decide +kernel
theorem dX10_said_61 : decode cX10_said 61 = .ok (.iadd, 1) := by decide +kernel
theorem dX10_said_62 : decode cX10_said 62 = .ok (.iload 4, 2) := by decide +kernel
theorem dX10_said_64 : decode cX10_said 64 = .ok (.iadd, 1) := by decide +kernel
theorem dX10_said_65 : decode cX10_said 65 = .ok (.iaload, 1) := by decide +kernel
theorem dX10_said_66 : decode cX10_said 66 = .ok (.isub, 1) := by decide +kernel
theorem dX10_said_67 : decode cX10_said 67 = .ok (.istore_n 3, 1) := by decide +kernel
theorem dX10_said_68 : decode cX10_said 68 = .ok (.iinc 4 1, 3) := by decide +kernel
theorem dX10_said_71 : decode cX10_said 71 = .ok (.goto (-54), 3) := by decide +kernel
theorem dX10_said_74 : decode cX10_said 74 = .ok (.iload_n 1, 1) := by decide +kernel
theorem dX10_said_75 : decode cX10_said 75 = .ok (.iconst 1, 1) := by decide +kernel
theorem dX10_said_76 : decode cX10_said 76 = .ok (.if_icmp .ne 8, 3) := by decide +kernel
theorem dX10_said_79 : decode cX10_said 79 = .ok (.iload 4, 2) := by decide +kernel
theorem dX10_said_81 : decode cX10_said 81 = .ok (.goto 4, 3) := by decide +kernel
theorem dX10_said_84 : decode cX10_said 84 = .ok (.iload_n 3, 1) := by decide +kernel
theorem dX10_said_85 : decode cX10_said 85 = .ok (.ireturn, 1) := by decide +kernel
def lp_X10_said_17 (y1 : Int32) (y2 : Int32) (k74 : Int32 → Int32 → Mm → Option (Int32 × Mm)) : Nat → Int32 → Int32 → Mm → Option (Int32 × Mm)
  | 0, _, _, _ => none
  | n + 1, y3, y4, M =>
    gd (inb (((16 : Int32) + ((4 : Int32) * y2)) + y4) 141) <| if y3 < (M 84 (((16 : Int32) + ((4 : Int32) * y2)) + y4).toNatClampNeg) then (k74 y3 y4 M) else (gd (inb ((11 : Int32) + y2) 141) <| if (M 84 ((11 : Int32) + y2).toNatClampNeg) ≤ (y4 + (1 : Int32)) then (k74 y3 y4 M) else (gd (inb (((16 : Int32) + ((4 : Int32) * y2)) + y4) 141) <| lt ((y3 - (M 84 (((16 : Int32) + ((4 : Int32) * y2)) + y4).toNatClampNeg))) fun t3 => lp_X10_said_17 y1 y2 k74 n t3 (y4 + (1 : Int32)) M))
def f_X10_said (x1 : Int32) (M : Mm) : Option (Int32 × Mm) :=
  gd (inb (0 : Int32) 44) <| lt ((M 86 (0 : Int32).toNatClampNeg)) fun t1 => gd (inb (1 : Int32) 44) <| lt ((M 86 (1 : Int32).toNatClampNeg)) fun t2 => lp_X10_said_17 x1 t1 (fun (u6 : Int32) (u7 : Int32) (M8 : Mm) => if x1 = (1 : Int32) then (some (u7, M8)) else (some (u6, M8))) N0 t2 (0 : Int32) M
set_option maxHeartbeats 4000000 in
set_option maxRecDepth 100000 in
theorem sl_X10_said_17 {l : Launch} {B : BT} (hA : bA B = false) {d : Nat} {r : Int32} {M' : Mm} {y1 : Int32} {y2 : Int32}  {k74 : Int32 → Int32 → Mm → Option (Int32 × Mm)} (hk74 : ∀ (z3 : Int32) (z4 : Int32) (M9 : Mm), k74 z3 z4 M9 = some (r, M') → GG l B LY (d + 0) yX10_said cX10_said 5 (some .int) 0 0 (PI r M') 97 0 0 74 [(1, .int y1), (3, .int z3), (4, .int z4)] [] M9) :
    ∀ (n : Nat) (y3 : Int32) (y4 : Int32) (M : Mm), lp_X10_said_17 y1 y2 k74 n y3 y4 M = some (r, M') → GG l B LY (d + 0) yX10_said cX10_said 5 (some .int) 0 0 (PI r M') 97 0 0 17 [(0, .ref 81), (1, .int y1), (2, .int y2), (3, .int y3), (4, .int y4)] [] M := by
  intro n
  induction n with
  | zero => intro y3 y4 M h; cases h
  | succ n ih =>
    intro y3 y4 M h
    rw [lp_X10_said_17] at h
    refine g_iload_n dX10_said_17 rfl 3 rfl ?_
    refine g_aload_n dX10_said_18 rfl 0 rfl ?_
    refine m_getr (k := 15) okX10 rfl rfl (by decide) w_1284 rfl dX10_said_19 ?_
    refine g_bipush (v := 16) dX10_said_22 (by decide) ?_
    refine g_iconst (v := 4) dX10_said_24 (by decide) ?_
    refine g_iload_n dX10_said_25 rfl 2 rfl ?_
    refine g_imul dX10_said_26 ?_
    refine g_iadd dX10_said_27 ?_
    refine g_iload dX10_said_28 4 rfl ?_
    refine g_iadd dX10_said_30 ?_
    obtain ⟨hz, h⟩ := gd_s h
    refine m_iald rfl hz dX10_said_31 ?_
    refine g_icmp_lt (tgt := 74) dX10_said_32 (by decide) (fun c5 => ?_) (fun c5 => ?_)
    · replace h := ite_p c5 h
      refine g_sub [1, 3, 4] (lv' := [(1, .int y1), (3, .int y3), (4, .int y4)]) rfl ?_
      exact hk74 _ _ _ h
    · replace h := ite_n c5 h
      refine g_iload dX10_said_35 4 rfl ?_
      refine g_iconst (v := 1) dX10_said_37 (by decide) ?_
      refine g_iadd dX10_said_38 ?_
      refine g_aload_n dX10_said_39 rfl 0 rfl ?_
      refine m_getr (k := 15) okX10 rfl rfl (by decide) w_1284 rfl dX10_said_40 ?_
      refine g_bipush (v := 11) dX10_said_43 (by decide) ?_
      refine g_iload_n dX10_said_45 rfl 2 rfl ?_
      refine g_iadd dX10_said_46 ?_
      obtain ⟨hz, h⟩ := gd_s h
      refine m_iald rfl hz dX10_said_47 ?_
      refine g_icmp_ge (tgt := 74) dX10_said_48 (by decide) (fun c4 => ?_) (fun c4 => ?_)
      · replace h := ite_p c4 h
        refine g_sub [1, 3, 4] (lv' := [(1, .int y1), (3, .int y3), (4, .int y4)]) rfl ?_
        exact hk74 _ _ _ h
      · replace h := ite_n c4 h
        refine g_iload_n dX10_said_51 rfl 3 rfl ?_
        refine g_aload_n dX10_said_52 rfl 0 rfl ?_
        refine m_getr (k := 15) okX10 rfl rfl (by decide) w_1284 rfl dX10_said_53 ?_
        refine g_bipush (v := 16) dX10_said_56 (by decide) ?_
        refine g_iconst (v := 4) dX10_said_58 (by decide) ?_
        refine g_iload_n dX10_said_59 rfl 2 rfl ?_
        refine g_imul dX10_said_60 ?_
        refine g_iadd dX10_said_61 ?_
        refine g_iload dX10_said_62 4 rfl ?_
        refine g_iadd dX10_said_64 ?_
        obtain ⟨hz, h⟩ := gd_s h
        refine m_iald rfl hz dX10_said_65 ?_
        refine g_isub dX10_said_66 ?_
        obtain ⟨t3, et3, h⟩ := lt_e h
        refine g_cuti et3 ?_
        refine g_istore_n (lv' := [(3, .int t3), (0, .ref 81), (1, .int y1), (2, .int y2), (4, .int y4)]) dX10_said_67 rfl (by decide) rfl ?_
        refine g_iinc (v := (y4 + (1 : Int32))) (lv' := [(4, .int (y4 + (1 : Int32))), (3, .int t3), (0, .ref 81), (1, .int y1), (2, .int y2)]) dX10_said_68 4 rfl rfl (by decide) rfl ?_
        refine g_goto (tgt := 17) dX10_said_71 (by decide) ?_
        refine g_sub [2, 3, 4, 1, 0] (lv' := [(0, .ref 81), (1, .int y1), (2, .int y2), (3, .int t3), (4, .int (y4 + (1 : Int32)))]) rfl ?_
        exact ih _ _  _ h
set_option maxHeartbeats 4000000 in
set_option maxRecDepth 100000 in
theorem s_X10_said {l : Launch} {B : BT} (hA : bA B = false) {d : Nat} {r : Int32} {M' : Mm} {x1 : Int32} {M : Mm}  (h : f_X10_said x1 M = some (r, M')) : Con l B LY (d + 0) yX10_said cX10_said 5 (some .int) 0 0 [.ref 81, .int x1] 97 M (PI r M') := by
  refine con_of (by decide) (Nat.le_of_ble_eq_true rfl) ?_
  show GG l B LY (d + 0) yX10_said cX10_said 5 (some .int) 0 0 (PI r M') 97 0 0 0 [(0, .ref 81), (1, .int x1)] [] M
  rw [f_X10_said] at h
  refine g_aload_n dX10_said_0 rfl 0 rfl ?_
  refine m_getr (k := 17) okX10 rfl rfl (by decide) w_1286 rfl dX10_said_1 ?_
  refine g_iconst (v := 0) dX10_said_4 (by decide) ?_
  obtain ⟨hz, h⟩ := gd_s h
  refine m_iald rfl hz dX10_said_5 ?_
  obtain ⟨t1, et1, h⟩ := lt_e h
  refine g_cuti et1 ?_
  refine g_istore_n (lv' := [(2, .int t1), (0, .ref 81), (1, .int x1)]) dX10_said_6 rfl (by decide) rfl ?_
  refine g_aload_n dX10_said_7 rfl 1 rfl ?_
  refine m_getr (k := 17) okX10 rfl rfl (by decide) w_1286 rfl dX10_said_8 ?_
  refine g_iconst (v := 1) dX10_said_11 (by decide) ?_
  obtain ⟨hz, h⟩ := gd_s h
  refine m_iald rfl hz dX10_said_12 ?_
  obtain ⟨t2, et2, h⟩ := lt_e h
  refine g_cuti et2 ?_
  refine g_istore_n (lv' := [(3, .int t2), (2, .int t1), (0, .ref 81), (1, .int x1)]) dX10_said_13 rfl (by decide) rfl ?_
  refine g_iconst (v := 0) dX10_said_14 (by decide) ?_
  refine g_istore (lv' := [(4, .int (0 : Int32)), (3, .int t2), (2, .int t1), (0, .ref 81), (1, .int x1)]) dX10_said_15 (by decide) rfl ?_
  refine g_sub [3, 4, 2, 1, 0] (lv' := [(0, .ref 81), (1, .int x1), (2, .int t1), (3, .int t2), (4, .int (0 : Int32))]) rfl ?_
  refine sl_X10_said_17 hA  ?_ _ _ _ _ h
  · intro u6 u7 M8 h
    refine g_iload_n dX10_said_74 rfl 0 rfl ?_
    refine g_iconst (v := 1) dX10_said_75 (by decide) ?_
    refine g_icmp_ne (tgt := 84) dX10_said_76 (by decide) (fun c9 => ?_) (fun c9 => ?_)
    · replace h := ite_n c9 h
      refine g_iload_n dX10_said_84 rfl 1 rfl ?_
      exact g_zret rfl rfl (pi_of h) dX10_said_85
    · replace h := ite_p c9 h
      refine g_iload dX10_said_79 2 rfl ?_
      refine g_goto (tgt := 85) dX10_said_81 (by decide) ?_
      exact g_zret rfl rfl (pi_of h) dX10_said_85
theorem ck_X10_said : CKV yX10_said cX10_said 5 (some .int) 1 := ⟨⟨by decide, by decide, by decide +kernel⟩, w_1591, w_81, ⟨w_1590, w_43⟩, by decide⟩
theorem dX10_play_0 : decode cX10_play 0 = .ok (.aload_n 0, 1) := by decide +kernel
theorem dX10_play_1 : decode cX10_play 1 = .ok (.invokevirtual 156, 3) := by decide +kernel
theorem dX10_play_4 : decode cX10_play 4 = .ok (.aload_n 0, 1) := by decide +kernel
theorem dX10_play_5 : decode cX10_play 5 = .ok (.getfield 165, 3) := by decide +kernel
theorem dX10_play_8 : decode cX10_play 8 = .ok (.ifCond .eq 13, 3) := by decide +kernel
theorem dX10_play_11 : decode cX10_play 11 = .ok (.iload_n 1, 1) := by decide +kernel
theorem dX10_play_12 : decode cX10_play 12 = .ok (.iconst 0, 1) := by decide +kernel
theorem dX10_play_13 : decode cX10_play 13 = .ok (.bipush 7, 2) := by decide +kernel
theorem dX10_play_15 : decode cX10_play 15 = .ok (.invokestatic 144, 3) := by decide +kernel
theorem dX10_play_18 : decode cX10_play 18 = .ok (.ifCond .ne 9, 3) := by decide +kernel
theorem dX10_play_21 : decode cX10_play 21 = .ok (.aload_n 0, 1) := by decide +kernel
theorem dX10_play_22 : decode cX10_play 22 = .ok (.iconst 1, 1) := by decide +kernel
theorem dX10_play_23 : decode cX10_play 23 = .ok (.invokevirtual 159, 3) := by decide +kernel
theorem dX10_play_26 : decode cX10_play 26 = .ok (.ireturn, 1) := by decide +kernel
theorem dX10_play_27 : decode cX10_play 27 = .ok (.iload_n 1, 1) := by decide +kernel
theorem dX10_play_28 : decode cX10_play 28 = .ok (.tableswitch 85 0 6 #[44, 51, 51, 57, 64, 71, 78], 44) := by decide +kernel
theorem dX10_play_72 : decode cX10_play 72 = .ok (.aload_n 0, 1) := by decide +kernel
theorem dX10_play_73 : decode cX10_play 73 = .ok (.getfield 26, 3) := by decide +kernel
theorem dX10_play_76 : decode cX10_play 76 = .ok (.iconst 0, 1) := by decide +kernel
theorem dX10_play_77 : decode cX10_play 77 = .ok (.iaload, 1) := by decide +kernel
theorem dX10_play_78 : decode cX10_play 78 = .ok (.ireturn, 1) := by decide +kernel
theorem dX10_play_79 : decode cX10_play 79 = .ok (.aload_n 0, 1) := by decide +kernel
theorem dX10_play_80 : decode cX10_play 80 = .ok (.iload_n 1, 1) := by decide +kernel
theorem dX10_play_81 : decode cX10_play 81 = .ok (.invokevirtual 281, 3) := by decide +kernel
theorem dX10_play_84 : decode cX10_play 84 = .ok (.ireturn, 1) := by decide +kernel
theorem dX10_play_85 : decode cX10_play 85 = .ok (.aload_n 0, 1) := by decide +kernel
theorem dX10_play_86 : decode cX10_play 86 = .ok (.getfield 26, 3) := by decide +kernel
theorem dX10_play_89 : decode cX10_play 89 = .ok (.iconst 2, 1) := by decide +kernel
theorem dX10_play_90 : decode cX10_play 90 = .ok (.iaload, 1) := by decide +kernel
theorem dX10_play_91 : decode cX10_play 91 = .ok (.ireturn, 1) := by decide +kernel
theorem dX10_play_92 : decode cX10_play 92 = .ok (.aload_n 0, 1) := by decide +kernel
theorem dX10_play_93 : decode cX10_play 93 = .ok (.getfield 26, 3) := by decide +kernel
theorem dX10_play_96 : decode cX10_play 96 = .ok (.iconst 3, 1) := by decide +kernel
theorem dX10_play_97 : decode cX10_play 97 = .ok (.iaload, 1) := by decide +kernel
theorem dX10_play_98 : decode cX10_play 98 = .ok (.ireturn, 1) := by decide +kernel
theorem dX10_play_99 : decode cX10_play 99 = .ok (.aload_n 0, 1) := by decide +kernel
theorem dX10_play_100 : decode cX10_play 100 = .ok (.getfield 26, 3) := by decide +kernel
theorem dX10_play_103 : decode cX10_play 103 = .ok (.iconst 4, 1) := by decide +kernel
theorem dX10_play_104 : decode cX10_play 104 = .ok (.iaload, 1) := by decide +kernel
theorem dX10_play_105 : decode cX10_play 105 = .ok (.ireturn, 1) := by decide +kernel
theorem dX10_play_106 : decode cX10_play 106 = .ok (.aload_n 0, 1) := by decide +kernel
theorem dX10_play_107 : decode cX10_play 107 = .ok (.getfield 26, 3) := by decide +kernel
theorem dX10_play_110 : decode cX10_play 110 = .ok (.iconst 5, 1) := by decide +kernel
theorem dX10_play_111 : decode cX10_play 111 = .ok (.iaload, 1) := by decide +kernel
theorem dX10_play_112 : decode cX10_play 112 = .ok (.ireturn, 1) := by decide +kernel
theorem dX10_play_113 : decode cX10_play 113 = .ok (.aload_n 0, 1) := by decide +kernel
theorem dX10_play_114 : decode cX10_play 114 = .ok (.getfield 26, 3) := by decide +kernel
theorem dX10_play_117 : decode cX10_play 117 = .ok (.bipush 7, 2) := by decide +kernel
theorem dX10_play_119 : decode cX10_play 119 = .ok (.iaload, 1) := by decide +kernel
theorem dX10_play_120 : decode cX10_play 120 = .ok (.ireturn, 1) := by decide +kernel
def f_X10_play (x1 : Int32) (M : Mm) : Option (Int32 × Mm) :=
  bv (f_X10_good  M) fun M1_1 => jn (fun (M3 : Mm) => bd (f_X10_no (1 : Int32) M3) fun v23_6 M23_5 => some (v23_6, M23_5)) fun j4 => if (M1_1 81 14) = 0 then (j4  M1_1) else (bd (f_X10_within x1 (0 : Int32) (7 : Int32) M1_1) fun v15_8 M15_7 => if v15_8 = 0 then (j4  M15_7) else (jn (fun (M9 : Mm) => bd (f_X10_said x1 M9) fun v81_12 M81_11 => some (v81_12, M81_11)) fun j10 => if x1 = (0 : Int32) then (gd (inb (0 : Int32) 44) <| some ((M15_7 86 (0 : Int32).toNatClampNeg), M15_7)) else (if x1 = (1 : Int32) then (j10  M15_7) else (if x1 = (2 : Int32) then (j10  M15_7) else (if x1 = (3 : Int32) then (gd (inb (2 : Int32) 44) <| some ((M15_7 86 (2 : Int32).toNatClampNeg), M15_7)) else (if x1 = (4 : Int32) then (gd (inb (3 : Int32) 44) <| some ((M15_7 86 (3 : Int32).toNatClampNeg), M15_7)) else (if x1 = (5 : Int32) then (gd (inb (4 : Int32) 44) <| some ((M15_7 86 (4 : Int32).toNatClampNeg), M15_7)) else (if x1 = (6 : Int32) then (gd (inb (5 : Int32) 44) <| some ((M15_7 86 (5 : Int32).toNatClampNeg), M15_7)) else (gd (inb (7 : Int32) 44) <| some ((M15_7 86 (7 : Int32).toNatClampNeg), M15_7))))))))))
set_option maxHeartbeats 4000000 in
set_option maxRecDepth 100000 in
theorem s_X10_play {l : Launch} {B : BT} (hA : bA B = false) {d : Nat} {r : Int32} {M' : Mm} {x1 : Int32} {M : Mm}  (h : f_X10_play x1 M = some (r, M')) : Con l B LY (d + 1) yX10_play cX10_play 2 (some .int) 0 0 [.ref 81, .int x1] 97 M (PI r M') := by
  refine con_of (by decide) (Nat.le_of_ble_eq_true rfl) ?_
  show GG l B LY (d + 1) yX10_play cX10_play 2 (some .int) 0 0 (PI r M') 97 0 0 0 [(0, .ref 81), (1, .int x1)] [] M
  rw [f_X10_play] at h
  refine g_aload_n dX10_play_0 rfl 0 rfl ?_
  obtain ⟨M1_1, eM1_1, h⟩ := bv_e h
  refine m_callVv (As := []) (st := []) (s_X10_good (d := d + 0) hA  eM1_1) rfl okX10 ck_X10_good w_1381 rfl (Nat.le_of_ble_eq_true rfl) dX10_play_1 ?_
  refine g_aload_n dX10_play_4 rfl 0 rfl ?_
  refine m_geti (k := 14) okX10 rfl rfl (by decide) w_1283 rfl dX10_play_5 ?_
  obtain ⟨j4, ej4, h⟩ := jn_e h
  have hj4 : ∀ (M3 : Mm), j4 M3 = some (r, M') → GG l B LY (d + 1) yX10_play cX10_play 2 (some .int) 0 0 (PI r M') 97 0 0 21 [(0, .ref 81)] [] M3 := by
    intro M3 h
    rw [ej4] at h
    refine g_aload_n dX10_play_21 rfl 0 rfl ?_
    refine g_iconst (v := 1) dX10_play_22 (by decide) ?_
    obtain ⟨v23_6, M23_5, eM23_5, h⟩ := bd_e h
    refine m_callVi (As := [.int (1 : Int32)]) (st := []) (s_X10_no (d := d + 0) hA  eM23_5) rfl okX10 ck_X10_no w_1388 rfl (Nat.le_of_ble_eq_true rfl) dX10_play_23 ?_
    exact g_zret rfl rfl (pi_of h) dX10_play_26
  refine g_if_eq (tgt := 21) dX10_play_8 (by decide) (fun c21 => ?_) (fun c21 => ?_)
  · replace h := ite_p c21 h
    refine g_sub [0] (lv' := [(0, .ref 81)]) rfl ?_
    exact hj4  _ h
  · replace h := ite_n c21 h
    refine g_iload_n dX10_play_11 rfl 1 rfl ?_
    refine g_iconst (v := 0) dX10_play_12 (by decide) ?_
    refine g_bipush (v := 7) dX10_play_13 (by decide) ?_
    obtain ⟨v15_8, M15_7, eM15_7, h⟩ := bd_e h
    refine m_callSi (As := [.int x1, .int (0 : Int32), .int (7 : Int32)]) (st := []) (s_X10_within (d := d + 0) hA  eM15_7) ck_X10_within w_1385 rfl (Nat.le_of_ble_eq_true rfl) dX10_play_15 ?_
    refine g_if_ne (tgt := 27) dX10_play_18 (by decide) (fun c20 => ?_) (fun c20 => ?_)
    · replace h := ite_n c20 h
      refine g_iload_n dX10_play_27 rfl 1 rfl ?_
      obtain ⟨j10, ej10, h⟩ := jn_e h
      have hj10 : ∀ (M9 : Mm), j10 M9 = some (r, M') → GG l B LY (d + 1) yX10_play cX10_play 2 (some .int) 0 0 (PI r M') 97 0 0 79 [(0, .ref 81), (1, .int x1)] [] M9 := by
        intro M9 h
        rw [ej10] at h
        refine g_aload_n dX10_play_79 rfl 0 rfl ?_
        refine g_iload_n dX10_play_80 rfl 1 rfl ?_
        obtain ⟨v81_12, M81_11, eM81_11, h⟩ := bd_e h
        refine m_callVi (As := [.int x1]) (st := []) (s_X10_said (d := d + 0) hA  eM81_11) rfl okX10 ck_X10_said w_1588 rfl (Nat.le_of_ble_eq_true rfl) dX10_play_81 ?_
        exact g_zret rfl rfl (pi_of h) dX10_play_84
      by_cases c13 : x1 = (0 : Int32)
      · replace h := ite_p c13 h
        refine g_tabIn (tgt := 72) dX10_play_28 (by rw [c13]; decide) (by rw [c13]; decide) (off := 44) (by rw [c13]; rfl) (by decide) ?_
        refine g_aload_n dX10_play_72 rfl 0 rfl ?_
        refine m_getr (k := 17) okX10 rfl rfl (by decide) w_1286 rfl dX10_play_73 ?_
        refine g_iconst (v := 0) dX10_play_76 (by decide) ?_
        obtain ⟨hz, h⟩ := gd_s h
        refine m_iald rfl hz dX10_play_77 ?_
        exact g_zret rfl rfl (pi_of h) dX10_play_78
      replace h := ite_n c13 h
      by_cases c14 : x1 = (1 : Int32)
      · replace h := ite_p c14 h
        refine g_tabIn (tgt := 79) dX10_play_28 (by rw [c14]; decide) (by rw [c14]; decide) (off := 51) (by rw [c14]; rfl) (by decide) ?_
        refine g_sub [0, 1] (lv' := [(0, .ref 81), (1, .int x1)]) rfl ?_
        exact hj10  _ h
      replace h := ite_n c14 h
      by_cases c15 : x1 = (2 : Int32)
      · replace h := ite_p c15 h
        refine g_tabIn (tgt := 79) dX10_play_28 (by rw [c15]; decide) (by rw [c15]; decide) (off := 51) (by rw [c15]; rfl) (by decide) ?_
        refine g_sub [0, 1] (lv' := [(0, .ref 81), (1, .int x1)]) rfl ?_
        exact hj10  _ h
      replace h := ite_n c15 h
      by_cases c16 : x1 = (3 : Int32)
      · replace h := ite_p c16 h
        refine g_tabIn (tgt := 85) dX10_play_28 (by rw [c16]; decide) (by rw [c16]; decide) (off := 57) (by rw [c16]; rfl) (by decide) ?_
        refine g_aload_n dX10_play_85 rfl 0 rfl ?_
        refine m_getr (k := 17) okX10 rfl rfl (by decide) w_1286 rfl dX10_play_86 ?_
        refine g_iconst (v := 2) dX10_play_89 (by decide) ?_
        obtain ⟨hz, h⟩ := gd_s h
        refine m_iald rfl hz dX10_play_90 ?_
        exact g_zret rfl rfl (pi_of h) dX10_play_91
      replace h := ite_n c16 h
      by_cases c17 : x1 = (4 : Int32)
      · replace h := ite_p c17 h
        refine g_tabIn (tgt := 92) dX10_play_28 (by rw [c17]; decide) (by rw [c17]; decide) (off := 64) (by rw [c17]; rfl) (by decide) ?_
        refine g_aload_n dX10_play_92 rfl 0 rfl ?_
        refine m_getr (k := 17) okX10 rfl rfl (by decide) w_1286 rfl dX10_play_93 ?_
        refine g_iconst (v := 3) dX10_play_96 (by decide) ?_
        obtain ⟨hz, h⟩ := gd_s h
        refine m_iald rfl hz dX10_play_97 ?_
        exact g_zret rfl rfl (pi_of h) dX10_play_98
      replace h := ite_n c17 h
      by_cases c18 : x1 = (5 : Int32)
      · replace h := ite_p c18 h
        refine g_tabIn (tgt := 99) dX10_play_28 (by rw [c18]; decide) (by rw [c18]; decide) (off := 71) (by rw [c18]; rfl) (by decide) ?_
        refine g_aload_n dX10_play_99 rfl 0 rfl ?_
        refine m_getr (k := 17) okX10 rfl rfl (by decide) w_1286 rfl dX10_play_100 ?_
        refine g_iconst (v := 4) dX10_play_103 (by decide) ?_
        obtain ⟨hz, h⟩ := gd_s h
        refine m_iald rfl hz dX10_play_104 ?_
        exact g_zret rfl rfl (pi_of h) dX10_play_105
      replace h := ite_n c18 h
      by_cases c19 : x1 = (6 : Int32)
      · replace h := ite_p c19 h
        refine g_tabIn (tgt := 106) dX10_play_28 (by rw [c19]; decide) (by rw [c19]; decide) (off := 78) (by rw [c19]; rfl) (by decide) ?_
        refine g_aload_n dX10_play_106 rfl 0 rfl ?_
        refine m_getr (k := 17) okX10 rfl rfl (by decide) w_1286 rfl dX10_play_107 ?_
        refine g_iconst (v := 5) dX10_play_110 (by decide) ?_
        obtain ⟨hz, h⟩ := gd_s h
        refine m_iald rfl hz dX10_play_111 ?_
        exact g_zret rfl rfl (pi_of h) dX10_play_112
      replace h := ite_n c19 h
      have tc13 : x1.toInt ≠ 0 := fun e => c13 (Int32.toInt_inj.mp (e.trans (by decide)))
      have tc14 : x1.toInt ≠ 1 := fun e => c14 (Int32.toInt_inj.mp (e.trans (by decide)))
      have tc15 : x1.toInt ≠ 2 := fun e => c15 (Int32.toInt_inj.mp (e.trans (by decide)))
      have tc16 : x1.toInt ≠ 3 := fun e => c16 (Int32.toInt_inj.mp (e.trans (by decide)))
      have tc17 : x1.toInt ≠ 4 := fun e => c17 (Int32.toInt_inj.mp (e.trans (by decide)))
      have tc18 : x1.toInt ≠ 5 := fun e => c18 (Int32.toInt_inj.mp (e.trans (by decide)))
      have tc19 : x1.toInt ≠ 6 := fun e => c19 (Int32.toInt_inj.mp (e.trans (by decide)))
      refine g_tabOut (tgt := 113) dX10_play_28 (by omega) (by decide) ?_
      refine g_aload_n dX10_play_113 rfl 0 rfl ?_
      refine m_getr (k := 17) okX10 rfl rfl (by decide) w_1286 rfl dX10_play_114 ?_
      refine g_bipush (v := 7) dX10_play_117 (by decide) ?_
      obtain ⟨hz, h⟩ := gd_s h
      refine m_iald rfl hz dX10_play_119 ?_
      exact g_zret rfl rfl (pi_of h) dX10_play_120
    · replace h := ite_p c20 h
      refine g_sub [0] (lv' := [(0, .ref 81)]) rfl ?_
      exact hj4  _ h
theorem ck_X10_play : CKV yX10_play cX10_play 2 (some .int) 1 := ⟨⟨by decide, by decide, by decide +kernel⟩, w_1587, w_81, ⟨w_1585, w_1586⟩, by decide⟩
