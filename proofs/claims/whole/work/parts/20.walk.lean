/-! walks: X10_creeperLine X10_readLine X10_begin X10_game X10_fault X10_where X10_isCreeper X10_keep X10_bringBack X10_draw X10_tenthsOf X10_loudest X10_goesNow X10_needs X10_isCaught. Written by wip/programs/parts.py. -/
theorem dX10_creeperLine_0 : decode cX10_creeperLine 0 = .ok (.aload_n 0, 1) := by decide +kernel
theorem dX10_creeperLine_1 : decode cX10_creeperLine 1 = .ok (.aload_n 0, 1) := by decide +kernel
theorem dX10_creeperLine_2 : decode cX10_creeperLine 2 = .ok (.getfield 23, 3) := by decide +kernel
theorem dX10_creeperLine_5 : decode cX10_creeperLine 5 = .ok (.bipush 95, 2) := by decide +kernel
theorem dX10_creeperLine_7 : decode cX10_creeperLine 7 = .ok (.iaload, 1) := by decide +kernel
theorem dX10_creeperLine_8 : decode cX10_creeperLine 8 = .ok (.iconst 5, 1) := by decide +kernel
theorem dX10_creeperLine_9 : decode cX10_creeperLine 9 = .ok (.if_icmp .ne 7, 3) := by decide +kernel
theorem dX10_creeperLine_12 : decode cX10_creeperLine 12 = .ok (.iconst 5, 1) := by decide +kernel
theorem dX10_creeperLine_13 : decode cX10_creeperLine 13 = .ok (.goto 19, 3) := by decide +kernel
theorem dX10_creeperLine_16 : decode cX10_creeperLine 16 = .ok (.aload_n 0, 1) := by decide +kernel
theorem dX10_creeperLine_17 : decode cX10_creeperLine 17 = .ok (.getfield 23, 3) := by decide +kernel
theorem dX10_creeperLine_20 : decode cX10_creeperLine 20 = .ok (.bipush 91, 2) := by decide +kernel
theorem dX10_creeperLine_22 : decode cX10_creeperLine 22 = .ok (.iaload, 1) := by decide +kernel
theorem dX10_creeperLine_23 : decode cX10_creeperLine 23 = .ok (.ifCond .ne 8, 3) := by decide +kernel
theorem dX10_creeperLine_26 : decode cX10_creeperLine 26 = .ok (.bipush 6, 2) := by decide +kernel
theorem dX10_creeperLine_28 : decode cX10_creeperLine 28 = .ok (.goto 4, 3) := by decide +kernel
theorem dX10_creeperLine_31 : decode cX10_creeperLine 31 = .ok (.iconst 0, 1) := by decide +kernel
theorem dX10_creeperLine_32 : decode cX10_creeperLine 32 = .ok (.invokevirtual 193, 3) := by decide +kernel
theorem dX10_creeperLine_35 : decode cX10_creeperLine 35 = .ok (.aload_n 0, 1) := by decide +kernel
theorem dX10_creeperLine_36 : decode cX10_creeperLine 36 = .ok (.getfield 97, 3) := by decide +kernel
theorem dX10_creeperLine_39 : decode cX10_creeperLine 39 = .ok (.ifCond .eq 4, 3) := by decide +kernel
theorem dX10_creeperLine_42 : decode cX10_creeperLine 42 = .ok (.return_, 1) := by decide +kernel
theorem dX10_creeperLine_43 : decode cX10_creeperLine 43 = .ok (.aload_n 0, 1) := by decide +kernel
theorem dX10_creeperLine_44 : decode cX10_creeperLine 44 = .ok (.getfield 23, 3) := by decide +kernel
theorem dX10_creeperLine_47 : decode cX10_creeperLine 47 = .ok (.bipush 95, 2) := by decide +kernel
theorem dX10_creeperLine_49 : decode cX10_creeperLine 49 = .ok (.iaload, 1) := by decide +kernel
theorem dX10_creeperLine_50 : decode cX10_creeperLine 50 = .ok (.istore_n 1, 1) := by decide +kernel
theorem dX10_creeperLine_51 : decode cX10_creeperLine 51 = .ok (.aload_n 0, 1) := by decide +kernel
theorem dX10_creeperLine_52 : decode cX10_creeperLine 52 = .ok (.invokevirtual 225, 3) := by decide +kernel
theorem dX10_creeperLine_55 : decode cX10_creeperLine 55 = .ok (.aload_n 0, 1) := by decide +kernel
theorem dX10_creeperLine_56 : decode cX10_creeperLine 56 = .ok (.getfield 23, 3) := by decide +kernel
theorem dX10_creeperLine_59 : decode cX10_creeperLine 59 = .ok (.bipush 56, 2) := by decide +kernel
theorem dX10_creeperLine_61 : decode cX10_creeperLine 61 = .ok (.iload_n 1, 1) := by decide +kernel
theorem dX10_creeperLine_62 : decode cX10_creeperLine 62 = .ok (.iadd, 1) := by decide +kernel
theorem dX10_creeperLine_63 : decode cX10_creeperLine 63 = .ok (.aload_n 0, 1) := by decide +kernel
theorem dX10_creeperLine_64 : decode cX10_creeperLine 64 = .ok (.ldc 217, 2) := by decide +kernel
theorem dX10_creeperLine_66 : decode cX10_creeperLine 66 = .ok (.iconst 0, 1) := by decide +kernel
theorem dX10_creeperLine_67 : decode cX10_creeperLine 67 = .ok (.aload_n 0, 1) := by decide +kernel
theorem dX10_creeperLine_68 : decode cX10_creeperLine 68 = .ok (.getfield 23, 3) := by decide +kernel
theorem dX10_creeperLine_71 : decode cX10_creeperLine 71 = .ok (.iconst 1, 1) := by decide +kernel
theorem dX10_creeperLine_72 : decode cX10_creeperLine 72 = .ok (.iaload, 1) := by decide +kernel
theorem dX10_creeperLine_73 : decode cX10_creeperLine 73 = .ok (.iconst 1, 1) := by decide +kernel
theorem dX10_creeperLine_74 : decode cX10_creeperLine 74 = .ok (.isub, 1) := by decide +kernel
theorem dX10_creeperLine_75 : decode cX10_creeperLine 75 = .ok (.invokevirtual 198, 3) := by decide +kernel
theorem dX10_creeperLine_78 : decode cX10_creeperLine 78 = .ok (.iastore, 1) := by decide +kernel
theorem dX10_creeperLine_79 : decode cX10_creeperLine 79 = .ok (.aload_n 0, 1) := by decide +kernel
theorem dX10_creeperLine_80 : decode cX10_creeperLine 80 = .ok (.getfield 23, 3) := by decide +kernel
theorem dX10_creeperLine_83 : decode cX10_creeperLine 83 = .ok (.bipush 61, 2) := by decide +kernel
theorem dX10_creeperLine_85 : decode cX10_creeperLine 85 = .ok (.iload_n 1, 1) := by decide +kernel
theorem dX10_creeperLine_86 : decode cX10_creeperLine 86 = .ok (.iadd, 1) := by decide +kernel
theorem dX10_creeperLine_87 : decode cX10_creeperLine 87 = .ok (.aload_n 0, 1) := by decide +kernel
theorem dX10_creeperLine_88 : decode cX10_creeperLine 88 = .ok (.ldc 228, 2) := by decide +kernel
theorem dX10_creeperLine_90 : decode cX10_creeperLine 90 = .ok (.iconst 1, 1) := by decide +kernel
theorem dX10_creeperLine_91 : decode cX10_creeperLine 91 = .ok (.bipush 20, 2) := by decide +kernel
theorem dX10_creeperLine_93 : decode cX10_creeperLine 93 = .ok (.invokevirtual 198, 3) := by decide +kernel
theorem dX10_creeperLine_96 : decode cX10_creeperLine 96 = .ok (.iastore, 1) := by decide +kernel
theorem dX10_creeperLine_97 : decode cX10_creeperLine 97 = .ok (.aload_n 0, 1) := by decide +kernel
theorem dX10_creeperLine_98 : decode cX10_creeperLine 98 = .ok (.getfield 23, 3) := by decide +kernel
theorem dX10_creeperLine_101 : decode cX10_creeperLine 101 = .ok (.bipush 66, 2) := by decide +kernel
theorem dX10_creeperLine_103 : decode cX10_creeperLine 103 = .ok (.iload_n 1, 1) := by decide +kernel
theorem dX10_creeperLine_104 : decode cX10_creeperLine 104 = .ok (.iadd, 1) := by decide +kernel
theorem dX10_creeperLine_105 : decode cX10_creeperLine 105 = .ok (.aload_n 0, 1) := by decide +kernel
theorem dX10_creeperLine_106 : decode cX10_creeperLine 106 = .ok (.ldc 230, 2) := by decide +kernel
theorem dX10_creeperLine_108 : decode cX10_creeperLine 108 = .ok (.iconst 0, 1) := by decide +kernel
theorem dX10_creeperLine_109 : decode cX10_creeperLine 109 = .ok (.bipush 100, 2) := by decide +kernel
theorem dX10_creeperLine_111 : decode cX10_creeperLine 111 = .ok (.invokevirtual 198, 3) := by decide +kernel
theorem dX10_creeperLine_114 : decode cX10_creeperLine 114 = .ok (.iastore, 1) := by decide +kernel
theorem dX10_creeperLine_115 : decode cX10_creeperLine 115 = .ok (.aload_n 0, 1) := by decide +kernel
theorem dX10_creeperLine_116 : decode cX10_creeperLine 116 = .ok (.getfield 23, 3) := by decide +kernel
theorem dX10_creeperLine_119 : decode cX10_creeperLine 119 = .ok (.bipush 71, 2) := by decide +kernel
theorem dX10_creeperLine_121 : decode cX10_creeperLine 121 = .ok (.iload_n 1, 1) := by decide +kernel
theorem dX10_creeperLine_122 : decode cX10_creeperLine 122 = .ok (.iadd, 1) := by decide +kernel
theorem dX10_creeperLine_123 : decode cX10_creeperLine 123 = .ok (.aload_n 0, 1) := by decide +kernel
theorem dX10_creeperLine_124 : decode cX10_creeperLine 124 = .ok (.ldc 232, 2) := by decide +kernel
theorem dX10_creeperLine_126 : decode cX10_creeperLine 126 = .ok (.bipush 60, 2) := by decide +kernel
theorem dX10_creeperLine_128 : decode cX10_creeperLine 128 = .ok (.sipush 199, 3) := by decide +kernel
theorem dX10_creeperLine_131 : decode cX10_creeperLine 131 = .ok (.invokevirtual 198, 3) := by decide +kernel
theorem dX10_creeperLine_134 : decode cX10_creeperLine 134 = .ok (.iastore, 1) := by decide +kernel
theorem dX10_creeperLine_135 : decode cX10_creeperLine 135 = .ok (.aload_n 0, 1) := by decide +kernel
theorem dX10_creeperLine_136 : decode cX10_creeperLine 136 = .ok (.getfield 23, 3) := by decide +kernel
theorem dX10_creeperLine_139 : decode cX10_creeperLine 139 = .ok (.bipush 76, 2) := by decide +kernel
theorem dX10_creeperLine_141 : decode cX10_creeperLine 141 = .ok (.iload_n 1, 1) := by decide +kernel
theorem dX10_creeperLine_142 : decode cX10_creeperLine 142 = .ok (.iadd, 1) := by decide +kernel
theorem dX10_creeperLine_143 : decode cX10_creeperLine 143 = .ok (.aload_n 0, 1) := by decide +kernel
theorem dX10_creeperLine_144 : decode cX10_creeperLine 144 = .ok (.ldc 234, 2) := by decide +kernel
theorem dX10_creeperLine_146 : decode cX10_creeperLine 146 = .ok (.iconst 0, 1) := by decide +kernel
theorem dX10_creeperLine_147 : decode cX10_creeperLine 147 = .ok (.bipush 100, 2) := by decide +kernel
theorem dX10_creeperLine_149 : decode cX10_creeperLine 149 = .ok (.invokevirtual 198, 3) := by decide +kernel
theorem dX10_creeperLine_152 : decode cX10_creeperLine 152 = .ok (.iastore, 1) := by decide +kernel
theorem dX10_creeperLine_153 : decode cX10_creeperLine 153 = .ok (.aload_n 0, 1) := by decide +kernel
theorem dX10_creeperLine_154 : decode cX10_creeperLine 154 = .ok (.getfield 97, 3) := by decide +kernel
theorem dX10_creeperLine_157 : decode cX10_creeperLine 157 = .ok (.ifCond .eq 4, 3) := by decide +kernel
theorem dX10_creeperLine_160 : decode cX10_creeperLine 160 = .ok (.return_, 1) := by decide +kernel
theorem dX10_creeperLine_161 : decode cX10_creeperLine 161 = .ok (.aload_n 0, 1) := by decide +kernel
theorem dX10_creeperLine_162 : decode cX10_creeperLine 162 = .ok (.ldc 140, 2) := by decide +kernel
theorem dX10_creeperLine_164 : decode cX10_creeperLine 164 = .ok (.invokevirtual 121, 3) := by decide +kernel
theorem dX10_creeperLine_167 : decode cX10_creeperLine 167 = .ok (.ifCond .eq 31, 3) := by decide +kernel
theorem dX10_creeperLine_170 : decode cX10_creeperLine 170 = .ok (.aload_n 0, 1) := by decide +kernel
theorem dX10_creeperLine_171 : decode cX10_creeperLine 171 = .ok (.getfield 23, 3) := by decide +kernel
theorem dX10_creeperLine_174 : decode cX10_creeperLine 174 = .ok (.bipush 81, 2) := by decide +kernel
theorem dX10_creeperLine_176 : decode cX10_creeperLine 176 = .ok (.iload_n 1, 1) := by decide +kernel
theorem dX10_creeperLine_177 : decode cX10_creeperLine 177 = .ok (.iadd, 1) := by decide +kernel
theorem dX10_creeperLine_178 : decode cX10_creeperLine 178 = .ok (.iconst 1, 1) := by decide +kernel
theorem dX10_creeperLine_179 : decode cX10_creeperLine 179 = .ok (.iastore, 1) := by decide +kernel
theorem dX10_creeperLine_180 : decode cX10_creeperLine 180 = .ok (.aload_n 0, 1) := by decide +kernel
theorem dX10_creeperLine_181 : decode cX10_creeperLine 181 = .ok (.getfield 23, 3) := by decide +kernel
theorem dX10_creeperLine_184 : decode cX10_creeperLine 184 = .ok (.bipush 86, 2) := by decide +kernel
theorem dX10_creeperLine_186 : decode cX10_creeperLine 186 = .ok (.iload_n 1, 1) := by decide +kernel
theorem dX10_creeperLine_187 : decode cX10_creeperLine 187 = .ok (.iadd, 1) := by decide +kernel
theorem dX10_creeperLine_188 : decode cX10_creeperLine 188 = .ok (.aload_n 0, 1) := by decide +kernel
theorem dX10_creeperLine_189 : decode cX10_creeperLine 189 = .ok (.iconst 1, 1) := by decide +kernel
theorem dX10_creeperLine_190 : decode cX10_creeperLine 190 = .ok (.iconst 5, 1) := by decide +kernel
theorem dX10_creeperLine_191 : decode cX10_creeperLine 191 = .ok (.invokevirtual 152, 3) := by decide +kernel
theorem dX10_creeperLine_194 : decode cX10_creeperLine 194 = .ok (.iastore, 1) := by decide +kernel
theorem dX10_creeperLine_195 : decode cX10_creeperLine 195 = .ok (.goto 47, 3) := by decide +kernel
theorem dX10_creeperLine_198 : decode cX10_creeperLine 198 = .ok (.aload_n 0, 1) := by decide +kernel
theorem dX10_creeperLine_199 : decode cX10_creeperLine 199 = .ok (.ldc 142, 2) := by decide +kernel
theorem dX10_creeperLine_201 : decode cX10_creeperLine 201 = .ok (.invokevirtual 121, 3) := by decide +kernel
theorem dX10_creeperLine_204 : decode cX10_creeperLine 204 = .ok (.ifCond .eq 32, 3) := by decide +kernel
theorem dX10_creeperLine_207 : decode cX10_creeperLine 207 = .ok (.aload_n 0, 1) := by decide +kernel
theorem dX10_creeperLine_208 : decode cX10_creeperLine 208 = .ok (.getfield 23, 3) := by decide +kernel
theorem dX10_creeperLine_211 : decode cX10_creeperLine 211 = .ok (.bipush 81, 2) := by decide +kernel
theorem dX10_creeperLine_213 : decode cX10_creeperLine 213 = .ok (.iload_n 1, 1) := by decide +kernel
theorem dX10_creeperLine_214 : decode cX10_creeperLine 214 = .ok (.iadd, 1) := by decide +kernel
theorem dX10_creeperLine_215 : decode cX10_creeperLine 215 = .ok (.iconst 2, 1) := by decide +kernel
theorem dX10_creeperLine_216 : decode cX10_creeperLine 216 = .ok (.iastore, 1) := by decide +kernel
theorem dX10_creeperLine_217 : decode cX10_creeperLine 217 = .ok (.aload_n 0, 1) := by decide +kernel
theorem dX10_creeperLine_218 : decode cX10_creeperLine 218 = .ok (.getfield 23, 3) := by decide +kernel
theorem dX10_creeperLine_221 : decode cX10_creeperLine 221 = .ok (.bipush 86, 2) := by decide +kernel
theorem dX10_creeperLine_223 : decode cX10_creeperLine 223 = .ok (.iload_n 1, 1) := by decide +kernel
theorem dX10_creeperLine_224 : decode cX10_creeperLine 224 = .ok (.iadd, 1) := by decide +kernel
theorem dX10_creeperLine_225 : decode cX10_creeperLine 225 = .ok (.aload_n 0, 1) := by decide +kernel
theorem dX10_creeperLine_226 : decode cX10_creeperLine 226 = .ok (.iconst 1, 1) := by decide +kernel
theorem dX10_creeperLine_227 : decode cX10_creeperLine 227 = .ok (.bipush 20, 2) := by decide +kernel
theorem dX10_creeperLine_229 : decode cX10_creeperLine 229 = .ok (.invokevirtual 152, 3) := by decide +kernel
theorem dX10_creeperLine_232 : decode cX10_creeperLine 232 = .ok (.iastore, 1) := by decide +kernel
theorem dX10_creeperLine_233 : decode cX10_creeperLine 233 = .ok (.goto 9, 3) := by decide +kernel
theorem dX10_creeperLine_236 : decode cX10_creeperLine 236 = .ok (.aload_n 0, 1) := by decide +kernel
theorem dX10_creeperLine_237 : decode cX10_creeperLine 237 = .ok (.ldc 138, 2) := by decide +kernel
theorem dX10_creeperLine_239 : decode cX10_creeperLine 239 = .ok (.invokevirtual 148, 3) := by decide +kernel
theorem dX10_creeperLine_242 : decode cX10_creeperLine 242 = .ok (.aload_n 0, 1) := by decide +kernel
theorem dX10_creeperLine_243 : decode cX10_creeperLine 243 = .ok (.getfield 23, 3) := by decide +kernel
theorem dX10_creeperLine_246 : decode cX10_creeperLine 246 = .ok (.bipush 95, 2) := by decide +kernel
theorem dX10_creeperLine_248 : decode cX10_creeperLine 248 = .ok (.dup2, 1) := by decide +kernel
theorem dX10_creeperLine_249 : decode cX10_creeperLine 249 = .ok (.iaload, 1) := by decide +kernel
theorem dX10_creeperLine_250 : decode cX10_creeperLine 250 = .ok (.iconst 1, 1) := by decide +kernel
theorem dX10_creeperLine_251 : decode cX10_creeperLine 251 = .ok (.iadd, 1) := by decide +kernel
theorem dX10_creeperLine_252 : decode cX10_creeperLine 252 = .ok (.iastore, 1) := by decide +kernel
theorem dX10_creeperLine_253 : decode cX10_creeperLine 253 = .ok (.return_, 1) := by decide +kernel
def f_X10_creeperLine  (M : Mm) : Option (Mm) :=
  jn (fun (s1 : Int32) (M2 : Mm) => bv (f_X10_begins s1 M2) fun M32_4 => if (M32_4 81 13) = 0 then (bv (f_X10_newName  M32_4) fun M52_6 => bd (f_X10_told 34 (nI 0) ((M52_6 85 1) - (nI 1)) M52_6) fun v75_9 M75_8 => gd (inb ((nI 56) + (M32_4 85 95)) 141) <| bd (f_X10_told 42 (nI 1) (nI 20) (mset M75_8 85 ((nI 56) + (M32_4 85 95)).toNatClampNeg v75_9)) fun v93_11 M93_10 => gd (inb ((nI 61) + (M32_4 85 95)) 141) <| bd (f_X10_told 43 (nI 0) (nI 100) (mset M93_10 85 ((nI 61) + (M32_4 85 95)).toNatClampNeg v93_11)) fun v111_13 M111_12 => gd (inb ((nI 66) + (M32_4 85 95)) 141) <| bd (f_X10_told 44 (nI 60) (nI 199) (mset M111_12 85 ((nI 66) + (M32_4 85 95)).toNatClampNeg v111_13)) fun v131_15 M131_14 => gd (inb ((nI 71) + (M32_4 85 95)) 141) <| bd (f_X10_told 45 (nI 0) (nI 100) (mset M131_14 85 ((nI 71) + (M32_4 85 95)).toNatClampNeg v131_15)) fun v149_17 M149_16 => gd (inb ((nI 76) + (M32_4 85 95)) 141) <| if ((mset M149_16 85 ((nI 76) + (M32_4 85 95)).toNatClampNeg v149_17) 81 13) = 0 then (bd (f_X10_takes 40 (mset M149_16 85 ((nI 76) + (M32_4 85 95)).toNatClampNeg v149_17)) fun v164_19 M164_18 => jn (fun (M20 : Mm) => some ((mset M20 85 95 ((M20 85 95) + (nI 1))))) fun j21 => if v164_19 = 0 then (bd (f_X10_takes 41 M164_18) fun v201_23 M201_22 => if v201_23 = 0 then (bv (f_X10_must 39 M201_22) fun M239_24 => j21  M239_24) else (gd (inb ((nI 81) + (M32_4 85 95)) 141) <| bd (f_X10_number (nI 1) (nI 20) (mset M201_22 85 ((nI 81) + (M32_4 85 95)).toNatClampNeg (nI 2))) fun v229_27 M229_26 => gd (inb ((nI 86) + (M32_4 85 95)) 141) <| j21  (mset M229_26 85 ((nI 86) + (M32_4 85 95)).toNatClampNeg v229_27))) else (gd (inb ((nI 81) + (M32_4 85 95)) 141) <| bd (f_X10_number (nI 1) (nI 5) (mset M164_18 85 ((nI 81) + (M32_4 85 95)).toNatClampNeg (nI 1))) fun v191_30 M191_29 => gd (inb ((nI 86) + (M32_4 85 95)) 141) <| j21  (mset M191_29 85 ((nI 86) + (M32_4 85 95)).toNatClampNeg v191_30))) else (some ((mset M149_16 85 ((nI 76) + (M32_4 85 95)).toNatClampNeg v149_17)))) else (some M32_4)) fun j3 => if (M 85 95) = (nI 5) then (j3 (nI 5) M) else (if (M 85 91) = 0 then (j3 (nI 6) M) else (j3 (nI 0) M))
set_option maxHeartbeats 4000000 in
set_option maxRecDepth 100000 in
theorem s_X10_creeperLine {l : Launch} {B : BT} (hA : bA B = false) {d : Nat} {M' : Mm}  {M : Mm}  (h : f_X10_creeperLine  M = some M') : Con l B LY (d + 8) yX10_creeperLine cX10_creeperLine 2 none 0 0 [.ref 81] 97 M (PV M') := by
  refine con_of (by decide) (Nat.le_of_ble_eq_true rfl) ?_
  show GG l B LY (d + 8) yX10_creeperLine cX10_creeperLine 2 none 0 0 (PV M') 97 0 0 0 [(0, .ref 81)] [] M
  rw [f_X10_creeperLine] at h
  refine g_aload_n dX10_creeperLine_0 rfl 0 rfl ?_
  refine g_aload_n dX10_creeperLine_1 rfl 0 rfl ?_
  refine m_getr (k := 16) okX10 rfl rfl (by decide) w_1285 rfl dX10_creeperLine_2 ?_
  refine g_bipush (v := (nI 95)) dX10_creeperLine_5 (by decide) ?_
  refine m_ialdL (k := 95) rfl rfl (by decide) dX10_creeperLine_7 ?_
  refine g_iconst (v := (nI 5)) dX10_creeperLine_8 (by decide) ?_
  obtain ⟨j3, ej3, h⟩ := jn_e h
  have hj3 : ∀ (s1 : Int32) (M2 : Mm), j3 s1 M2 = some M' → GG l B LY (d + 8) yX10_creeperLine cX10_creeperLine 2 none 0 0 (PV M') 97 0 0 32 [(0, .ref 81)] [.int s1, .ref 81] M2 := by
    intro s1 M2 h
    rw [ej3] at h
    obtain ⟨M32_4, eM32_4, h⟩ := bv_e h
    refine m_callVv (As := [.int s1]) (st := []) (s_X10_begins (d := d + 5) hA  eM32_4) rfl okX10 ck_X10_begins w_1421 rfl (Nat.le_of_ble_eq_true rfl) dX10_creeperLine_32 ?_
    refine g_aload_n dX10_creeperLine_35 rfl 0 rfl ?_
    refine m_geti (k := 13) okX10 rfl rfl (by decide) w_1282 rfl dX10_creeperLine_36 ?_
    refine g_if_eq (tgt := 43) dX10_creeperLine_39 (by decide) (fun c33 => ?_) (fun c33 => ?_)
    · replace h := ite_p c33 h
      refine g_aload_n dX10_creeperLine_43 rfl 0 rfl ?_
      refine m_getr (k := 16) okX10 rfl rfl (by decide) w_1285 rfl dX10_creeperLine_44 ?_
      refine g_bipush (v := (nI 95)) dX10_creeperLine_47 (by decide) ?_
      refine m_ialdL (k := 95) rfl rfl (by decide) dX10_creeperLine_49 ?_
      refine g_istore_n (lv' := [(1, .int (M32_4 85 95)), (0, .ref 81)]) dX10_creeperLine_50 rfl (by decide) rfl ?_
      refine g_aload_n dX10_creeperLine_51 rfl 1 rfl ?_
      obtain ⟨M52_6, eM52_6, h⟩ := bv_e h
      refine m_callVv (As := []) (st := []) (s_X10_newName (d := d + 2) hA  eM52_6) rfl okX10 ck_X10_newName w_1480 rfl (Nat.le_of_ble_eq_true rfl) dX10_creeperLine_52 ?_
      refine g_aload_n dX10_creeperLine_55 rfl 1 rfl ?_
      refine m_getr (k := 16) okX10 rfl rfl (by decide) w_1285 rfl dX10_creeperLine_56 ?_
      refine g_bipush (v := (nI 56)) dX10_creeperLine_59 (by decide) ?_
      refine g_iload_n dX10_creeperLine_61 rfl 0 rfl ?_
      refine g_iadd dX10_creeperLine_62 ?_
      refine g_aload_n dX10_creeperLine_63 rfl 1 rfl ?_
      refine g_ldcS (j := 34) rfl dX10_creeperLine_64 ?_
      refine g_iconst (v := (nI 0)) dX10_creeperLine_66 (by decide) ?_
      refine g_aload_n dX10_creeperLine_67 rfl 1 rfl ?_
      refine m_getr (k := 16) okX10 rfl rfl (by decide) w_1285 rfl dX10_creeperLine_68 ?_
      refine g_iconst (v := (nI 1)) dX10_creeperLine_71 (by decide) ?_
      refine m_ialdL (k := 1) rfl rfl (by decide) dX10_creeperLine_72 ?_
      refine g_iconst (v := (nI 1)) dX10_creeperLine_73 (by decide) ?_
      refine g_isub dX10_creeperLine_74 ?_
      obtain ⟨v75_9, M75_8, eM75_8, h⟩ := bd_e h
      refine m_callVi (As := [.ref (1000 + 34), .int (nI 0), .int ((M52_6 85 1) - (nI 1))]) (st := [.int ((nI 56) + (M32_4 85 95)), .ref 85]) (s_X10_told (d := d + 0) hA (by decide) eM75_8) rfl okX10 ck_X10_told w_1430 rfl (Nat.le_of_ble_eq_true rfl) dX10_creeperLine_75 ?_
      obtain ⟨hz, h⟩ := gd_s h
      refine m_iast hA rfl hz dX10_creeperLine_78 ?_
      refine g_aload_n dX10_creeperLine_79 rfl 1 rfl ?_
      refine m_getr (k := 16) okX10 rfl rfl (by decide) w_1285 rfl dX10_creeperLine_80 ?_
      refine g_bipush (v := (nI 61)) dX10_creeperLine_83 (by decide) ?_
      refine g_iload_n dX10_creeperLine_85 rfl 0 rfl ?_
      refine g_iadd dX10_creeperLine_86 ?_
      refine g_aload_n dX10_creeperLine_87 rfl 1 rfl ?_
      refine g_ldcS (j := 42) rfl dX10_creeperLine_88 ?_
      refine g_iconst (v := (nI 1)) dX10_creeperLine_90 (by decide) ?_
      refine g_bipush (v := (nI 20)) dX10_creeperLine_91 (by decide) ?_
      obtain ⟨v93_11, M93_10, eM93_10, h⟩ := bd_e h
      refine m_callVi (As := [.ref (1000 + 42), .int (nI 1), .int (nI 20)]) (st := [.int ((nI 61) + (M32_4 85 95)), .ref 85]) (s_X10_told (d := d + 0) hA (by decide) eM93_10) rfl okX10 ck_X10_told w_1430 rfl (Nat.le_of_ble_eq_true rfl) dX10_creeperLine_93 ?_
      obtain ⟨hz, h⟩ := gd_s h
      refine m_iast hA rfl hz dX10_creeperLine_96 ?_
      refine g_aload_n dX10_creeperLine_97 rfl 1 rfl ?_
      refine m_getr (k := 16) okX10 rfl rfl (by decide) w_1285 rfl dX10_creeperLine_98 ?_
      refine g_bipush (v := (nI 66)) dX10_creeperLine_101 (by decide) ?_
      refine g_iload_n dX10_creeperLine_103 rfl 0 rfl ?_
      refine g_iadd dX10_creeperLine_104 ?_
      refine g_aload_n dX10_creeperLine_105 rfl 1 rfl ?_
      refine g_ldcS (j := 43) rfl dX10_creeperLine_106 ?_
      refine g_iconst (v := (nI 0)) dX10_creeperLine_108 (by decide) ?_
      refine g_bipush (v := (nI 100)) dX10_creeperLine_109 (by decide) ?_
      obtain ⟨v111_13, M111_12, eM111_12, h⟩ := bd_e h
      refine m_callVi (As := [.ref (1000 + 43), .int (nI 0), .int (nI 100)]) (st := [.int ((nI 66) + (M32_4 85 95)), .ref 85]) (s_X10_told (d := d + 0) hA (by decide) eM111_12) rfl okX10 ck_X10_told w_1430 rfl (Nat.le_of_ble_eq_true rfl) dX10_creeperLine_111 ?_
      obtain ⟨hz, h⟩ := gd_s h
      refine m_iast hA rfl hz dX10_creeperLine_114 ?_
      refine g_aload_n dX10_creeperLine_115 rfl 1 rfl ?_
      refine m_getr (k := 16) okX10 rfl rfl (by decide) w_1285 rfl dX10_creeperLine_116 ?_
      refine g_bipush (v := (nI 71)) dX10_creeperLine_119 (by decide) ?_
      refine g_iload_n dX10_creeperLine_121 rfl 0 rfl ?_
      refine g_iadd dX10_creeperLine_122 ?_
      refine g_aload_n dX10_creeperLine_123 rfl 1 rfl ?_
      refine g_ldcS (j := 44) rfl dX10_creeperLine_124 ?_
      refine g_bipush (v := (nI 60)) dX10_creeperLine_126 (by decide) ?_
      refine g_sipush (v := (nI 199)) dX10_creeperLine_128 (by decide) ?_
      obtain ⟨v131_15, M131_14, eM131_14, h⟩ := bd_e h
      refine m_callVi (As := [.ref (1000 + 44), .int (nI 60), .int (nI 199)]) (st := [.int ((nI 71) + (M32_4 85 95)), .ref 85]) (s_X10_told (d := d + 0) hA (by decide) eM131_14) rfl okX10 ck_X10_told w_1430 rfl (Nat.le_of_ble_eq_true rfl) dX10_creeperLine_131 ?_
      obtain ⟨hz, h⟩ := gd_s h
      refine m_iast hA rfl hz dX10_creeperLine_134 ?_
      refine g_aload_n dX10_creeperLine_135 rfl 1 rfl ?_
      refine m_getr (k := 16) okX10 rfl rfl (by decide) w_1285 rfl dX10_creeperLine_136 ?_
      refine g_bipush (v := (nI 76)) dX10_creeperLine_139 (by decide) ?_
      refine g_iload_n dX10_creeperLine_141 rfl 0 rfl ?_
      refine g_iadd dX10_creeperLine_142 ?_
      refine g_aload_n dX10_creeperLine_143 rfl 1 rfl ?_
      refine g_ldcS (j := 45) rfl dX10_creeperLine_144 ?_
      refine g_iconst (v := (nI 0)) dX10_creeperLine_146 (by decide) ?_
      refine g_bipush (v := (nI 100)) dX10_creeperLine_147 (by decide) ?_
      obtain ⟨v149_17, M149_16, eM149_16, h⟩ := bd_e h
      refine m_callVi (As := [.ref (1000 + 45), .int (nI 0), .int (nI 100)]) (st := [.int ((nI 76) + (M32_4 85 95)), .ref 85]) (s_X10_told (d := d + 0) hA (by decide) eM149_16) rfl okX10 ck_X10_told w_1430 rfl (Nat.le_of_ble_eq_true rfl) dX10_creeperLine_149 ?_
      obtain ⟨hz, h⟩ := gd_s h
      refine m_iast hA rfl hz dX10_creeperLine_152 ?_
      refine g_aload_n dX10_creeperLine_153 rfl 1 rfl ?_
      refine m_geti (k := 13) okX10 rfl rfl (by decide) w_1282 rfl dX10_creeperLine_154 ?_
      refine g_if_eq (tgt := 161) dX10_creeperLine_157 (by decide) (fun c32 => ?_) (fun c32 => ?_)
      · replace h := ite_p c32 h
        refine g_aload_n dX10_creeperLine_161 rfl 1 rfl ?_
        refine g_ldcS (j := 40) rfl dX10_creeperLine_162 ?_
        obtain ⟨v164_19, M164_18, eM164_18, h⟩ := bd_e h
        refine m_callVi (As := [.ref (1000 + 40)]) (st := []) (s_X10_takes (d := d + 2) hA (by decide) eM164_18) rfl okX10 ck_X10_takes w_1438 rfl (Nat.le_of_ble_eq_true rfl) dX10_creeperLine_164 ?_
        obtain ⟨j21, ej21, h⟩ := jn_e h
        have hj21 : ∀ (M20 : Mm), j21 M20 = some M' → GG l B LY (d + 8) yX10_creeperLine cX10_creeperLine 2 none 0 0 (PV M') 97 0 0 242 [(0, .ref 81)] [] M20 := by
          intro M20 h
          rw [ej21] at h
          refine g_aload_n dX10_creeperLine_242 rfl 0 rfl ?_
          refine m_getr (k := 16) okX10 rfl rfl (by decide) w_1285 rfl dX10_creeperLine_243 ?_
          refine g_bipush (v := (nI 95)) dX10_creeperLine_246 (by decide) ?_
          refine g_dup2 dX10_creeperLine_248 rfl rfl ?_
          refine m_ialdL (k := 95) rfl rfl (by decide) dX10_creeperLine_249 ?_
          refine g_iconst (v := (nI 1)) dX10_creeperLine_250 (by decide) ?_
          refine g_iadd dX10_creeperLine_251 ?_
          refine m_iastL (k := 95) hA rfl rfl (by decide) dX10_creeperLine_252 ?_
          exact g_vret rfl (pv_of h) dX10_creeperLine_253
        refine g_if_eq (tgt := 198) dX10_creeperLine_167 (by decide) (fun c31 => ?_) (fun c31 => ?_)
        · replace h := ite_p c31 h
          refine g_aload_n dX10_creeperLine_198 rfl 1 rfl ?_
          refine g_ldcS (j := 41) rfl dX10_creeperLine_199 ?_
          obtain ⟨v201_23, M201_22, eM201_22, h⟩ := bd_e h
          refine m_callVi (As := [.ref (1000 + 41)]) (st := []) (s_X10_takes (d := d + 2) hA (by decide) eM201_22) rfl okX10 ck_X10_takes w_1438 rfl (Nat.le_of_ble_eq_true rfl) dX10_creeperLine_201 ?_
          refine g_if_eq (tgt := 236) dX10_creeperLine_204 (by decide) (fun c28 => ?_) (fun c28 => ?_)
          · replace h := ite_p c28 h
            refine g_aload_n dX10_creeperLine_236 rfl 1 rfl ?_
            refine g_ldcS (j := 39) rfl dX10_creeperLine_237 ?_
            obtain ⟨M239_24, eM239_24, h⟩ := bv_e h
            refine m_callVv (As := [.ref (1000 + 39)]) (st := []) (s_X10_must (d := d + 1) hA (by decide) eM239_24) rfl okX10 ck_X10_must w_1434 rfl (Nat.le_of_ble_eq_true rfl) dX10_creeperLine_239 ?_
            refine g_sub [1] (lv' := [(0, .ref 81)]) rfl ?_
            exact hj21  _ h
          · replace h := ite_n c28 h
            refine g_aload_n dX10_creeperLine_207 rfl 1 rfl ?_
            refine m_getr (k := 16) okX10 rfl rfl (by decide) w_1285 rfl dX10_creeperLine_208 ?_
            refine g_bipush (v := (nI 81)) dX10_creeperLine_211 (by decide) ?_
            refine g_iload_n dX10_creeperLine_213 rfl 0 rfl ?_
            refine g_iadd dX10_creeperLine_214 ?_
            refine g_iconst (v := (nI 2)) dX10_creeperLine_215 (by decide) ?_
            obtain ⟨hz, h⟩ := gd_s h
            refine m_iast hA rfl hz dX10_creeperLine_216 ?_
            refine g_aload_n dX10_creeperLine_217 rfl 1 rfl ?_
            refine m_getr (k := 16) okX10 rfl rfl (by decide) w_1285 rfl dX10_creeperLine_218 ?_
            refine g_bipush (v := (nI 86)) dX10_creeperLine_221 (by decide) ?_
            refine g_iload_n dX10_creeperLine_223 rfl 0 rfl ?_
            refine g_iadd dX10_creeperLine_224 ?_
            refine g_aload_n dX10_creeperLine_225 rfl 1 rfl ?_
            refine g_iconst (v := (nI 1)) dX10_creeperLine_226 (by decide) ?_
            refine g_bipush (v := (nI 20)) dX10_creeperLine_227 (by decide) ?_
            obtain ⟨v229_27, M229_26, eM229_26, h⟩ := bd_e h
            refine m_callVi (As := [.int (nI 1), .int (nI 20)]) (st := [.int ((nI 86) + (M32_4 85 95)), .ref 85]) (s_X10_number (d := d + 5) hA  eM229_26) rfl okX10 ck_X10_number w_1442 rfl (Nat.le_of_ble_eq_true rfl) dX10_creeperLine_229 ?_
            obtain ⟨hz, h⟩ := gd_s h
            refine m_iast hA rfl hz dX10_creeperLine_232 ?_
            refine g_goto (tgt := 242) dX10_creeperLine_233 (by decide) ?_
            refine g_sub [1] (lv' := [(0, .ref 81)]) rfl ?_
            exact hj21  _ h
        · replace h := ite_n c31 h
          refine g_aload_n dX10_creeperLine_170 rfl 1 rfl ?_
          refine m_getr (k := 16) okX10 rfl rfl (by decide) w_1285 rfl dX10_creeperLine_171 ?_
          refine g_bipush (v := (nI 81)) dX10_creeperLine_174 (by decide) ?_
          refine g_iload_n dX10_creeperLine_176 rfl 0 rfl ?_
          refine g_iadd dX10_creeperLine_177 ?_
          refine g_iconst (v := (nI 1)) dX10_creeperLine_178 (by decide) ?_
          obtain ⟨hz, h⟩ := gd_s h
          refine m_iast hA rfl hz dX10_creeperLine_179 ?_
          refine g_aload_n dX10_creeperLine_180 rfl 1 rfl ?_
          refine m_getr (k := 16) okX10 rfl rfl (by decide) w_1285 rfl dX10_creeperLine_181 ?_
          refine g_bipush (v := (nI 86)) dX10_creeperLine_184 (by decide) ?_
          refine g_iload_n dX10_creeperLine_186 rfl 0 rfl ?_
          refine g_iadd dX10_creeperLine_187 ?_
          refine g_aload_n dX10_creeperLine_188 rfl 1 rfl ?_
          refine g_iconst (v := (nI 1)) dX10_creeperLine_189 (by decide) ?_
          refine g_iconst (v := (nI 5)) dX10_creeperLine_190 (by decide) ?_
          obtain ⟨v191_30, M191_29, eM191_29, h⟩ := bd_e h
          refine m_callVi (As := [.int (nI 1), .int (nI 5)]) (st := [.int ((nI 86) + (M32_4 85 95)), .ref 85]) (s_X10_number (d := d + 5) hA  eM191_29) rfl okX10 ck_X10_number w_1442 rfl (Nat.le_of_ble_eq_true rfl) dX10_creeperLine_191 ?_
          obtain ⟨hz, h⟩ := gd_s h
          refine m_iast hA rfl hz dX10_creeperLine_194 ?_
          refine g_goto (tgt := 242) dX10_creeperLine_195 (by decide) ?_
          refine g_sub [1] (lv' := [(0, .ref 81)]) rfl ?_
          exact hj21  _ h
      · replace h := ite_n c32 h
        exact g_vret rfl (pv_of h) dX10_creeperLine_160
    · replace h := ite_n c33 h
      exact g_vret rfl (pv_of h) dX10_creeperLine_42
  refine g_icmp_ne (tgt := 16) dX10_creeperLine_9 (by decide) (fun c35 => ?_) (fun c35 => ?_)
  · replace h := ite_n c35 h
    refine g_aload_n dX10_creeperLine_16 rfl 0 rfl ?_
    refine m_getr (k := 16) okX10 rfl rfl (by decide) w_1285 rfl dX10_creeperLine_17 ?_
    refine g_bipush (v := (nI 91)) dX10_creeperLine_20 (by decide) ?_
    refine m_ialdL (k := 91) rfl rfl (by decide) dX10_creeperLine_22 ?_
    refine g_if_ne (tgt := 31) dX10_creeperLine_23 (by decide) (fun c34 => ?_) (fun c34 => ?_)
    · replace h := ite_n c34 h
      refine g_iconst (v := (nI 0)) dX10_creeperLine_31 (by decide) ?_
      refine g_sub [0] (lv' := [(0, .ref 81)]) rfl ?_
      exact hj3 _ _ h
    · replace h := ite_p c34 h
      refine g_bipush (v := (nI 6)) dX10_creeperLine_26 (by decide) ?_
      refine g_goto (tgt := 32) dX10_creeperLine_28 (by decide) ?_
      refine g_sub [0] (lv' := [(0, .ref 81)]) rfl ?_
      exact hj3 _ _ h
  · replace h := ite_p c35 h
    refine g_iconst (v := (nI 5)) dX10_creeperLine_12 (by decide) ?_
    refine g_goto (tgt := 32) dX10_creeperLine_13 (by decide) ?_
    refine g_sub [0] (lv' := [(0, .ref 81)]) rfl ?_
    exact hj3 _ _ h
theorem ck_X10_creeperLine : CKV yX10_creeperLine cX10_creeperLine 2 none 0 := ⟨⟨by decide, by decide, by decide +kernel⟩, w_1479, w_81, ⟨w_1478, w_27⟩, by decide⟩
theorem dX10_readLine_0 : decode cX10_readLine 0 = .ok (.aload_n 0, 1) := by decide +kernel
theorem dX10_readLine_1 : decode cX10_readLine 1 = .ok (.ldc 128, 2) := by decide +kernel
theorem dX10_readLine_3 : decode cX10_readLine 3 = .ok (.invokevirtual 114, 3) := by decide +kernel
theorem dX10_readLine_6 : decode cX10_readLine 6 = .ok (.ifCond .eq 10, 3) := by decide +kernel
theorem dX10_readLine_9 : decode cX10_readLine 9 = .ok (.aload_n 0, 1) := by decide +kernel
theorem dX10_readLine_10 : decode cX10_readLine 10 = .ok (.invokevirtual 178, 3) := by decide +kernel
theorem dX10_readLine_13 : decode cX10_readLine 13 = .ok (.goto 76, 3) := by decide +kernel
theorem dX10_readLine_16 : decode cX10_readLine 16 = .ok (.aload_n 0, 1) := by decide +kernel
theorem dX10_readLine_17 : decode cX10_readLine 17 = .ok (.ldc 130, 2) := by decide +kernel
theorem dX10_readLine_19 : decode cX10_readLine 19 = .ok (.invokevirtual 114, 3) := by decide +kernel
theorem dX10_readLine_22 : decode cX10_readLine 22 = .ok (.ifCond .eq 10, 3) := by decide +kernel
theorem dX10_readLine_25 : decode cX10_readLine 25 = .ok (.aload_n 0, 1) := by decide +kernel
theorem dX10_readLine_26 : decode cX10_readLine 26 = .ok (.invokevirtual 181, 3) := by decide +kernel
theorem dX10_readLine_29 : decode cX10_readLine 29 = .ok (.goto 60, 3) := by decide +kernel
theorem dX10_readLine_32 : decode cX10_readLine 32 = .ok (.aload_n 0, 1) := by decide +kernel
theorem dX10_readLine_33 : decode cX10_readLine 33 = .ok (.ldc 132, 2) := by decide +kernel
theorem dX10_readLine_35 : decode cX10_readLine 35 = .ok (.invokevirtual 114, 3) := by decide +kernel
theorem dX10_readLine_38 : decode cX10_readLine 38 = .ok (.ifCond .eq 10, 3) := by decide +kernel
theorem dX10_readLine_41 : decode cX10_readLine 41 = .ok (.aload_n 0, 1) := by decide +kernel
theorem dX10_readLine_42 : decode cX10_readLine 42 = .ok (.invokevirtual 184, 3) := by decide +kernel
theorem dX10_readLine_45 : decode cX10_readLine 45 = .ok (.goto 44, 3) := by decide +kernel
theorem dX10_readLine_48 : decode cX10_readLine 48 = .ok (.aload_n 0, 1) := by decide +kernel
theorem dX10_readLine_49 : decode cX10_readLine 49 = .ok (.ldc 134, 2) := by decide +kernel
theorem dX10_readLine_51 : decode cX10_readLine 51 = .ok (.invokevirtual 114, 3) := by decide +kernel
theorem dX10_readLine_54 : decode cX10_readLine 54 = .ok (.ifCond .eq 10, 3) := by decide +kernel
theorem dX10_readLine_57 : decode cX10_readLine 57 = .ok (.aload_n 0, 1) := by decide +kernel
theorem dX10_readLine_58 : decode cX10_readLine 58 = .ok (.invokevirtual 187, 3) := by decide +kernel
theorem dX10_readLine_61 : decode cX10_readLine 61 = .ok (.goto 28, 3) := by decide +kernel
theorem dX10_readLine_64 : decode cX10_readLine 64 = .ok (.aload_n 0, 1) := by decide +kernel
theorem dX10_readLine_65 : decode cX10_readLine 65 = .ok (.ldc 136, 2) := by decide +kernel
theorem dX10_readLine_67 : decode cX10_readLine 67 = .ok (.invokevirtual 114, 3) := by decide +kernel
theorem dX10_readLine_70 : decode cX10_readLine 70 = .ok (.ifCond .eq 10, 3) := by decide +kernel
theorem dX10_readLine_73 : decode cX10_readLine 73 = .ok (.aload_n 0, 1) := by decide +kernel
theorem dX10_readLine_74 : decode cX10_readLine 74 = .ok (.invokevirtual 190, 3) := by decide +kernel
theorem dX10_readLine_77 : decode cX10_readLine 77 = .ok (.goto 12, 3) := by decide +kernel
theorem dX10_readLine_80 : decode cX10_readLine 80 = .ok (.aload_n 0, 1) := by decide +kernel
theorem dX10_readLine_81 : decode cX10_readLine 81 = .ok (.iconst 1, 1) := by decide +kernel
theorem dX10_readLine_82 : decode cX10_readLine 82 = .ok (.aload_n 0, 1) := by decide +kernel
theorem dX10_readLine_83 : decode cX10_readLine 83 = .ok (.getfield 78, 3) := by decide +kernel
theorem dX10_readLine_86 : decode cX10_readLine 86 = .ok (.invokevirtual 124, 3) := by decide +kernel
theorem dX10_readLine_89 : decode cX10_readLine 89 = .ok (.return_, 1) := by decide +kernel
def f_X10_readLine  (M : Mm) : Option (Mm) :=
  bd (f_X10_isWord 23 M) fun v3_2 M3_1 => if v3_2 = 0 then (bd (f_X10_isWord 27 M3_1) fun v19_4 M19_3 => if v19_4 = 0 then (bd (f_X10_isWord 28 M19_3) fun v35_6 M35_5 => if v35_6 = 0 then (bd (f_X10_isWord 33 M35_5) fun v51_8 M51_7 => if v51_8 = 0 then (bd (f_X10_isWord 38 M51_7) fun v67_10 M67_9 => if v67_10 = 0 then (bv (f_X10_wrong (nI 1) (M67_9 81 4) M67_9) fun M86_11 => some M86_11) else (bv (f_X10_creeperLine  M67_9) fun M74_13 => some M74_13)) else (bv (f_X10_gravelLine  M51_7) fun M58_16 => some M58_16)) else (bv (f_X10_oneLine  M35_5) fun M42_19 => some M42_19)) else (bv (f_X10_verseLine  M19_3) fun M26_22 => some M26_22)) else (bv (f_X10_yardLine  M3_1) fun M10_25 => some M10_25)
set_option maxHeartbeats 4000000 in
set_option maxRecDepth 100000 in
theorem s_X10_readLine {l : Launch} {B : BT} (hA : bA B = false) {d : Nat} {M' : Mm}  {M : Mm}  (h : f_X10_readLine  M = some M') : Con l B LY (d + 9) yX10_readLine cX10_readLine 1 none 0 0 [.ref 81] 97 M (PV M') := by
  refine con_of (by decide) (Nat.le_of_ble_eq_true rfl) ?_
  show GG l B LY (d + 9) yX10_readLine cX10_readLine 1 none 0 0 (PV M') 97 0 0 0 [(0, .ref 81)] [] M
  rw [f_X10_readLine] at h
  refine g_aload_n dX10_readLine_0 rfl 0 rfl ?_
  refine g_ldcS (j := 23) rfl dX10_readLine_1 ?_
  obtain ⟨v3_2, M3_1, eM3_1, h⟩ := bd_e h
  refine m_callVi (As := [.ref (1000 + 23)]) (st := []) (s_X10_isWord (d := d + 4) hA (by decide) eM3_1) rfl okX10 ck_X10_isWord w_1411 rfl (Nat.le_of_ble_eq_true rfl) dX10_readLine_3 ?_
  refine g_if_eq (tgt := 16) dX10_readLine_6 (by decide) (fun c27 => ?_) (fun c27 => ?_)
  · replace h := ite_p c27 h
    refine g_aload_n dX10_readLine_16 rfl 0 rfl ?_
    refine g_ldcS (j := 27) rfl dX10_readLine_17 ?_
    obtain ⟨v19_4, M19_3, eM19_3, h⟩ := bd_e h
    refine m_callVi (As := [.ref (1000 + 27)]) (st := []) (s_X10_isWord (d := d + 4) hA (by decide) eM19_3) rfl okX10 ck_X10_isWord w_1411 rfl (Nat.le_of_ble_eq_true rfl) dX10_readLine_19 ?_
    refine g_if_eq (tgt := 32) dX10_readLine_22 (by decide) (fun c24 => ?_) (fun c24 => ?_)
    · replace h := ite_p c24 h
      refine g_aload_n dX10_readLine_32 rfl 0 rfl ?_
      refine g_ldcS (j := 28) rfl dX10_readLine_33 ?_
      obtain ⟨v35_6, M35_5, eM35_5, h⟩ := bd_e h
      refine m_callVi (As := [.ref (1000 + 28)]) (st := []) (s_X10_isWord (d := d + 4) hA (by decide) eM35_5) rfl okX10 ck_X10_isWord w_1411 rfl (Nat.le_of_ble_eq_true rfl) dX10_readLine_35 ?_
      refine g_if_eq (tgt := 48) dX10_readLine_38 (by decide) (fun c21 => ?_) (fun c21 => ?_)
      · replace h := ite_p c21 h
        refine g_aload_n dX10_readLine_48 rfl 0 rfl ?_
        refine g_ldcS (j := 33) rfl dX10_readLine_49 ?_
        obtain ⟨v51_8, M51_7, eM51_7, h⟩ := bd_e h
        refine m_callVi (As := [.ref (1000 + 33)]) (st := []) (s_X10_isWord (d := d + 4) hA (by decide) eM51_7) rfl okX10 ck_X10_isWord w_1411 rfl (Nat.le_of_ble_eq_true rfl) dX10_readLine_51 ?_
        refine g_if_eq (tgt := 64) dX10_readLine_54 (by decide) (fun c18 => ?_) (fun c18 => ?_)
        · replace h := ite_p c18 h
          refine g_aload_n dX10_readLine_64 rfl 0 rfl ?_
          refine g_ldcS (j := 38) rfl dX10_readLine_65 ?_
          obtain ⟨v67_10, M67_9, eM67_9, h⟩ := bd_e h
          refine m_callVi (As := [.ref (1000 + 38)]) (st := []) (s_X10_isWord (d := d + 4) hA (by decide) eM67_9) rfl okX10 ck_X10_isWord w_1411 rfl (Nat.le_of_ble_eq_true rfl) dX10_readLine_67 ?_
          refine g_if_eq (tgt := 80) dX10_readLine_70 (by decide) (fun c15 => ?_) (fun c15 => ?_)
          · replace h := ite_p c15 h
            refine g_aload_n dX10_readLine_80 rfl 0 rfl ?_
            refine g_iconst (v := (nI 1)) dX10_readLine_81 (by decide) ?_
            refine g_aload_n dX10_readLine_82 rfl 0 rfl ?_
            refine m_geti (k := 4) okX10 rfl rfl (by decide) w_1273 rfl dX10_readLine_83 ?_
            obtain ⟨M86_11, eM86_11, h⟩ := bv_e h
            refine m_callVv (As := [.int (nI 1), .int (M67_9 81 4)]) (st := []) (s_X10_wrong (d := d + 8) hA  eM86_11) rfl okX10 ck_X10_wrong w_1425 rfl (Nat.le_of_ble_eq_true rfl) dX10_readLine_86 ?_
            exact g_vret rfl (pv_of h) dX10_readLine_89
          · replace h := ite_n c15 h
            refine g_aload_n dX10_readLine_73 rfl 0 rfl ?_
            obtain ⟨M74_13, eM74_13, h⟩ := bv_e h
            refine m_callVv (As := []) (st := []) (s_X10_creeperLine (d := d + 0) hA  eM74_13) rfl okX10 ck_X10_creeperLine w_1476 rfl (Nat.le_of_ble_eq_true rfl) dX10_readLine_74 ?_
            refine g_goto (tgt := 89) dX10_readLine_77 (by decide) ?_
            exact g_vret rfl (pv_of h) dX10_readLine_89
        · replace h := ite_n c18 h
          refine g_aload_n dX10_readLine_57 rfl 0 rfl ?_
          obtain ⟨M58_16, eM58_16, h⟩ := bv_e h
          refine m_callVv (As := []) (st := []) (s_X10_gravelLine (d := d + 0) hA  eM58_16) rfl okX10 ck_X10_gravelLine w_1467 rfl (Nat.le_of_ble_eq_true rfl) dX10_readLine_58 ?_
          refine g_goto (tgt := 89) dX10_readLine_61 (by decide) ?_
          exact g_vret rfl (pv_of h) dX10_readLine_89
      · replace h := ite_n c21 h
        refine g_aload_n dX10_readLine_41 rfl 0 rfl ?_
        obtain ⟨M42_19, eM42_19, h⟩ := bv_e h
        refine m_callVv (As := []) (st := []) (s_X10_oneLine (d := d + 0) hA  eM42_19) rfl okX10 ck_X10_oneLine w_1458 rfl (Nat.le_of_ble_eq_true rfl) dX10_readLine_42 ?_
        refine g_goto (tgt := 89) dX10_readLine_45 (by decide) ?_
        exact g_vret rfl (pv_of h) dX10_readLine_89
    · replace h := ite_n c24 h
      refine g_aload_n dX10_readLine_25 rfl 0 rfl ?_
      obtain ⟨M26_22, eM26_22, h⟩ := bv_e h
      refine m_callVv (As := []) (st := []) (s_X10_verseLine (d := d + 5) hA  eM26_22) rfl okX10 ck_X10_verseLine w_1449 rfl (Nat.le_of_ble_eq_true rfl) dX10_readLine_26 ?_
      refine g_goto (tgt := 89) dX10_readLine_29 (by decide) ?_
      exact g_vret rfl (pv_of h) dX10_readLine_89
  · replace h := ite_n c27 h
    refine g_aload_n dX10_readLine_9 rfl 0 rfl ?_
    obtain ⟨M10_25, eM10_25, h⟩ := bv_e h
    refine m_callVv (As := []) (st := []) (s_X10_yardLine (d := d + 0) hA  eM10_25) rfl okX10 ck_X10_yardLine w_1417 rfl (Nat.le_of_ble_eq_true rfl) dX10_readLine_10 ?_
    refine g_goto (tgt := 89) dX10_readLine_13 (by decide) ?_
    exact g_vret rfl (pv_of h) dX10_readLine_89
theorem ck_X10_readLine : CKV yX10_readLine cX10_readLine 1 none 0 := ⟨⟨by decide, by decide, by decide +kernel⟩, w_1409, w_81, ⟨w_1408, w_14⟩, by decide⟩
theorem dX10_begin_0 : decode cX10_begin 0 = .ok (.iconst 0, 1) := by decide +kernel
theorem dX10_begin_1 : decode cX10_begin 1 = .ok (.istore_n 2, 1) := by decide +kernel
theorem dX10_begin_2 : decode cX10_begin 2 = .ok (.iload_n 2, 1) := by decide +kernel
theorem dX10_begin_3 : decode cX10_begin 3 = .ok (.bipush 44, 2) := by decide +kernel
theorem dX10_begin_5 : decode cX10_begin 5 = .ok (.if_icmp .ge 16, 3) := by decide +kernel
theorem dX10_begin_8 : decode cX10_begin 8 = .ok (.aload_n 0, 1) := by decide +kernel
theorem dX10_begin_9 : decode cX10_begin 9 = .ok (.getfield 26, 3) := by decide +kernel
theorem dX10_begin_12 : decode cX10_begin 12 = .ok (.iload_n 2, 1) := by decide +kernel
theorem dX10_begin_13 : decode cX10_begin 13 = .ok (.iconst 0, 1) := by decide +kernel
theorem dX10_begin_14 : decode cX10_begin 14 = .ok (.iastore, 1) := by decide +kernel
theorem dX10_begin_15 : decode cX10_begin 15 = .ok (.iinc 2 1, 3) := by decide +kernel
theorem dX10_begin_18 : decode cX10_begin 18 = .ok (.goto (-16), 3) := by decide +kernel
theorem dX10_begin_21 : decode cX10_begin 21 = .ok (.aload_n 0, 1) := by decide +kernel
theorem dX10_begin_22 : decode cX10_begin 22 = .ok (.getfield 26, 3) := by decide +kernel
theorem dX10_begin_25 : decode cX10_begin 25 = .ok (.iconst 5, 1) := by decide +kernel
theorem dX10_begin_26 : decode cX10_begin 26 = .ok (.bipush (-2), 2) := by decide +kernel
theorem dX10_begin_28 : decode cX10_begin 28 = .ok (.iastore, 1) := by decide +kernel
theorem dX10_begin_29 : decode cX10_begin 29 = .ok (.aload_n 0, 1) := by decide +kernel
theorem dX10_begin_30 : decode cX10_begin 30 = .ok (.getfield 26, 3) := by decide +kernel
theorem dX10_begin_33 : decode cX10_begin 33 = .ok (.bipush 6, 2) := by decide +kernel
theorem dX10_begin_35 : decode cX10_begin 35 = .ok (.iload_n 1, 1) := by decide +kernel
theorem dX10_begin_36 : decode cX10_begin 36 = .ok (.iastore, 1) := by decide +kernel
theorem dX10_begin_37 : decode cX10_begin 37 = .ok (.iconst 0, 1) := by decide +kernel
theorem dX10_begin_38 : decode cX10_begin 38 = .ok (.istore_n 2, 1) := by decide +kernel
theorem dX10_begin_39 : decode cX10_begin 39 = .ok (.iload_n 2, 1) := by decide +kernel
theorem dX10_begin_40 : decode cX10_begin 40 = .ok (.iconst 5, 1) := by decide +kernel
theorem dX10_begin_41 : decode cX10_begin 41 = .ok (.if_icmp .ge 20, 3) := by decide +kernel
theorem dX10_begin_44 : decode cX10_begin 44 = .ok (.aload_n 0, 1) := by decide +kernel
theorem dX10_begin_45 : decode cX10_begin 45 = .ok (.getfield 26, 3) := by decide +kernel
theorem dX10_begin_48 : decode cX10_begin 48 = .ok (.bipush 19, 2) := by decide +kernel
theorem dX10_begin_50 : decode cX10_begin 50 = .ok (.iload_n 2, 1) := by decide +kernel
theorem dX10_begin_51 : decode cX10_begin 51 = .ok (.iadd, 1) := by decide +kernel
theorem dX10_begin_52 : decode cX10_begin 52 = .ok (.bipush (-2), 2) := by decide +kernel
theorem dX10_begin_54 : decode cX10_begin 54 = .ok (.iastore, 1) := by decide +kernel
theorem dX10_begin_55 : decode cX10_begin 55 = .ok (.iinc 2 1, 3) := by decide +kernel
theorem dX10_begin_58 : decode cX10_begin 58 = .ok (.goto (-19), 3) := by decide +kernel
theorem dX10_begin_61 : decode cX10_begin 61 = .ok (.return_, 1) := by decide +kernel
def lp_X10_begin_2 (y1 : Int32) (k21 : Mm → Option (Mm)) : Nat → Int32 → Mm → Option (Mm)
  | 0, _, _ => none
  | n + 1, y2, M =>
    if (nI 44) ≤ y2 then (k21  M) else (gd (inb y2 44) <| lp_X10_begin_2 y1 k21 n (y2 + (nI 1)) (mset M 86 y2.toNatClampNeg (nI 0)))
def lp_X10_begin_39   : Nat → Int32 → Mm → Option (Mm)
  | 0, _, _ => none
  | n + 1, y2, M =>
    if (nI 5) ≤ y2 then (some M) else (gd (inb ((nI 19) + y2) 44) <| lp_X10_begin_39 n (y2 + (nI 1)) (mset M 86 ((nI 19) + y2).toNatClampNeg (-2 : Int32)))
def f_X10_begin (x1 : Int32) (M : Mm) : Option (Mm) :=
  lp_X10_begin_2 x1 (fun  (M2 : Mm) => lp_X10_begin_39   N0 (nI 0) (mset (mset M2 86 5 (-2 : Int32)) 86 6 x1)) N0 (nI 0) M
set_option maxHeartbeats 4000000 in
set_option maxRecDepth 100000 in
theorem sl_X10_begin_2 {l : Launch} {B : BT} (hA : bA B = false) {d : Nat} {M' : Mm} {y1 : Int32}  {k21 : Mm → Option (Mm)} (hk21 : ∀  (M9 : Mm), k21  M9 = some M' → GG l B LY (d + 0) yX10_begin cX10_begin 3 none 0 0 (PV M') 97 0 0 21 [(0, .ref 81), (1, .int y1)] [] M9) :
    ∀ (n : Nat) (y2 : Int32) (M : Mm), lp_X10_begin_2 y1 k21 n y2 M = some M' → GG l B LY (d + 0) yX10_begin cX10_begin 3 none 0 0 (PV M') 97 0 0 2 [(0, .ref 81), (1, .int y1), (2, .int y2)] [] M := by
  intro n
  induction n with
  | zero => intro y2 M h; cases h
  | succ n ih =>
    intro y2 M h
    rw [lp_X10_begin_2] at h
    refine g_iload_n dX10_begin_2 rfl 2 rfl ?_
    refine g_bipush (v := (nI 44)) dX10_begin_3 (by decide) ?_
    refine g_icmp_ge (tgt := 21) dX10_begin_5 (by decide) (fun c1 => ?_) (fun c1 => ?_)
    · replace h := ite_p c1 h
      refine g_sub [0, 1] (lv' := [(0, .ref 81), (1, .int y1)]) rfl ?_
      exact hk21  _ h
    · replace h := ite_n c1 h
      refine g_aload_n dX10_begin_8 rfl 0 rfl ?_
      refine m_getr (k := 17) okX10 rfl rfl (by decide) w_1286 rfl dX10_begin_9 ?_
      refine g_iload_n dX10_begin_12 rfl 2 rfl ?_
      refine g_iconst (v := (nI 0)) dX10_begin_13 (by decide) ?_
      obtain ⟨hz, h⟩ := gd_s h
      refine m_iast hA rfl hz dX10_begin_14 ?_
      refine g_iinc (v := (y2 + (nI 1))) (lv' := [(2, .int (y2 + (nI 1))), (0, .ref 81), (1, .int y1)]) dX10_begin_15 2 rfl rfl (by decide) rfl ?_
      refine g_goto (tgt := 2) dX10_begin_18 (by decide) ?_
      refine g_sub [1, 2, 0] (lv' := [(0, .ref 81), (1, .int y1), (2, .int (y2 + (nI 1)))]) rfl ?_
      exact ih _  _ h
set_option maxHeartbeats 4000000 in
set_option maxRecDepth 100000 in
theorem sl_X10_begin_39 {l : Launch} {B : BT} (hA : bA B = false) {d : Nat} {M' : Mm}     :
    ∀ (n : Nat) (y2 : Int32) (M : Mm), lp_X10_begin_39 n y2 M = some M' → GG l B LY (d + 0) yX10_begin cX10_begin 3 none 0 0 (PV M') 97 0 0 39 [(0, .ref 81), (2, .int y2)] [] M := by
  intro n
  induction n with
  | zero => intro y2 M h; cases h
  | succ n ih =>
    intro y2 M h
    rw [lp_X10_begin_39] at h
    refine g_iload_n dX10_begin_39 rfl 1 rfl ?_
    refine g_iconst (v := (nI 5)) dX10_begin_40 (by decide) ?_
    refine g_icmp_ge (tgt := 61) dX10_begin_41 (by decide) (fun c3 => ?_) (fun c3 => ?_)
    · replace h := ite_p c3 h
      exact g_vret rfl (pv_of h) dX10_begin_61
    · replace h := ite_n c3 h
      refine g_aload_n dX10_begin_44 rfl 0 rfl ?_
      refine m_getr (k := 17) okX10 rfl rfl (by decide) w_1286 rfl dX10_begin_45 ?_
      refine g_bipush (v := (nI 19)) dX10_begin_48 (by decide) ?_
      refine g_iload_n dX10_begin_50 rfl 1 rfl ?_
      refine g_iadd dX10_begin_51 ?_
      refine g_bipush (v := (-2 : Int32)) dX10_begin_52 (by decide) ?_
      obtain ⟨hz, h⟩ := gd_s h
      refine m_iast hA rfl hz dX10_begin_54 ?_
      refine g_iinc (v := (y2 + (nI 1))) (lv' := [(2, .int (y2 + (nI 1))), (0, .ref 81)]) dX10_begin_55 1 rfl rfl (by decide) rfl ?_
      refine g_goto (tgt := 39) dX10_begin_58 (by decide) ?_
      refine g_sub [1, 0] (lv' := [(0, .ref 81), (2, .int (y2 + (nI 1)))]) rfl ?_
      exact ih _  _ h
set_option maxHeartbeats 4000000 in
set_option maxRecDepth 100000 in
theorem s_X10_begin {l : Launch} {B : BT} (hA : bA B = false) {d : Nat} {M' : Mm} {x1 : Int32} {M : Mm}  (h : f_X10_begin x1 M = some M') : Con l B LY (d + 0) yX10_begin cX10_begin 3 none 0 0 [.ref 81, .int x1] 97 M (PV M') := by
  refine con_of (by decide) (Nat.le_of_ble_eq_true rfl) ?_
  show GG l B LY (d + 0) yX10_begin cX10_begin 3 none 0 0 (PV M') 97 0 0 0 [(0, .ref 81), (1, .int x1)] [] M
  rw [f_X10_begin] at h
  refine g_iconst (v := (nI 0)) dX10_begin_0 (by decide) ?_
  refine g_istore_n (lv' := [(2, .int (nI 0)), (0, .ref 81), (1, .int x1)]) dX10_begin_1 rfl (by decide) rfl ?_
  refine g_sub [1, 2, 0] (lv' := [(0, .ref 81), (1, .int x1), (2, .int (nI 0))]) rfl ?_
  refine sl_X10_begin_2 hA  ?_ _ _ _ h
  · intro  M2 h
    refine g_aload_n dX10_begin_21 rfl 0 rfl ?_
    refine m_getr (k := 17) okX10 rfl rfl (by decide) w_1286 rfl dX10_begin_22 ?_
    refine g_iconst (v := (nI 5)) dX10_begin_25 (by decide) ?_
    refine g_bipush (v := (-2 : Int32)) dX10_begin_26 (by decide) ?_
    refine m_iastL (k := 5) hA rfl rfl (by decide) dX10_begin_28 ?_
    refine g_aload_n dX10_begin_29 rfl 0 rfl ?_
    refine m_getr (k := 17) okX10 rfl rfl (by decide) w_1286 rfl dX10_begin_30 ?_
    refine g_bipush (v := (nI 6)) dX10_begin_33 (by decide) ?_
    refine g_iload_n dX10_begin_35 rfl 1 rfl ?_
    refine m_iastL (k := 6) hA rfl rfl (by decide) dX10_begin_36 ?_
    refine g_iconst (v := (nI 0)) dX10_begin_37 (by decide) ?_
    refine g_istore_n (lv' := [(2, .int (nI 0)), (0, .ref 81), (1, .int x1)]) dX10_begin_38 rfl (by decide) rfl ?_
    refine g_sub [1, 0] (lv' := [(0, .ref 81), (2, .int (nI 0))]) rfl ?_
    refine sl_X10_begin_39 hA   _ _ _ h
theorem ck_X10_begin : CKV yX10_begin cX10_begin 3 none 1 := ⟨⟨by decide, by decide, by decide +kernel⟩, w_1494, w_81, ⟨w_1493, w_29⟩, by decide⟩
theorem dX10_game_0 : decode cX10_game 0 = .ok (.aload_n 0, 1) := by decide +kernel
theorem dX10_game_1 : decode cX10_game 1 = .ok (.invokevirtual 156, 3) := by decide +kernel
theorem dX10_game_4 : decode cX10_game 4 = .ok (.iload_n 1, 1) := by decide +kernel
theorem dX10_game_5 : decode cX10_game 5 = .ok (.iconst 0, 1) := by decide +kernel
theorem dX10_game_6 : decode cX10_game 6 = .ok (.aload_n 0, 1) := by decide +kernel
theorem dX10_game_7 : decode cX10_game 7 = .ok (.getfield 65, 3) := by decide +kernel
theorem dX10_game_10 : decode cX10_game 10 = .ok (.invokestatic 144, 3) := by decide +kernel
theorem dX10_game_13 : decode cX10_game 13 = .ok (.ifCond .ne 9, 3) := by decide +kernel
theorem dX10_game_16 : decode cX10_game 16 = .ok (.aload_n 0, 1) := by decide +kernel
theorem dX10_game_17 : decode cX10_game 17 = .ok (.iconst 2, 1) := by decide +kernel
theorem dX10_game_18 : decode cX10_game 18 = .ok (.invokevirtual 159, 3) := by decide +kernel
theorem dX10_game_21 : decode cX10_game 21 = .ok (.ireturn, 1) := by decide +kernel
theorem dX10_game_22 : decode cX10_game 22 = .ok (.aload_n 0, 1) := by decide +kernel
theorem dX10_game_23 : decode cX10_game 23 = .ok (.iconst 0, 1) := by decide +kernel
theorem dX10_game_24 : decode cX10_game 24 = .ok (.putfield 65, 3) := by decide +kernel
theorem dX10_game_27 : decode cX10_game 27 = .ok (.aload_n 0, 1) := by decide +kernel
theorem dX10_game_28 : decode cX10_game 28 = .ok (.iconst 0, 1) := by decide +kernel
theorem dX10_game_29 : decode cX10_game 29 = .ok (.putfield 101, 3) := by decide +kernel
theorem dX10_game_32 : decode cX10_game 32 = .ok (.aload_n 0, 1) := by decide +kernel
theorem dX10_game_33 : decode cX10_game 33 = .ok (.iconst 0, 1) := by decide +kernel
theorem dX10_game_34 : decode cX10_game 34 = .ok (.putfield 97, 3) := by decide +kernel
theorem dX10_game_37 : decode cX10_game 37 = .ok (.iconst 0, 1) := by decide +kernel
theorem dX10_game_38 : decode cX10_game 38 = .ok (.istore_n 2, 1) := by decide +kernel
theorem dX10_game_39 : decode cX10_game 39 = .ok (.iload_n 2, 1) := by decide +kernel
theorem dX10_game_40 : decode cX10_game 40 = .ok (.sipush 141, 3) := by decide +kernel
theorem dX10_game_43 : decode cX10_game 43 = .ok (.if_icmp .ge 16, 3) := by decide +kernel
theorem dX10_game_46 : decode cX10_game 46 = .ok (.aload_n 0, 1) := by decide +kernel
theorem dX10_game_47 : decode cX10_game 47 = .ok (.getfield 23, 3) := by decide +kernel
theorem dX10_game_50 : decode cX10_game 50 = .ok (.iload_n 2, 1) := by decide +kernel
theorem dX10_game_51 : decode cX10_game 51 = .ok (.iconst 0, 1) := by decide +kernel
theorem dX10_game_52 : decode cX10_game 52 = .ok (.iastore, 1) := by decide +kernel
theorem dX10_game_53 : decode cX10_game 53 = .ok (.iinc 2 1, 3) := by decide +kernel
theorem dX10_game_56 : decode cX10_game 56 = .ok (.goto (-17), 3) := by decide +kernel
theorem dX10_game_59 : decode cX10_game 59 = .ok (.aload_n 0, 1) := by decide +kernel
theorem dX10_game_60 : decode cX10_game 60 = .ok (.iload_n 1, 1) := by decide +kernel
theorem dX10_game_61 : decode cX10_game 61 = .ok (.putfield 68, 3) := by decide +kernel
theorem dX10_game_64 : decode cX10_game 64 = .ok (.aload_n 0, 1) := by decide +kernel
theorem dX10_game_65 : decode cX10_game 65 = .ok (.iconst 0, 1) := by decide +kernel
theorem dX10_game_66 : decode cX10_game 66 = .ok (.putfield 71, 3) := by decide +kernel
theorem dX10_game_69 : decode cX10_game 69 = .ok (.aload_n 0, 1) := by decide +kernel
theorem dX10_game_70 : decode cX10_game 70 = .ok (.invokevirtual 118, 3) := by decide +kernel
theorem dX10_game_73 : decode cX10_game 73 = .ok (.aload_n 0, 1) := by decide +kernel
theorem dX10_game_74 : decode cX10_game 74 = .ok (.invokevirtual 162, 3) := by decide +kernel
theorem dX10_game_77 : decode cX10_game 77 = .ok (.aload_n 0, 1) := by decide +kernel
theorem dX10_game_78 : decode cX10_game 78 = .ok (.getfield 97, 3) := by decide +kernel
theorem dX10_game_81 : decode cX10_game 81 = .ok (.ifCond .ne 23, 3) := by decide +kernel
theorem dX10_game_84 : decode cX10_game 84 = .ok (.aload_n 0, 1) := by decide +kernel
theorem dX10_game_85 : decode cX10_game 85 = .ok (.getfield 87, 3) := by decide +kernel
theorem dX10_game_88 : decode cX10_game 88 = .ok (.bipush 59, 2) := by decide +kernel
theorem dX10_game_90 : decode cX10_game 90 = .ok (.if_icmp .ne 14, 3) := by decide +kernel
theorem dX10_game_93 : decode cX10_game 93 = .ok (.aload_n 0, 1) := by decide +kernel
theorem dX10_game_94 : decode cX10_game 94 = .ok (.invokevirtual 118, 3) := by decide +kernel
theorem dX10_game_97 : decode cX10_game 97 = .ok (.aload_n 0, 1) := by decide +kernel
theorem dX10_game_98 : decode cX10_game 98 = .ok (.invokevirtual 162, 3) := by decide +kernel
theorem dX10_game_101 : decode cX10_game 101 = .ok (.goto (-24), 3) := by decide +kernel
theorem dX10_game_104 : decode cX10_game 104 = .ok (.aload_n 0, 1) := by decide +kernel
theorem dX10_game_105 : decode cX10_game 105 = .ok (.getfield 97, 3) := by decide +kernel
theorem dX10_game_108 : decode cX10_game 108 = .ok (.ifCond .ne 19, 3) := by decide +kernel
theorem dX10_game_111 : decode cX10_game 111 = .ok (.aload_n 0, 1) := by decide +kernel
theorem dX10_game_112 : decode cX10_game 112 = .ok (.getfield 87, 3) := by decide +kernel
theorem dX10_game_115 : decode cX10_game 115 = .ok (.ifCond .eq 12, 3) := by decide +kernel
theorem dX10_game_118 : decode cX10_game 118 = .ok (.aload_n 0, 1) := by decide +kernel
theorem dX10_game_119 : decode cX10_game 119 = .ok (.iconst 1, 1) := by decide +kernel
theorem dX10_game_120 : decode cX10_game 120 = .ok (.aload_n 0, 1) := by decide +kernel
theorem dX10_game_121 : decode cX10_game 121 = .ok (.getfield 78, 3) := by decide +kernel
theorem dX10_game_124 : decode cX10_game 124 = .ok (.invokevirtual 124, 3) := by decide +kernel
theorem dX10_game_127 : decode cX10_game 127 = .ok (.aload_n 0, 1) := by decide +kernel
theorem dX10_game_128 : decode cX10_game 128 = .ok (.getfield 97, 3) := by decide +kernel
theorem dX10_game_131 : decode cX10_game 131 = .ok (.ifCond .ne 53, 3) := by decide +kernel
theorem dX10_game_134 : decode cX10_game 134 = .ok (.aload_n 0, 1) := by decide +kernel
theorem dX10_game_135 : decode cX10_game 135 = .ok (.getfield 23, 3) := by decide +kernel
theorem dX10_game_138 : decode cX10_game 138 = .ok (.bipush 91, 2) := by decide +kernel
theorem dX10_game_140 : decode cX10_game 140 = .ok (.iaload, 1) := by decide +kernel
theorem dX10_game_141 : decode cX10_game 141 = .ok (.ifCond .eq 33, 3) := by decide +kernel
theorem dX10_game_144 : decode cX10_game 144 = .ok (.aload_n 0, 1) := by decide +kernel
theorem dX10_game_145 : decode cX10_game 145 = .ok (.getfield 23, 3) := by decide +kernel
theorem dX10_game_148 : decode cX10_game 148 = .ok (.bipush 92, 2) := by decide +kernel
theorem dX10_game_150 : decode cX10_game 150 = .ok (.iaload, 1) := by decide +kernel
theorem dX10_game_151 : decode cX10_game 151 = .ok (.ifCond .eq 23, 3) := by decide +kernel
theorem dX10_game_154 : decode cX10_game 154 = .ok (.aload_n 0, 1) := by decide +kernel
theorem dX10_game_155 : decode cX10_game 155 = .ok (.getfield 23, 3) := by decide +kernel
theorem dX10_game_158 : decode cX10_game 158 = .ok (.bipush 93, 2) := by decide +kernel
theorem dX10_game_160 : decode cX10_game 160 = .ok (.iaload, 1) := by decide +kernel
theorem dX10_game_161 : decode cX10_game 161 = .ok (.ifCond .eq 13, 3) := by decide +kernel
theorem dX10_game_164 : decode cX10_game 164 = .ok (.aload_n 0, 1) := by decide +kernel
theorem dX10_game_165 : decode cX10_game 165 = .ok (.getfield 23, 3) := by decide +kernel
theorem dX10_game_168 : decode cX10_game 168 = .ok (.bipush 95, 2) := by decide +kernel
theorem dX10_game_170 : decode cX10_game 170 = .ok (.iaload, 1) := by decide +kernel
theorem dX10_game_171 : decode cX10_game 171 = .ok (.ifCond .ne 13, 3) := by decide +kernel
theorem dX10_game_174 : decode cX10_game 174 = .ok (.aload_n 0, 1) := by decide +kernel
theorem dX10_game_175 : decode cX10_game 175 = .ok (.bipush 6, 2) := by decide +kernel
theorem dX10_game_177 : decode cX10_game 177 = .ok (.aload_n 0, 1) := by decide +kernel
theorem dX10_game_178 : decode cX10_game 178 = .ok (.getfield 78, 3) := by decide +kernel
theorem dX10_game_181 : decode cX10_game 181 = .ok (.invokevirtual 124, 3) := by decide +kernel
theorem dX10_game_184 : decode cX10_game 184 = .ok (.aload_n 0, 1) := by decide +kernel
theorem dX10_game_185 : decode cX10_game 185 = .ok (.getfield 97, 3) := by decide +kernel
theorem dX10_game_188 : decode cX10_game 188 = .ok (.ifCond .eq 9, 3) := by decide +kernel
theorem dX10_game_191 : decode cX10_game 191 = .ok (.aload_n 0, 1) := by decide +kernel
theorem dX10_game_192 : decode cX10_game 192 = .ok (.iconst 4, 1) := by decide +kernel
theorem dX10_game_193 : decode cX10_game 193 = .ok (.invokevirtual 159, 3) := by decide +kernel
theorem dX10_game_196 : decode cX10_game 196 = .ok (.ireturn, 1) := by decide +kernel
theorem dX10_game_197 : decode cX10_game 197 = .ok (.iconst 0, 1) := by decide +kernel
theorem dX10_game_198 : decode cX10_game 198 = .ok (.istore_n 2, 1) := by decide +kernel
theorem dX10_game_199 : decode cX10_game 199 = .ok (.iload_n 2, 1) := by decide +kernel
theorem dX10_game_200 : decode cX10_game 200 = .ok (.sipush 141, 3) := by decide +kernel
theorem dX10_game_203 : decode cX10_game 203 = .ok (.if_icmp .ge 21, 3) := by decide +kernel
theorem dX10_game_206 : decode cX10_game 206 = .ok (.aload_n 0, 1) := by decide +kernel
theorem dX10_game_207 : decode cX10_game 207 = .ok (.getfield 20, 3) := by decide +kernel
theorem dX10_game_210 : decode cX10_game 210 = .ok (.iload_n 2, 1) := by decide +kernel
theorem dX10_game_211 : decode cX10_game 211 = .ok (.aload_n 0, 1) := by decide +kernel
theorem dX10_game_212 : decode cX10_game 212 = .ok (.getfield 23, 3) := by decide +kernel
theorem dX10_game_215 : decode cX10_game 215 = .ok (.iload_n 2, 1) := by decide +kernel
theorem dX10_game_216 : decode cX10_game 216 = .ok (.iaload, 1) := by decide +kernel
theorem dX10_game_217 : decode cX10_game 217 = .ok (.iastore, 1) := by decide +kernel
theorem dX10_game_218 : decode cX10_game 218 = .ok (.iinc 2 1, 3) := by decide +kernel
theorem dX10_game_221 : decode cX10_game 221 = .ok (.goto (-22), 3) := by decide +kernel
theorem dX10_game_224 : decode cX10_game 224 = .ok (.aload_n 0, 1) := by decide +kernel
theorem dX10_game_225 : decode cX10_game 225 = .ok (.iconst 1, 1) := by decide +kernel
theorem dX10_game_226 : decode cX10_game 226 = .ok (.putfield 165, 3) := by decide +kernel
theorem dX10_game_229 : decode cX10_game 229 = .ok (.aload_n 0, 1) := by decide +kernel
theorem dX10_game_230 : decode cX10_game 230 = .ok (.iconst 0, 1) := by decide +kernel
theorem dX10_game_231 : decode cX10_game 231 = .ok (.invokevirtual 168, 3) := by decide +kernel
theorem dX10_game_234 : decode cX10_game 234 = .ok (.aload_n 0, 1) := by decide +kernel
theorem dX10_game_235 : decode cX10_game 235 = .ok (.iconst 0, 1) := by decide +kernel
theorem dX10_game_236 : decode cX10_game 236 = .ok (.putfield 172, 3) := by decide +kernel
theorem dX10_game_239 : decode cX10_game 239 = .ok (.aload_n 0, 1) := by decide +kernel
theorem dX10_game_240 : decode cX10_game 240 = .ok (.iconst 0, 1) := by decide +kernel
theorem dX10_game_241 : decode cX10_game 241 = .ok (.putfield 175, 3) := by decide +kernel
theorem dX10_game_244 : decode cX10_game 244 = .ok (.iconst 0, 1) := by decide +kernel
theorem dX10_game_245 : decode cX10_game 245 = .ok (.istore_n 2, 1) := by decide +kernel
theorem dX10_game_246 : decode cX10_game 246 = .ok (.iload_n 2, 1) := by decide +kernel
theorem dX10_game_247 : decode cX10_game 247 = .ok (.iconst 5, 1) := by decide +kernel
theorem dX10_game_248 : decode cX10_game 248 = .ok (.if_icmp .ge 23, 3) := by decide +kernel
theorem dX10_game_251 : decode cX10_game 251 = .ok (.aload_n 0, 1) := by decide +kernel
theorem dX10_game_252 : decode cX10_game 252 = .ok (.getfield 44, 3) := by decide +kernel
theorem dX10_game_255 : decode cX10_game 255 = .ok (.iload_n 2, 1) := by decide +kernel
theorem dX10_game_256 : decode cX10_game 256 = .ok (.iconst 0, 1) := by decide +kernel
theorem dX10_game_257 : decode cX10_game 257 = .ok (.iastore, 1) := by decide +kernel
theorem dX10_game_258 : decode cX10_game 258 = .ok (.aload_n 0, 1) := by decide +kernel
theorem dX10_game_259 : decode cX10_game 259 = .ok (.getfield 47, 3) := by decide +kernel
theorem dX10_game_262 : decode cX10_game 262 = .ok (.iload_n 2, 1) := by decide +kernel
theorem dX10_game_263 : decode cX10_game 263 = .ok (.iconst 0, 1) := by decide +kernel
theorem dX10_game_264 : decode cX10_game 264 = .ok (.iastore, 1) := by decide +kernel
theorem dX10_game_265 : decode cX10_game 265 = .ok (.iinc 2 1, 3) := by decide +kernel
theorem dX10_game_268 : decode cX10_game 268 = .ok (.goto (-22), 3) := by decide +kernel
theorem dX10_game_271 : decode cX10_game 271 = .ok (.aload_n 0, 1) := by decide +kernel
theorem dX10_game_272 : decode cX10_game 272 = .ok (.getfield 20, 3) := by decide +kernel
theorem dX10_game_275 : decode cX10_game 275 = .ok (.bipush 95, 2) := by decide +kernel
theorem dX10_game_277 : decode cX10_game 277 = .ok (.iaload, 1) := by decide +kernel
theorem dX10_game_278 : decode cX10_game 278 = .ok (.ireturn, 1) := by decide +kernel
def lp_X10_game_39 (y1 : Int32) (k59 : Mm → Option (Int32 × Mm)) : Nat → Int32 → Mm → Option (Int32 × Mm)
  | 0, _, _ => none
  | n + 1, y2, M =>
    if (nI 141) ≤ y2 then (k59  M) else (gd (inb y2 141) <| lp_X10_game_39 y1 k59 n (y2 + (nI 1)) (mset M 85 y2.toNatClampNeg (nI 0)))
def lp_X10_game_77  (k104 : Mm → Option (Int32 × Mm)) : Nat → Mm → Option (Int32 × Mm)
  | 0, _ => none
  | n + 1, M =>
    if (M 81 13) = 0 then (if (M 81 6) = (nI 59) then (bv (f_X10_next  M) fun M94_11 => bv (f_X10_readLine  M94_11) fun M98_13 => lp_X10_game_77 k104 n  M98_13) else (k104  M)) else (k104  M)
def lp_X10_game_199  (k224 : Mm → Option (Int32 × Mm)) : Nat → Int32 → Mm → Option (Int32 × Mm)
  | 0, _, _ => none
  | n + 1, y2, M =>
    if (nI 141) ≤ y2 then (k224  M) else (gd (inb y2 141) <| gd (inb y2 141) <| lp_X10_game_199 k224 n (y2 + (nI 1)) (mset M 84 y2.toNatClampNeg (M 85 y2.toNatClampNeg)))
def lp_X10_game_246  (k271 : Mm → Option (Int32 × Mm)) : Nat → Int32 → Mm → Option (Int32 × Mm)
  | 0, _, _ => none
  | n + 1, y2, M =>
    if (nI 5) ≤ y2 then (k271  M) else (gd (inb y2 5) <| gd (inb y2 5) <| lp_X10_game_246 k271 n (y2 + (nI 1)) (mset (mset M 91 y2.toNatClampNeg (nI 0)) 92 y2.toNatClampNeg (nI 0)))
def f_X10_game (x1 : Int32) (M : Mm) : Option (Int32 × Mm) :=
  bv (f_X10_good  M) fun M1_1 => bd (f_X10_within x1 (nI 0) (M1_1 81 2) M1_1) fun v10_4 M10_3 => if v10_4 = 0 then (bd (f_X10_no (nI 2) M10_3) fun v18_45 M18_44 => some (v18_45, M18_44)) else (lp_X10_game_39 x1 (fun  (M6 : Mm) => bv (f_X10_next  (mset (mset M6 81 3 x1) 81 5 (nI 0))) fun M70_7 => bv (f_X10_readLine  M70_7) fun M74_9 => lp_X10_game_77  (fun  (M17 : Mm) => jn (fun (M18 : Mm) => jn (fun (M20 : Mm) => if (M20 81 13) = 0 then (lp_X10_game_199  (fun  (M23 : Mm) => bv (f_X10_begin (nI 0) (mset M23 81 14 (nI 1))) fun M231_24 => lp_X10_game_246  (fun  (M27 : Mm) => some ((M27 84 95), M27)) N0 (nI 0) (mset (mset M231_24 81 19 (nI 0)) 81 26 (nI 0))) N0 (nI 0) M20) else (bd (f_X10_no (nI 4) M20) fun v193_29 M193_28 => some (v193_29, M193_28))) fun j21 => if (M18 81 13) = 0 then (jn (fun (M31 : Mm) => bv (f_X10_wrong (nI 6) (M31 81 4) M31) fun M181_33 => j21  M181_33) fun j32 => if (M18 85 91) = 0 then (j32  M18) else (if (M18 85 92) = 0 then (j32  M18) else (if (M18 85 93) = 0 then (j32  M18) else (if (M18 85 95) = 0 then (j32  M18) else (j21  M18))))) else (j21  M18)) fun j19 => if (M17 81 13) = 0 then (if (M17 81 6) = 0 then (j19  M17) else (bv (f_X10_wrong (nI 1) (M17 81 4) M17) fun M124_40 => j19  M124_40)) else (j19  M17)) N0  M74_9) N0 (nI 0) (mset (mset (mset M10_3 81 2 (nI 0)) 81 9 (nI 0)) 81 13 (nI 0)))
set_option maxHeartbeats 4000000 in
set_option maxRecDepth 100000 in
theorem sl_X10_game_39 {l : Launch} {B : BT} (hA : bA B = false) {d : Nat} {r : Int32} {M' : Mm} {y1 : Int32}  {k59 : Mm → Option (Int32 × Mm)} (hk59 : ∀  (M9 : Mm), k59  M9 = some (r, M') → GG l B LY (d + 10) yX10_game cX10_game 3 (some .int) 0 0 (PI r M') 97 0 0 59 [(0, .ref 81), (1, .int y1)] [] M9) :
    ∀ (n : Nat) (y2 : Int32) (M : Mm), lp_X10_game_39 y1 k59 n y2 M = some (r, M') → GG l B LY (d + 10) yX10_game cX10_game 3 (some .int) 0 0 (PI r M') 97 0 0 39 [(0, .ref 81), (1, .int y1), (2, .int y2)] [] M := by
  intro n
  induction n with
  | zero => intro y2 M h; cases h
  | succ n ih =>
    intro y2 M h
    rw [lp_X10_game_39] at h
    refine g_iload_n dX10_game_39 rfl 2 rfl ?_
    refine g_sipush (v := (nI 141)) dX10_game_40 (by decide) ?_
    refine g_icmp_ge (tgt := 59) dX10_game_43 (by decide) (fun c5 => ?_) (fun c5 => ?_)
    · replace h := ite_p c5 h
      refine g_sub [0, 1] (lv' := [(0, .ref 81), (1, .int y1)]) rfl ?_
      exact hk59  _ h
    · replace h := ite_n c5 h
      refine g_aload_n dX10_game_46 rfl 0 rfl ?_
      refine m_getr (k := 16) okX10 rfl rfl (by decide) w_1285 rfl dX10_game_47 ?_
      refine g_iload_n dX10_game_50 rfl 2 rfl ?_
      refine g_iconst (v := (nI 0)) dX10_game_51 (by decide) ?_
      obtain ⟨hz, h⟩ := gd_s h
      refine m_iast hA rfl hz dX10_game_52 ?_
      refine g_iinc (v := (y2 + (nI 1))) (lv' := [(2, .int (y2 + (nI 1))), (0, .ref 81), (1, .int y1)]) dX10_game_53 2 rfl rfl (by decide) rfl ?_
      refine g_goto (tgt := 39) dX10_game_56 (by decide) ?_
      refine g_sub [1, 2, 0] (lv' := [(0, .ref 81), (1, .int y1), (2, .int (y2 + (nI 1)))]) rfl ?_
      exact ih _  _ h
set_option maxHeartbeats 4000000 in
set_option maxRecDepth 100000 in
theorem sl_X10_game_77 {l : Launch} {B : BT} (hA : bA B = false) {d : Nat} {r : Int32} {M' : Mm}   {k104 : Mm → Option (Int32 × Mm)} (hk104 : ∀  (M9 : Mm), k104  M9 = some (r, M') → GG l B LY (d + 10) yX10_game cX10_game 3 (some .int) 0 0 (PI r M') 97 0 0 104 [(0, .ref 81)] [] M9) :
    ∀ (n : Nat)  (M : Mm), lp_X10_game_77 k104 n  M = some (r, M') → GG l B LY (d + 10) yX10_game cX10_game 3 (some .int) 0 0 (PI r M') 97 0 0 77 [(0, .ref 81)] [] M := by
  intro n
  induction n with
  | zero => intro  M h; cases h
  | succ n ih =>
    intro  M h
    rw [lp_X10_game_77] at h
    refine g_aload_n dX10_game_77 rfl 0 rfl ?_
    refine m_geti (k := 13) okX10 rfl rfl (by decide) w_1282 rfl dX10_game_78 ?_
    refine g_if_ne (tgt := 104) dX10_game_81 (by decide) (fun c16 => ?_) (fun c16 => ?_)
    · replace h := ite_n c16 h
      refine g_sub [0] (lv' := [(0, .ref 81)]) rfl ?_
      exact hk104  _ h
    · replace h := ite_p c16 h
      refine g_aload_n dX10_game_84 rfl 0 rfl ?_
      refine m_geti (k := 6) okX10 rfl rfl (by decide) w_1275 rfl dX10_game_85 ?_
      refine g_bipush (v := (nI 59)) dX10_game_88 (by decide) ?_
      refine g_icmp_ne (tgt := 104) dX10_game_90 (by decide) (fun c15 => ?_) (fun c15 => ?_)
      · replace h := ite_n c15 h
        refine g_sub [0] (lv' := [(0, .ref 81)]) rfl ?_
        exact hk104  _ h
      · replace h := ite_p c15 h
        refine g_aload_n dX10_game_93 rfl 0 rfl ?_
        obtain ⟨M94_11, eM94_11, h⟩ := bv_e h
        refine m_callVv (As := []) (st := []) (s_X10_next (d := d + 8) hA  eM94_11) rfl okX10 ck_X10_next w_1392 rfl (Nat.le_of_ble_eq_true rfl) dX10_game_94 ?_
        refine g_aload_n dX10_game_97 rfl 0 rfl ?_
        obtain ⟨M98_13, eM98_13, h⟩ := bv_e h
        refine m_callVv (As := []) (st := []) (s_X10_readLine (d := d + 0) hA  eM98_13) rfl okX10 ck_X10_readLine w_1406 rfl (Nat.le_of_ble_eq_true rfl) dX10_game_98 ?_
        refine g_goto (tgt := 77) dX10_game_101 (by decide) ?_
        refine g_sub [0] (lv' := [(0, .ref 81)]) rfl ?_
        exact ih   _ h
set_option maxHeartbeats 4000000 in
set_option maxRecDepth 100000 in
theorem sl_X10_game_199 {l : Launch} {B : BT} (hA : bA B = false) {d : Nat} {r : Int32} {M' : Mm}   {k224 : Mm → Option (Int32 × Mm)} (hk224 : ∀  (M9 : Mm), k224  M9 = some (r, M') → GG l B LY (d + 10) yX10_game cX10_game 3 (some .int) 0 0 (PI r M') 97 0 0 224 [(0, .ref 81)] [] M9) :
    ∀ (n : Nat) (y2 : Int32) (M : Mm), lp_X10_game_199 k224 n y2 M = some (r, M') → GG l B LY (d + 10) yX10_game cX10_game 3 (some .int) 0 0 (PI r M') 97 0 0 199 [(0, .ref 81), (2, .int y2)] [] M := by
  intro n
  induction n with
  | zero => intro y2 M h; cases h
  | succ n ih =>
    intro y2 M h
    rw [lp_X10_game_199] at h
    refine g_iload_n dX10_game_199 rfl 1 rfl ?_
    refine g_sipush (v := (nI 141)) dX10_game_200 (by decide) ?_
    refine g_icmp_ge (tgt := 224) dX10_game_203 (by decide) (fun c22 => ?_) (fun c22 => ?_)
    · replace h := ite_p c22 h
      refine g_sub [0] (lv' := [(0, .ref 81)]) rfl ?_
      exact hk224  _ h
    · replace h := ite_n c22 h
      refine g_aload_n dX10_game_206 rfl 0 rfl ?_
      refine m_getr (k := 15) okX10 rfl rfl (by decide) w_1284 rfl dX10_game_207 ?_
      refine g_iload_n dX10_game_210 rfl 1 rfl ?_
      refine g_aload_n dX10_game_211 rfl 0 rfl ?_
      refine m_getr (k := 16) okX10 rfl rfl (by decide) w_1285 rfl dX10_game_212 ?_
      refine g_iload_n dX10_game_215 rfl 1 rfl ?_
      obtain ⟨hz, h⟩ := gd_s h
      refine m_iald rfl hz dX10_game_216 ?_
      obtain ⟨hz, h⟩ := gd_s h
      refine m_iast hA rfl hz dX10_game_217 ?_
      refine g_iinc (v := (y2 + (nI 1))) (lv' := [(2, .int (y2 + (nI 1))), (0, .ref 81)]) dX10_game_218 1 rfl rfl (by decide) rfl ?_
      refine g_goto (tgt := 199) dX10_game_221 (by decide) ?_
      refine g_sub [1, 0] (lv' := [(0, .ref 81), (2, .int (y2 + (nI 1)))]) rfl ?_
      exact ih _  _ h
set_option maxHeartbeats 4000000 in
set_option maxRecDepth 100000 in
theorem sl_X10_game_246 {l : Launch} {B : BT} (hA : bA B = false) {d : Nat} {r : Int32} {M' : Mm}   {k271 : Mm → Option (Int32 × Mm)} (hk271 : ∀  (M9 : Mm), k271  M9 = some (r, M') → GG l B LY (d + 10) yX10_game cX10_game 3 (some .int) 0 0 (PI r M') 97 0 0 271 [(0, .ref 81)] [] M9) :
    ∀ (n : Nat) (y2 : Int32) (M : Mm), lp_X10_game_246 k271 n y2 M = some (r, M') → GG l B LY (d + 10) yX10_game cX10_game 3 (some .int) 0 0 (PI r M') 97 0 0 246 [(0, .ref 81), (2, .int y2)] [] M := by
  intro n
  induction n with
  | zero => intro y2 M h; cases h
  | succ n ih =>
    intro y2 M h
    rw [lp_X10_game_246] at h
    refine g_iload_n dX10_game_246 rfl 1 rfl ?_
    refine g_iconst (v := (nI 5)) dX10_game_247 (by decide) ?_
    refine g_icmp_ge (tgt := 271) dX10_game_248 (by decide) (fun c26 => ?_) (fun c26 => ?_)
    · replace h := ite_p c26 h
      refine g_sub [0] (lv' := [(0, .ref 81)]) rfl ?_
      exact hk271  _ h
    · replace h := ite_n c26 h
      refine g_aload_n dX10_game_251 rfl 0 rfl ?_
      refine m_getr (k := 24) okX10 rfl rfl (by decide) w_1293 rfl dX10_game_252 ?_
      refine g_iload_n dX10_game_255 rfl 1 rfl ?_
      refine g_iconst (v := (nI 0)) dX10_game_256 (by decide) ?_
      obtain ⟨hz, h⟩ := gd_s h
      refine m_iast hA rfl hz dX10_game_257 ?_
      refine g_aload_n dX10_game_258 rfl 0 rfl ?_
      refine m_getr (k := 25) okX10 rfl rfl (by decide) w_1294 rfl dX10_game_259 ?_
      refine g_iload_n dX10_game_262 rfl 1 rfl ?_
      refine g_iconst (v := (nI 0)) dX10_game_263 (by decide) ?_
      obtain ⟨hz, h⟩ := gd_s h
      refine m_iast hA rfl hz dX10_game_264 ?_
      refine g_iinc (v := (y2 + (nI 1))) (lv' := [(2, .int (y2 + (nI 1))), (0, .ref 81)]) dX10_game_265 1 rfl rfl (by decide) rfl ?_
      refine g_goto (tgt := 246) dX10_game_268 (by decide) ?_
      refine g_sub [1, 0] (lv' := [(0, .ref 81), (2, .int (y2 + (nI 1)))]) rfl ?_
      exact ih _  _ h
set_option maxHeartbeats 4000000 in
set_option maxRecDepth 100000 in
theorem s_X10_game {l : Launch} {B : BT} (hA : bA B = false) {d : Nat} {r : Int32} {M' : Mm} {x1 : Int32} {M : Mm}  (h : f_X10_game x1 M = some (r, M')) : Con l B LY (d + 10) yX10_game cX10_game 3 (some .int) 0 0 [.ref 81, .int x1] 97 M (PI r M') := by
  refine con_of (by decide) (Nat.le_of_ble_eq_true rfl) ?_
  show GG l B LY (d + 10) yX10_game cX10_game 3 (some .int) 0 0 (PI r M') 97 0 0 0 [(0, .ref 81), (1, .int x1)] [] M
  rw [f_X10_game] at h
  refine g_aload_n dX10_game_0 rfl 0 rfl ?_
  obtain ⟨M1_1, eM1_1, h⟩ := bv_e h
  refine m_callVv (As := []) (st := []) (s_X10_good (d := d + 9) hA  eM1_1) rfl okX10 ck_X10_good w_1381 rfl (Nat.le_of_ble_eq_true rfl) dX10_game_1 ?_
  refine g_iload_n dX10_game_4 rfl 1 rfl ?_
  refine g_iconst (v := (nI 0)) dX10_game_5 (by decide) ?_
  refine g_aload_n dX10_game_6 rfl 0 rfl ?_
  refine m_geti (k := 2) okX10 rfl rfl (by decide) w_1271 rfl dX10_game_7 ?_
  obtain ⟨v10_4, M10_3, eM10_3, h⟩ := bd_e h
  refine m_callSi (As := [.int x1, .int (nI 0), .int (M1_1 81 2)]) (st := []) (s_X10_within (d := d + 9) hA  eM10_3) ck_X10_within w_1385 rfl (Nat.le_of_ble_eq_true rfl) dX10_game_10 ?_
  refine g_if_ne (tgt := 22) dX10_game_13 (by decide) (fun c46 => ?_) (fun c46 => ?_)
  · replace h := ite_n c46 h
    refine g_aload_n dX10_game_22 rfl 0 rfl ?_
    refine g_iconst (v := (nI 0)) dX10_game_23 (by decide) ?_
    refine m_puti (k := 2) okX10 rfl rfl (by decide) w_1271 rfl rfl rfl dX10_game_24 ?_
    refine g_aload_n dX10_game_27 rfl 0 rfl ?_
    refine g_iconst (v := (nI 0)) dX10_game_28 (by decide) ?_
    refine m_puti (k := 9) okX10 rfl rfl (by decide) w_1278 rfl rfl rfl dX10_game_29 ?_
    refine g_aload_n dX10_game_32 rfl 0 rfl ?_
    refine g_iconst (v := (nI 0)) dX10_game_33 (by decide) ?_
    refine m_putz (k := 13) okX10 rfl rfl (by decide) w_1282 rfl rfl rfl (by decide) dX10_game_34 ?_
    refine g_iconst (v := (nI 0)) dX10_game_37 (by decide) ?_
    refine g_istore_n (lv' := [(2, .int (nI 0)), (0, .ref 81), (1, .int x1)]) dX10_game_38 rfl (by decide) rfl ?_
    refine g_sub [1, 2, 0] (lv' := [(0, .ref 81), (1, .int x1), (2, .int (nI 0))]) rfl ?_
    refine sl_X10_game_39 hA  ?_ _ _ _ h
    · intro  M6 h
      refine g_aload_n dX10_game_59 rfl 0 rfl ?_
      refine g_iload_n dX10_game_60 rfl 1 rfl ?_
      refine m_puti (k := 3) okX10 rfl rfl (by decide) w_1272 rfl rfl rfl dX10_game_61 ?_
      refine g_aload_n dX10_game_64 rfl 0 rfl ?_
      refine g_iconst (v := (nI 0)) dX10_game_65 (by decide) ?_
      refine m_puti (k := 5) okX10 rfl rfl (by decide) w_1274 rfl rfl rfl dX10_game_66 ?_
      refine g_aload_n dX10_game_69 rfl 0 rfl ?_
      obtain ⟨M70_7, eM70_7, h⟩ := bv_e h
      refine m_callVv (As := []) (st := []) (s_X10_next (d := d + 8) hA  eM70_7) rfl okX10 ck_X10_next w_1392 rfl (Nat.le_of_ble_eq_true rfl) dX10_game_70 ?_
      refine g_aload_n dX10_game_73 rfl 0 rfl ?_
      obtain ⟨M74_9, eM74_9, h⟩ := bv_e h
      refine m_callVv (As := []) (st := []) (s_X10_readLine (d := d + 0) hA  eM74_9) rfl okX10 ck_X10_readLine w_1406 rfl (Nat.le_of_ble_eq_true rfl) dX10_game_74 ?_
      refine g_sub [0] (lv' := [(0, .ref 81)]) rfl ?_
      refine sl_X10_game_77 hA  ?_ _  _ h
      · intro  M17 h
        refine g_aload_n dX10_game_104 rfl 0 rfl ?_
        refine m_geti (k := 13) okX10 rfl rfl (by decide) w_1282 rfl dX10_game_105 ?_
        obtain ⟨j19, ej19, h⟩ := jn_e h
        have hj19 : ∀ (M18 : Mm), j19 M18 = some (r, M') → GG l B LY (d + 10) yX10_game cX10_game 3 (some .int) 0 0 (PI r M') 97 0 0 127 [(0, .ref 81)] [] M18 := by
          intro M18 h
          rw [ej19] at h
          refine g_aload_n dX10_game_127 rfl 0 rfl ?_
          refine m_geti (k := 13) okX10 rfl rfl (by decide) w_1282 rfl dX10_game_128 ?_
          obtain ⟨j21, ej21, h⟩ := jn_e h
          have hj21 : ∀ (M20 : Mm), j21 M20 = some (r, M') → GG l B LY (d + 10) yX10_game cX10_game 3 (some .int) 0 0 (PI r M') 97 0 0 184 [(0, .ref 81)] [] M20 := by
            intro M20 h
            rw [ej21] at h
            refine g_aload_n dX10_game_184 rfl 0 rfl ?_
            refine m_geti (k := 13) okX10 rfl rfl (by decide) w_1282 rfl dX10_game_185 ?_
            refine g_if_eq (tgt := 197) dX10_game_188 (by decide) (fun c30 => ?_) (fun c30 => ?_)
            · replace h := ite_p c30 h
              refine g_iconst (v := (nI 0)) dX10_game_197 (by decide) ?_
              refine g_istore_n (lv' := [(2, .int (nI 0)), (0, .ref 81)]) dX10_game_198 rfl (by decide) rfl ?_
              refine g_sub [1, 0] (lv' := [(0, .ref 81), (2, .int (nI 0))]) rfl ?_
              refine sl_X10_game_199 hA  ?_ _ _ _ h
              · intro  M23 h
                refine g_aload_n dX10_game_224 rfl 0 rfl ?_
                refine g_iconst (v := (nI 1)) dX10_game_225 (by decide) ?_
                refine m_putz (k := 14) okX10 rfl rfl (by decide) w_1283 rfl rfl rfl (by decide) dX10_game_226 ?_
                refine g_aload_n dX10_game_229 rfl 0 rfl ?_
                refine g_iconst (v := (nI 0)) dX10_game_230 (by decide) ?_
                obtain ⟨M231_24, eM231_24, h⟩ := bv_e h
                refine m_callVv (As := [.int (nI 0)]) (st := []) (s_X10_begin (d := d + 9) hA  eM231_24) rfl okX10 ck_X10_begin w_1491 rfl (Nat.le_of_ble_eq_true rfl) dX10_game_231 ?_
                refine g_aload_n dX10_game_234 rfl 0 rfl ?_
                refine g_iconst (v := (nI 0)) dX10_game_235 (by decide) ?_
                refine m_puti (k := 19) okX10 rfl rfl (by decide) w_1288 rfl rfl rfl dX10_game_236 ?_
                refine g_aload_n dX10_game_239 rfl 0 rfl ?_
                refine g_iconst (v := (nI 0)) dX10_game_240 (by decide) ?_
                refine m_puti (k := 26) okX10 rfl rfl (by decide) w_1295 rfl rfl rfl dX10_game_241 ?_
                refine g_iconst (v := (nI 0)) dX10_game_244 (by decide) ?_
                refine g_istore_n (lv' := [(2, .int (nI 0)), (0, .ref 81)]) dX10_game_245 rfl (by decide) rfl ?_
                refine g_sub [1, 0] (lv' := [(0, .ref 81), (2, .int (nI 0))]) rfl ?_
                refine sl_X10_game_246 hA  ?_ _ _ _ h
                · intro  M27 h
                  refine g_aload_n dX10_game_271 rfl 0 rfl ?_
                  refine m_getr (k := 15) okX10 rfl rfl (by decide) w_1284 rfl dX10_game_272 ?_
                  refine g_bipush (v := (nI 95)) dX10_game_275 (by decide) ?_
                  refine m_ialdL (k := 95) rfl rfl (by decide) dX10_game_277 ?_
                  exact g_zret rfl rfl (pi_of h) dX10_game_278
            · replace h := ite_n c30 h
              refine g_aload_n dX10_game_191 rfl 0 rfl ?_
              refine g_iconst (v := (nI 4)) dX10_game_192 (by decide) ?_
              obtain ⟨v193_29, M193_28, eM193_28, h⟩ := bd_e h
              refine m_callVi (As := [.int (nI 4)]) (st := []) (s_X10_no (d := d + 9) hA  eM193_28) rfl okX10 ck_X10_no w_1388 rfl (Nat.le_of_ble_eq_true rfl) dX10_game_193 ?_
              exact g_zret rfl rfl (pi_of h) dX10_game_196
          refine g_if_ne (tgt := 184) dX10_game_131 (by decide) (fun c39 => ?_) (fun c39 => ?_)
          · replace h := ite_n c39 h
            refine g_sub [0] (lv' := [(0, .ref 81)]) rfl ?_
            exact hj21  _ h
          · replace h := ite_p c39 h
            refine g_aload_n dX10_game_134 rfl 0 rfl ?_
            refine m_getr (k := 16) okX10 rfl rfl (by decide) w_1285 rfl dX10_game_135 ?_
            refine g_bipush (v := (nI 91)) dX10_game_138 (by decide) ?_
            refine m_ialdL (k := 91) rfl rfl (by decide) dX10_game_140 ?_
            obtain ⟨j32, ej32, h⟩ := jn_e h
            have hj32 : ∀ (M31 : Mm), j32 M31 = some (r, M') → GG l B LY (d + 10) yX10_game cX10_game 3 (some .int) 0 0 (PI r M') 97 0 0 174 [(0, .ref 81)] [] M31 := by
              intro M31 h
              rw [ej32] at h
              refine g_aload_n dX10_game_174 rfl 0 rfl ?_
              refine g_bipush (v := (nI 6)) dX10_game_175 (by decide) ?_
              refine g_aload_n dX10_game_177 rfl 0 rfl ?_
              refine m_geti (k := 4) okX10 rfl rfl (by decide) w_1273 rfl dX10_game_178 ?_
              obtain ⟨M181_33, eM181_33, h⟩ := bv_e h
              refine m_callVv (As := [.int (nI 6), .int (M31 81 4)]) (st := []) (s_X10_wrong (d := d + 9) hA  eM181_33) rfl okX10 ck_X10_wrong w_1425 rfl (Nat.le_of_ble_eq_true rfl) dX10_game_181 ?_
              refine g_sub [0] (lv' := [(0, .ref 81)]) rfl ?_
              exact hj21  _ h
            refine g_if_eq (tgt := 174) dX10_game_141 (by decide) (fun c38 => ?_) (fun c38 => ?_)
            · replace h := ite_p c38 h
              refine g_sub [0] (lv' := [(0, .ref 81)]) rfl ?_
              exact hj32  _ h
            · replace h := ite_n c38 h
              refine g_aload_n dX10_game_144 rfl 0 rfl ?_
              refine m_getr (k := 16) okX10 rfl rfl (by decide) w_1285 rfl dX10_game_145 ?_
              refine g_bipush (v := (nI 92)) dX10_game_148 (by decide) ?_
              refine m_ialdL (k := 92) rfl rfl (by decide) dX10_game_150 ?_
              refine g_if_eq (tgt := 174) dX10_game_151 (by decide) (fun c37 => ?_) (fun c37 => ?_)
              · replace h := ite_p c37 h
                refine g_sub [0] (lv' := [(0, .ref 81)]) rfl ?_
                exact hj32  _ h
              · replace h := ite_n c37 h
                refine g_aload_n dX10_game_154 rfl 0 rfl ?_
                refine m_getr (k := 16) okX10 rfl rfl (by decide) w_1285 rfl dX10_game_155 ?_
                refine g_bipush (v := (nI 93)) dX10_game_158 (by decide) ?_
                refine m_ialdL (k := 93) rfl rfl (by decide) dX10_game_160 ?_
                refine g_if_eq (tgt := 174) dX10_game_161 (by decide) (fun c36 => ?_) (fun c36 => ?_)
                · replace h := ite_p c36 h
                  refine g_sub [0] (lv' := [(0, .ref 81)]) rfl ?_
                  exact hj32  _ h
                · replace h := ite_n c36 h
                  refine g_aload_n dX10_game_164 rfl 0 rfl ?_
                  refine m_getr (k := 16) okX10 rfl rfl (by decide) w_1285 rfl dX10_game_165 ?_
                  refine g_bipush (v := (nI 95)) dX10_game_168 (by decide) ?_
                  refine m_ialdL (k := 95) rfl rfl (by decide) dX10_game_170 ?_
                  refine g_if_ne (tgt := 184) dX10_game_171 (by decide) (fun c35 => ?_) (fun c35 => ?_)
                  · replace h := ite_n c35 h
                    refine g_sub [0] (lv' := [(0, .ref 81)]) rfl ?_
                    exact hj21  _ h
                  · replace h := ite_p c35 h
                    refine g_sub [0] (lv' := [(0, .ref 81)]) rfl ?_
                    exact hj32  _ h
        refine g_if_ne (tgt := 127) dX10_game_108 (by decide) (fun c43 => ?_) (fun c43 => ?_)
        · replace h := ite_n c43 h
          refine g_sub [0] (lv' := [(0, .ref 81)]) rfl ?_
          exact hj19  _ h
        · replace h := ite_p c43 h
          refine g_aload_n dX10_game_111 rfl 0 rfl ?_
          refine m_geti (k := 6) okX10 rfl rfl (by decide) w_1275 rfl dX10_game_112 ?_
          refine g_if_eq (tgt := 127) dX10_game_115 (by decide) (fun c42 => ?_) (fun c42 => ?_)
          · replace h := ite_p c42 h
            refine g_sub [0] (lv' := [(0, .ref 81)]) rfl ?_
            exact hj19  _ h
          · replace h := ite_n c42 h
            refine g_aload_n dX10_game_118 rfl 0 rfl ?_
            refine g_iconst (v := (nI 1)) dX10_game_119 (by decide) ?_
            refine g_aload_n dX10_game_120 rfl 0 rfl ?_
            refine m_geti (k := 4) okX10 rfl rfl (by decide) w_1273 rfl dX10_game_121 ?_
            obtain ⟨M124_40, eM124_40, h⟩ := bv_e h
            refine m_callVv (As := [.int (nI 1), .int (M17 81 4)]) (st := []) (s_X10_wrong (d := d + 9) hA  eM124_40) rfl okX10 ck_X10_wrong w_1425 rfl (Nat.le_of_ble_eq_true rfl) dX10_game_124 ?_
            refine g_sub [0] (lv' := [(0, .ref 81)]) rfl ?_
            exact hj19  _ h
  · replace h := ite_p c46 h
    refine g_aload_n dX10_game_16 rfl 0 rfl ?_
    refine g_iconst (v := (nI 2)) dX10_game_17 (by decide) ?_
    obtain ⟨v18_45, M18_44, eM18_44, h⟩ := bd_e h
    refine m_callVi (As := [.int (nI 2)]) (st := []) (s_X10_no (d := d + 9) hA  eM18_44) rfl okX10 ck_X10_no w_1388 rfl (Nat.le_of_ble_eq_true rfl) dX10_game_18 ?_
    exact g_zret rfl rfl (pi_of h) dX10_game_21
theorem ck_X10_game : CKV yX10_game cX10_game 3 (some .int) 1 := ⟨⟨by decide, by decide, by decide +kernel⟩, w_1380, w_81, ⟨w_1378, w_1379⟩, by decide⟩
theorem dX10_fault_0 : decode cX10_fault 0 = .ok (.aload_n 0, 1) := by decide +kernel
theorem dX10_fault_1 : decode cX10_fault 1 = .ok (.iconst 0, 1) := by decide +kernel
theorem dX10_fault_2 : decode cX10_fault 2 = .ok (.putfield 59, 3) := by decide +kernel
theorem dX10_fault_5 : decode cX10_fault 5 = .ok (.aload_n 0, 1) := by decide +kernel
theorem dX10_fault_6 : decode cX10_fault 6 = .ok (.getfield 101, 3) := by decide +kernel
theorem dX10_fault_9 : decode cX10_fault 9 = .ok (.ireturn, 1) := by decide +kernel
def f_X10_fault  (M : Mm) : Option (Int32 × Mm) :=
  some (((mset M 81 0 (nI 0)) 81 9), (mset M 81 0 (nI 0)))
set_option maxHeartbeats 4000000 in
set_option maxRecDepth 100000 in
theorem s_X10_fault {l : Launch} {B : BT} (hA : bA B = false) {d : Nat} {r : Int32} {M' : Mm}  {M : Mm}  (h : f_X10_fault  M = some (r, M')) : Con l B LY (d + 0) yX10_fault cX10_fault 1 (some .int) 0 0 [.ref 81] 97 M (PI r M') := by
  refine con_of (by decide) (Nat.le_of_ble_eq_true rfl) ?_
  show GG l B LY (d + 0) yX10_fault cX10_fault 1 (some .int) 0 0 (PI r M') 97 0 0 0 [(0, .ref 81)] [] M
  rw [f_X10_fault] at h
  refine g_aload_n dX10_fault_0 rfl 0 rfl ?_
  refine g_iconst (v := (nI 0)) dX10_fault_1 (by decide) ?_
  refine m_puti (k := 0) okX10 rfl rfl (by decide) w_1269 rfl rfl rfl dX10_fault_2 ?_
  refine g_aload_n dX10_fault_5 rfl 0 rfl ?_
  refine m_geti (k := 9) okX10 rfl rfl (by decide) w_1278 rfl dX10_fault_6 ?_
  exact g_zret rfl rfl (pi_of h) dX10_fault_9
theorem ck_X10_fault : CKV yX10_fault cX10_fault 1 (some .int) 0 := ⟨⟨by decide, by decide, by decide +kernel⟩, w_1498, w_81, ⟨w_1496, w_1497⟩, by decide⟩
theorem dX10_where_0 : decode cX10_where 0 = .ok (.aload_n 0, 1) := by decide +kernel
theorem dX10_where_1 : decode cX10_where 1 = .ok (.iconst 0, 1) := by decide +kernel
theorem dX10_where_2 : decode cX10_where 2 = .ok (.putfield 59, 3) := by decide +kernel
theorem dX10_where_5 : decode cX10_where 5 = .ok (.aload_n 0, 1) := by decide +kernel
theorem dX10_where_6 : decode cX10_where 6 = .ok (.getfield 62, 3) := by decide +kernel
theorem dX10_where_9 : decode cX10_where 9 = .ok (.iconst 4, 1) := by decide +kernel
theorem dX10_where_10 : decode cX10_where 10 = .ok (.if_icmp .ne 10, 3) := by decide +kernel
theorem dX10_where_13 : decode cX10_where 13 = .ok (.aload_n 0, 1) := by decide +kernel
theorem dX10_where_14 : decode cX10_where 14 = .ok (.getfield 13, 3) := by decide +kernel
theorem dX10_where_17 : decode cX10_where 17 = .ok (.goto 4, 3) := by decide +kernel
theorem dX10_where_20 : decode cX10_where 20 = .ok (.iconst (-1), 1) := by decide +kernel
theorem dX10_where_21 : decode cX10_where 21 = .ok (.ireturn, 1) := by decide +kernel
def f_X10_where  (M : Mm) : Option (Int32 × Mm) :=
  if ((mset M 81 0 (nI 0)) 81 11) = (nI 4) then (some (((mset M 81 0 (nI 0)) 81 10), (mset M 81 0 (nI 0)))) else (some ((-1 : Int32), (mset M 81 0 (nI 0))))
set_option maxHeartbeats 4000000 in
set_option maxRecDepth 100000 in
theorem s_X10_where {l : Launch} {B : BT} (hA : bA B = false) {d : Nat} {r : Int32} {M' : Mm}  {M : Mm}  (h : f_X10_where  M = some (r, M')) : Con l B LY (d + 0) yX10_where cX10_where 1 (some .int) 0 0 [.ref 81] 97 M (PI r M') := by
  refine con_of (by decide) (Nat.le_of_ble_eq_true rfl) ?_
  show GG l B LY (d + 0) yX10_where cX10_where 1 (some .int) 0 0 (PI r M') 97 0 0 0 [(0, .ref 81)] [] M
  rw [f_X10_where] at h
  refine g_aload_n dX10_where_0 rfl 0 rfl ?_
  refine g_iconst (v := (nI 0)) dX10_where_1 (by decide) ?_
  refine m_puti (k := 0) okX10 rfl rfl (by decide) w_1269 rfl rfl rfl dX10_where_2 ?_
  refine g_aload_n dX10_where_5 rfl 0 rfl ?_
  refine m_geti (k := 11) okX10 rfl rfl (by decide) w_1280 rfl dX10_where_6 ?_
  refine g_iconst (v := (nI 4)) dX10_where_9 (by decide) ?_
  refine g_icmp_ne (tgt := 20) dX10_where_10 (by decide) (fun c1 => ?_) (fun c1 => ?_)
  · replace h := ite_n c1 h
    refine g_iconst (v := (-1 : Int32)) dX10_where_20 (by decide) ?_
    exact g_zret rfl rfl (pi_of h) dX10_where_21
  · replace h := ite_p c1 h
    refine g_aload_n dX10_where_13 rfl 0 rfl ?_
    refine m_geti (k := 10) okX10 rfl rfl (by decide) w_1279 rfl dX10_where_14 ?_
    refine g_goto (tgt := 21) dX10_where_17 (by decide) ?_
    exact g_zret rfl rfl (pi_of h) dX10_where_21
theorem ck_X10_where : CKV yX10_where cX10_where 1 (some .int) 0 := ⟨⟨by decide, by decide, by decide +kernel⟩, w_1502, w_81, ⟨w_1500, w_1501⟩, by decide⟩
theorem dX10_isCreeper_0 : decode cX10_isCreeper 0 = .ok (.aload_n 0, 1) := by decide +kernel
theorem dX10_isCreeper_1 : decode cX10_isCreeper 1 = .ok (.getfield 165, 3) := by decide +kernel
theorem dX10_isCreeper_4 : decode cX10_isCreeper 4 = .ok (.ifCond .eq 24, 3) := by decide +kernel
theorem dX10_isCreeper_7 : decode cX10_isCreeper 7 = .ok (.iload_n 1, 1) := by decide +kernel
theorem dX10_isCreeper_8 : decode cX10_isCreeper 8 = .ok (.iconst 0, 1) := by decide +kernel
theorem dX10_isCreeper_9 : decode cX10_isCreeper 9 = .ok (.aload_n 0, 1) := by decide +kernel
theorem dX10_isCreeper_10 : decode cX10_isCreeper 10 = .ok (.getfield 20, 3) := by decide +kernel
theorem dX10_isCreeper_13 : decode cX10_isCreeper 13 = .ok (.bipush 95, 2) := by decide +kernel
theorem dX10_isCreeper_15 : decode cX10_isCreeper 15 = .ok (.iaload, 1) := by decide +kernel
theorem dX10_isCreeper_16 : decode cX10_isCreeper 16 = .ok (.iconst 1, 1) := by decide +kernel
theorem dX10_isCreeper_17 : decode cX10_isCreeper 17 = .ok (.isub, 1) := by decide +kernel
theorem dX10_isCreeper_18 : decode cX10_isCreeper 18 = .ok (.invokestatic 144, 3) := by decide +kernel
theorem dX10_isCreeper_21 : decode cX10_isCreeper 21 = .ok (.ifCond .eq 7, 3) := by decide +kernel
theorem dX10_isCreeper_24 : decode cX10_isCreeper 24 = .ok (.iconst 1, 1) := by decide +kernel
theorem dX10_isCreeper_25 : decode cX10_isCreeper 25 = .ok (.goto 4, 3) := by decide +kernel
theorem dX10_isCreeper_28 : decode cX10_isCreeper 28 = .ok (.iconst 0, 1) := by decide +kernel
theorem dX10_isCreeper_29 : decode cX10_isCreeper 29 = .ok (.ireturn, 1) := by decide +kernel
def f_X10_isCreeper (x1 : Int32) (M : Mm) : Option (Int32 × Mm) :=
  jn (fun (M1 : Mm) => some ((nI 0), M1)) fun j2 => if (M 81 14) = 0 then (j2  M) else (bd (f_X10_within x1 (nI 0) ((M 84 95) - (nI 1)) M) fun v18_4 M18_3 => if v18_4 = 0 then (j2  M18_3) else (some ((nI 1), M18_3)))
set_option maxHeartbeats 4000000 in
set_option maxRecDepth 100000 in
theorem s_X10_isCreeper {l : Launch} {B : BT} (hA : bA B = false) {d : Nat} {r : Int32} {M' : Mm} {x1 : Int32} {M : Mm}  (h : f_X10_isCreeper x1 M = some (r, M')) : Con l B LY (d + 1) yX10_isCreeper cX10_isCreeper 2 (some .boolean) 0 0 [.ref 81, .int x1] 97 M (PI r M') := by
  refine con_of (by decide) (Nat.le_of_ble_eq_true rfl) ?_
  show GG l B LY (d + 1) yX10_isCreeper cX10_isCreeper 2 (some .boolean) 0 0 (PI r M') 97 0 0 0 [(0, .ref 81), (1, .int x1)] [] M
  rw [f_X10_isCreeper] at h
  refine g_aload_n dX10_isCreeper_0 rfl 0 rfl ?_
  refine m_geti (k := 14) okX10 rfl rfl (by decide) w_1283 rfl dX10_isCreeper_1 ?_
  obtain ⟨j2, ej2, h⟩ := jn_e h
  have hj2 : ∀ (M1 : Mm), j2 M1 = some (r, M') → GG l B LY (d + 1) yX10_isCreeper cX10_isCreeper 2 (some .boolean) 0 0 (PI r M') 97 0 0 28 [] [] M1 := by
    intro M1 h
    rw [ej2] at h
    refine g_iconst (v := (nI 0)) dX10_isCreeper_28 (by decide) ?_
    exact g_zret rfl rfl (pi_of h) dX10_isCreeper_29
  refine g_if_eq (tgt := 28) dX10_isCreeper_4 (by decide) (fun c6 => ?_) (fun c6 => ?_)
  · replace h := ite_p c6 h
    refine g_sub [] (lv' := []) rfl ?_
    exact hj2  _ h
  · replace h := ite_n c6 h
    refine g_iload_n dX10_isCreeper_7 rfl 1 rfl ?_
    refine g_iconst (v := (nI 0)) dX10_isCreeper_8 (by decide) ?_
    refine g_aload_n dX10_isCreeper_9 rfl 0 rfl ?_
    refine m_getr (k := 15) okX10 rfl rfl (by decide) w_1284 rfl dX10_isCreeper_10 ?_
    refine g_bipush (v := (nI 95)) dX10_isCreeper_13 (by decide) ?_
    refine m_ialdL (k := 95) rfl rfl (by decide) dX10_isCreeper_15 ?_
    refine g_iconst (v := (nI 1)) dX10_isCreeper_16 (by decide) ?_
    refine g_isub dX10_isCreeper_17 ?_
    obtain ⟨v18_4, M18_3, eM18_3, h⟩ := bd_e h
    refine m_callSi (As := [.int x1, .int (nI 0), .int ((M 84 95) - (nI 1))]) (st := []) (s_X10_within (d := d + 0) hA  eM18_3) ck_X10_within w_1385 rfl (Nat.le_of_ble_eq_true rfl) dX10_isCreeper_18 ?_
    refine g_if_eq (tgt := 28) dX10_isCreeper_21 (by decide) (fun c5 => ?_) (fun c5 => ?_)
    · replace h := ite_p c5 h
      refine g_sub [] (lv' := []) rfl ?_
      exact hj2  _ h
    · replace h := ite_n c5 h
      refine g_iconst (v := (nI 1)) dX10_isCreeper_24 (by decide) ?_
      refine g_goto (tgt := 29) dX10_isCreeper_25 (by decide) ?_
      exact g_zret rfl rfl (pi_of h) dX10_isCreeper_29
theorem ck_X10_isCreeper : CKV yX10_isCreeper cX10_isCreeper 2 (some .boolean) 1 := ⟨⟨by decide, by decide, by decide +kernel⟩, w_1575, w_81, ⟨w_1574, w_42⟩, by decide⟩
theorem dX10_keep_0 : decode cX10_keep 0 = .ok (.iconst 0, 1) := by decide +kernel
theorem dX10_keep_1 : decode cX10_keep 1 = .ok (.istore_n 2, 1) := by decide +kernel
theorem dX10_keep_2 : decode cX10_keep 2 = .ok (.iload_n 2, 1) := by decide +kernel
theorem dX10_keep_3 : decode cX10_keep 3 = .ok (.bipush 44, 2) := by decide +kernel
theorem dX10_keep_5 : decode cX10_keep 5 = .ok (.if_icmp .ge 26, 3) := by decide +kernel
theorem dX10_keep_8 : decode cX10_keep 8 = .ok (.aload_n 0, 1) := by decide +kernel
theorem dX10_keep_9 : decode cX10_keep 9 = .ok (.getfield 29, 3) := by decide +kernel
theorem dX10_keep_12 : decode cX10_keep 12 = .ok (.bipush 44, 2) := by decide +kernel
theorem dX10_keep_14 : decode cX10_keep 14 = .ok (.iload_n 1, 1) := by decide +kernel
theorem dX10_keep_15 : decode cX10_keep 15 = .ok (.imul, 1) := by decide +kernel
theorem dX10_keep_16 : decode cX10_keep 16 = .ok (.iload_n 2, 1) := by decide +kernel
theorem dX10_keep_17 : decode cX10_keep 17 = .ok (.iadd, 1) := by decide +kernel
theorem dX10_keep_18 : decode cX10_keep 18 = .ok (.aload_n 0, 1) := by decide +kernel
theorem dX10_keep_19 : decode cX10_keep 19 = .ok (.getfield 26, 3) := by decide +kernel
theorem dX10_keep_22 : decode cX10_keep 22 = .ok (.iload_n 2, 1) := by decide +kernel
theorem dX10_keep_23 : decode cX10_keep 23 = .ok (.iaload, 1) := by decide +kernel
theorem dX10_keep_24 : decode cX10_keep 24 = .ok (.iastore, 1) := by decide +kernel
theorem dX10_keep_25 : decode cX10_keep 25 = .ok (.iinc 2 1, 3) := by decide +kernel
theorem dX10_keep_28 : decode cX10_keep 28 = .ok (.goto (-26), 3) := by decide +kernel
theorem dX10_keep_31 : decode cX10_keep 31 = .ok (.return_, 1) := by decide +kernel
def lp_X10_keep_2 (y1 : Int32)  : Nat → Int32 → Mm → Option (Mm)
  | 0, _, _ => none
  | n + 1, y2, M =>
    if (nI 44) ≤ y2 then (some M) else (gd (inb y2 44) <| gd (inb (((nI 44) * y1) + y2) 176) <| lp_X10_keep_2 y1 n (y2 + (nI 1)) (mset M 87 (((nI 44) * y1) + y2).toNatClampNeg (M 86 y2.toNatClampNeg)))
def f_X10_keep (x1 : Int32) (M : Mm) : Option (Mm) :=
  lp_X10_keep_2 x1  N0 (nI 0) M
set_option maxHeartbeats 4000000 in
set_option maxRecDepth 100000 in
theorem sl_X10_keep_2 {l : Launch} {B : BT} (hA : bA B = false) {d : Nat} {M' : Mm} {y1 : Int32}    :
    ∀ (n : Nat) (y2 : Int32) (M : Mm), lp_X10_keep_2 y1 n y2 M = some M' → GG l B LY (d + 0) yX10_keep cX10_keep 3 none 0 0 (PV M') 97 0 0 2 [(0, .ref 81), (1, .int y1), (2, .int y2)] [] M := by
  intro n
  induction n with
  | zero => intro y2 M h; cases h
  | succ n ih =>
    intro y2 M h
    rw [lp_X10_keep_2] at h
    refine g_iload_n dX10_keep_2 rfl 2 rfl ?_
    refine g_bipush (v := (nI 44)) dX10_keep_3 (by decide) ?_
    refine g_icmp_ge (tgt := 31) dX10_keep_5 (by decide) (fun c1 => ?_) (fun c1 => ?_)
    · replace h := ite_p c1 h
      exact g_vret rfl (pv_of h) dX10_keep_31
    · replace h := ite_n c1 h
      refine g_aload_n dX10_keep_8 rfl 0 rfl ?_
      refine m_getr (k := 18) okX10 rfl rfl (by decide) w_1287 rfl dX10_keep_9 ?_
      refine g_bipush (v := (nI 44)) dX10_keep_12 (by decide) ?_
      refine g_iload_n dX10_keep_14 rfl 1 rfl ?_
      refine g_imul dX10_keep_15 ?_
      refine g_iload_n dX10_keep_16 rfl 2 rfl ?_
      refine g_iadd dX10_keep_17 ?_
      refine g_aload_n dX10_keep_18 rfl 0 rfl ?_
      refine m_getr (k := 17) okX10 rfl rfl (by decide) w_1286 rfl dX10_keep_19 ?_
      refine g_iload_n dX10_keep_22 rfl 2 rfl ?_
      obtain ⟨hz, h⟩ := gd_s h
      refine m_iald rfl hz dX10_keep_23 ?_
      obtain ⟨hz, h⟩ := gd_s h
      refine m_iast hA rfl hz dX10_keep_24 ?_
      refine g_iinc (v := (y2 + (nI 1))) (lv' := [(2, .int (y2 + (nI 1))), (0, .ref 81), (1, .int y1)]) dX10_keep_25 2 rfl rfl (by decide) rfl ?_
      refine g_goto (tgt := 2) dX10_keep_28 (by decide) ?_
      refine g_sub [1, 2, 0] (lv' := [(0, .ref 81), (1, .int y1), (2, .int (y2 + (nI 1)))]) rfl ?_
      exact ih _  _ h
set_option maxHeartbeats 4000000 in
set_option maxRecDepth 100000 in
theorem s_X10_keep {l : Launch} {B : BT} (hA : bA B = false) {d : Nat} {M' : Mm} {x1 : Int32} {M : Mm}  (h : f_X10_keep x1 M = some M') : Con l B LY (d + 0) yX10_keep cX10_keep 3 none 0 0 [.ref 81, .int x1] 97 M (PV M') := by
  refine con_of (by decide) (Nat.le_of_ble_eq_true rfl) ?_
  show GG l B LY (d + 0) yX10_keep cX10_keep 3 none 0 0 (PV M') 97 0 0 0 [(0, .ref 81), (1, .int x1)] [] M
  rw [f_X10_keep] at h
  refine g_iconst (v := (nI 0)) dX10_keep_0 (by decide) ?_
  refine g_istore_n (lv' := [(2, .int (nI 0)), (0, .ref 81), (1, .int x1)]) dX10_keep_1 rfl (by decide) rfl ?_
  refine g_sub [1, 2, 0] (lv' := [(0, .ref 81), (1, .int x1), (2, .int (nI 0))]) rfl ?_
  refine sl_X10_keep_2 hA   _ _ _ h
theorem ck_X10_keep : CKV yX10_keep cX10_keep 3 none 1 := ⟨⟨by decide, by decide, by decide +kernel⟩, w_1603, w_81, ⟨w_1602, w_44⟩, by decide⟩
theorem dX10_bringBack_0 : decode cX10_bringBack 0 = .ok (.iconst 0, 1) := by decide +kernel
theorem dX10_bringBack_1 : decode cX10_bringBack 1 = .ok (.istore_n 2, 1) := by decide +kernel
theorem dX10_bringBack_2 : decode cX10_bringBack 2 = .ok (.iload_n 2, 1) := by decide +kernel
theorem dX10_bringBack_3 : decode cX10_bringBack 3 = .ok (.bipush 44, 2) := by decide +kernel
theorem dX10_bringBack_5 : decode cX10_bringBack 5 = .ok (.if_icmp .ge 26, 3) := by decide +kernel
theorem dX10_bringBack_8 : decode cX10_bringBack 8 = .ok (.aload_n 0, 1) := by decide +kernel
theorem dX10_bringBack_9 : decode cX10_bringBack 9 = .ok (.getfield 26, 3) := by decide +kernel
theorem dX10_bringBack_12 : decode cX10_bringBack 12 = .ok (.iload_n 2, 1) := by decide +kernel
theorem dX10_bringBack_13 : decode cX10_bringBack 13 = .ok (.aload_n 0, 1) := by decide +kernel
theorem dX10_bringBack_14 : decode cX10_bringBack 14 = .ok (.getfield 29, 3) := by decide +kernel
theorem dX10_bringBack_17 : decode cX10_bringBack 17 = .ok (.bipush 44, 2) := by decide +kernel
theorem dX10_bringBack_19 : decode cX10_bringBack 19 = .ok (.iload_n 1, 1) := by decide +kernel
theorem dX10_bringBack_20 : decode cX10_bringBack 20 = .ok (.imul, 1) := by decide +kernel
theorem dX10_bringBack_21 : decode cX10_bringBack 21 = .ok (.iload_n 2, 1) := by decide +kernel
theorem dX10_bringBack_22 : decode cX10_bringBack 22 = .ok (.iadd, 1) := by decide +kernel
theorem dX10_bringBack_23 : decode cX10_bringBack 23 = .ok (.iaload, 1) := by decide +kernel
theorem dX10_bringBack_24 : decode cX10_bringBack 24 = .ok (.iastore, 1) := by decide +kernel
theorem dX10_bringBack_25 : decode cX10_bringBack 25 = .ok (.iinc 2 1, 3) := by decide +kernel
theorem dX10_bringBack_28 : decode cX10_bringBack 28 = .ok (.goto (-26), 3) := by decide +kernel
theorem dX10_bringBack_31 : decode cX10_bringBack 31 = .ok (.return_, 1) := by decide +kernel
def lp_X10_bringBack_2 (y1 : Int32)  : Nat → Int32 → Mm → Option (Mm)
  | 0, _, _ => none
  | n + 1, y2, M =>
    if (nI 44) ≤ y2 then (some M) else (gd (inb (((nI 44) * y1) + y2) 176) <| gd (inb y2 44) <| lp_X10_bringBack_2 y1 n (y2 + (nI 1)) (mset M 86 y2.toNatClampNeg (M 87 (((nI 44) * y1) + y2).toNatClampNeg)))
def f_X10_bringBack (x1 : Int32) (M : Mm) : Option (Mm) :=
  lp_X10_bringBack_2 x1  N0 (nI 0) M
set_option maxHeartbeats 4000000 in
set_option maxRecDepth 100000 in
theorem sl_X10_bringBack_2 {l : Launch} {B : BT} (hA : bA B = false) {d : Nat} {M' : Mm} {y1 : Int32}    :
    ∀ (n : Nat) (y2 : Int32) (M : Mm), lp_X10_bringBack_2 y1 n y2 M = some M' → GG l B LY (d + 0) yX10_bringBack cX10_bringBack 3 none 0 0 (PV M') 97 0 0 2 [(0, .ref 81), (1, .int y1), (2, .int y2)] [] M := by
  intro n
  induction n with
  | zero => intro y2 M h; cases h
  | succ n ih =>
    intro y2 M h
    rw [lp_X10_bringBack_2] at h
    refine g_iload_n dX10_bringBack_2 rfl 2 rfl ?_
    refine g_bipush (v := (nI 44)) dX10_bringBack_3 (by decide) ?_
    refine g_icmp_ge (tgt := 31) dX10_bringBack_5 (by decide) (fun c1 => ?_) (fun c1 => ?_)
    · replace h := ite_p c1 h
      exact g_vret rfl (pv_of h) dX10_bringBack_31
    · replace h := ite_n c1 h
      refine g_aload_n dX10_bringBack_8 rfl 0 rfl ?_
      refine m_getr (k := 17) okX10 rfl rfl (by decide) w_1286 rfl dX10_bringBack_9 ?_
      refine g_iload_n dX10_bringBack_12 rfl 2 rfl ?_
      refine g_aload_n dX10_bringBack_13 rfl 0 rfl ?_
      refine m_getr (k := 18) okX10 rfl rfl (by decide) w_1287 rfl dX10_bringBack_14 ?_
      refine g_bipush (v := (nI 44)) dX10_bringBack_17 (by decide) ?_
      refine g_iload_n dX10_bringBack_19 rfl 1 rfl ?_
      refine g_imul dX10_bringBack_20 ?_
      refine g_iload_n dX10_bringBack_21 rfl 2 rfl ?_
      refine g_iadd dX10_bringBack_22 ?_
      obtain ⟨hz, h⟩ := gd_s h
      refine m_iald rfl hz dX10_bringBack_23 ?_
      obtain ⟨hz, h⟩ := gd_s h
      refine m_iast hA rfl hz dX10_bringBack_24 ?_
      refine g_iinc (v := (y2 + (nI 1))) (lv' := [(2, .int (y2 + (nI 1))), (0, .ref 81), (1, .int y1)]) dX10_bringBack_25 2 rfl rfl (by decide) rfl ?_
      refine g_goto (tgt := 2) dX10_bringBack_28 (by decide) ?_
      refine g_sub [1, 2, 0] (lv' := [(0, .ref 81), (1, .int y1), (2, .int (y2 + (nI 1)))]) rfl ?_
      exact ih _  _ h
set_option maxHeartbeats 4000000 in
set_option maxRecDepth 100000 in
theorem s_X10_bringBack {l : Launch} {B : BT} (hA : bA B = false) {d : Nat} {M' : Mm} {x1 : Int32} {M : Mm}  (h : f_X10_bringBack x1 M = some M') : Con l B LY (d + 0) yX10_bringBack cX10_bringBack 3 none 0 0 [.ref 81, .int x1] 97 M (PV M') := by
  refine con_of (by decide) (Nat.le_of_ble_eq_true rfl) ?_
  show GG l B LY (d + 0) yX10_bringBack cX10_bringBack 3 none 0 0 (PV M') 97 0 0 0 [(0, .ref 81), (1, .int x1)] [] M
  rw [f_X10_bringBack] at h
  refine g_iconst (v := (nI 0)) dX10_bringBack_0 (by decide) ?_
  refine g_istore_n (lv' := [(2, .int (nI 0)), (0, .ref 81), (1, .int x1)]) dX10_bringBack_1 rfl (by decide) rfl ?_
  refine g_sub [1, 2, 0] (lv' := [(0, .ref 81), (1, .int x1), (2, .int (nI 0))]) rfl ?_
  refine sl_X10_bringBack_2 hA   _ _ _ h
theorem ck_X10_bringBack : CKV yX10_bringBack cX10_bringBack 3 none 1 := ⟨⟨by decide, by decide, by decide +kernel⟩, w_1611, w_81, ⟨w_1610, w_45⟩, by decide⟩
theorem dX10_draw_0 : decode cX10_draw 0 = .ok (.aload_n 0, 1) := by decide +kernel
theorem dX10_draw_1 : decode cX10_draw 1 = .ok (.getfield 26, 3) := by decide +kernel
theorem dX10_draw_4 : decode cX10_draw 4 = .ok (.bipush 6, 2) := by decide +kernel
theorem dX10_draw_6 : decode cX10_draw 6 = .ok (.bipush 75, 2) := by decide +kernel
theorem dX10_draw_8 : decode cX10_draw 8 = .ok (.aload_n 0, 1) := by decide +kernel
theorem dX10_draw_9 : decode cX10_draw 9 = .ok (.getfield 26, 3) := by decide +kernel
theorem dX10_draw_12 : decode cX10_draw 12 = .ok (.bipush 6, 2) := by decide +kernel
theorem dX10_draw_14 : decode cX10_draw 14 = .ok (.iaload, 1) := by decide +kernel
theorem dX10_draw_15 : decode cX10_draw 15 = .ok (.imul, 1) := by decide +kernel
theorem dX10_draw_16 : decode cX10_draw 16 = .ok (.bipush 74, 2) := by decide +kernel
theorem dX10_draw_18 : decode cX10_draw 18 = .ok (.iadd, 1) := by decide +kernel
theorem dX10_draw_19 : decode cX10_draw 19 = .ok (.ldc 236, 2) := by decide +kernel
theorem dX10_draw_21 : decode cX10_draw 21 = .ok (.irem, 1) := by decide +kernel
theorem dX10_draw_22 : decode cX10_draw 22 = .ok (.iastore, 1) := by decide +kernel
theorem dX10_draw_23 : decode cX10_draw 23 = .ok (.aload_n 0, 1) := by decide +kernel
theorem dX10_draw_24 : decode cX10_draw 24 = .ok (.getfield 26, 3) := by decide +kernel
theorem dX10_draw_27 : decode cX10_draw 27 = .ok (.bipush 6, 2) := by decide +kernel
theorem dX10_draw_29 : decode cX10_draw 29 = .ok (.iaload, 1) := by decide +kernel
theorem dX10_draw_30 : decode cX10_draw 30 = .ok (.bipush 100, 2) := by decide +kernel
theorem dX10_draw_32 : decode cX10_draw 32 = .ok (.irem, 1) := by decide +kernel
theorem dX10_draw_33 : decode cX10_draw 33 = .ok (.ireturn, 1) := by decide +kernel
def f_X10_draw  (M : Mm) : Option (Int32 × Mm) :=
  some ((((mset M 86 6 ((((nI 75) * (M 86 6)) + (nI 74)) - (((nI 75) * (M 86 6)) + (nI 74)) / (nI 65537) * (nI 65537))) 86 6) - ((mset M 86 6 ((((nI 75) * (M 86 6)) + (nI 74)) - (((nI 75) * (M 86 6)) + (nI 74)) / (nI 65537) * (nI 65537))) 86 6) / (nI 100) * (nI 100)), (mset M 86 6 ((((nI 75) * (M 86 6)) + (nI 74)) - (((nI 75) * (M 86 6)) + (nI 74)) / (nI 65537) * (nI 65537))))
set_option maxHeartbeats 4000000 in
set_option maxRecDepth 100000 in
theorem s_X10_draw {l : Launch} {B : BT} (hA : bA B = false) {d : Nat} {r : Int32} {M' : Mm}  {M : Mm}  (h : f_X10_draw  M = some (r, M')) : Con l B LY (d + 0) yX10_draw cX10_draw 1 (some .int) 0 0 [.ref 81] 97 M (PI r M') := by
  refine con_of (by decide) (Nat.le_of_ble_eq_true rfl) ?_
  show GG l B LY (d + 0) yX10_draw cX10_draw 1 (some .int) 0 0 (PI r M') 97 0 0 0 [(0, .ref 81)] [] M
  rw [f_X10_draw] at h
  refine g_aload_n dX10_draw_0 rfl 0 rfl ?_
  refine m_getr (k := 17) okX10 rfl rfl (by decide) w_1286 rfl dX10_draw_1 ?_
  refine g_bipush (v := (nI 6)) dX10_draw_4 (by decide) ?_
  refine g_bipush (v := (nI 75)) dX10_draw_6 (by decide) ?_
  refine g_aload_n dX10_draw_8 rfl 0 rfl ?_
  refine m_getr (k := 17) okX10 rfl rfl (by decide) w_1286 rfl dX10_draw_9 ?_
  refine g_bipush (v := (nI 6)) dX10_draw_12 (by decide) ?_
  refine m_ialdL (k := 6) rfl rfl (by decide) dX10_draw_14 ?_
  refine g_imul dX10_draw_15 ?_
  refine g_bipush (v := (nI 74)) dX10_draw_16 (by decide) ?_
  refine g_iadd dX10_draw_18 ?_
  refine g_ldc (v := (nI 65537)) w_1547 dX10_draw_19 ?_
  refine g_irem dX10_draw_21 (by decide) ?_
  refine m_iastL (k := 6) hA rfl rfl (by decide) dX10_draw_22 ?_
  refine g_aload_n dX10_draw_23 rfl 0 rfl ?_
  refine m_getr (k := 17) okX10 rfl rfl (by decide) w_1286 rfl dX10_draw_24 ?_
  refine g_bipush (v := (nI 6)) dX10_draw_27 (by decide) ?_
  refine m_ialdL (k := 6) rfl rfl (by decide) dX10_draw_29 ?_
  refine g_bipush (v := (nI 100)) dX10_draw_30 (by decide) ?_
  refine g_irem dX10_draw_32 (by decide) ?_
  exact g_zret rfl rfl (pi_of h) dX10_draw_33
theorem ck_X10_draw : CKV yX10_draw cX10_draw 1 (some .int) 0 := ⟨⟨by decide, by decide, by decide +kernel⟩, w_1546, w_81, ⟨w_1545, w_37⟩, by decide⟩
theorem dX10_tenthsOf_0 : decode cX10_tenthsOf 0 = .ok (.iconst 0, 1) := by decide +kernel
theorem dX10_tenthsOf_1 : decode cX10_tenthsOf 1 = .ok (.istore_n 2, 1) := by decide +kernel
theorem dX10_tenthsOf_2 : decode cX10_tenthsOf 2 = .ok (.iconst 0, 1) := by decide +kernel
theorem dX10_tenthsOf_3 : decode cX10_tenthsOf 3 = .ok (.istore_n 3, 1) := by decide +kernel
theorem dX10_tenthsOf_4 : decode cX10_tenthsOf 4 = .ok (.iload_n 3, 1) := by decide +kernel
theorem dX10_tenthsOf_5 : decode cX10_tenthsOf 5 = .ok (.aload_n 0, 1) := by decide +kernel
theorem dX10_tenthsOf_6 : decode cX10_tenthsOf 6 = .ok (.getfield 20, 3) := by decide +kernel
theorem dX10_tenthsOf_9 : decode cX10_tenthsOf 9 = .ok (.bipush 11, 2) := by decide +kernel
theorem dX10_tenthsOf_11 : decode cX10_tenthsOf 11 = .ok (.iload_n 1, 1) := by decide +kernel
theorem dX10_tenthsOf_12 : decode cX10_tenthsOf 12 = .ok (.iadd, 1) := by decide +kernel
theorem dX10_tenthsOf_13 : decode cX10_tenthsOf 13 = .ok (.iaload, 1) := by decide +kernel
theorem dX10_tenthsOf_14 : decode cX10_tenthsOf 14 = .ok (.if_icmp .ge 25, 3) := by decide +kernel
theorem dX10_tenthsOf_17 : decode cX10_tenthsOf 17 = .ok (.iload_n 2, 1) := by decide +kernel
theorem dX10_tenthsOf_18 : decode cX10_tenthsOf 18 = .ok (.aload_n 0, 1) := by decide +kernel
theorem dX10_tenthsOf_19 : decode cX10_tenthsOf 19 = .ok (.getfield 20, 3) := by decide +kernel
theorem dX10_tenthsOf_22 : decode cX10_tenthsOf 22 = .ok (.bipush 16, 2) := by decide +kernel
theorem dX10_tenthsOf_24 : decode cX10_tenthsOf 24 = .ok (.iconst 4, 1) := by decide +kernel
theorem dX10_tenthsOf_25 : decode cX10_tenthsOf 25 = .ok (.iload_n 1, 1) := by decide +kernel
theorem dX10_tenthsOf_26 : decode cX10_tenthsOf 26 = .ok (.imul, 1) := by decide +kernel
theorem dX10_tenthsOf_27 : decode cX10_tenthsOf 27 = .ok (.iadd, 1) := by decide +kernel
theorem dX10_tenthsOf_28 : decode cX10_tenthsOf 28 = .ok (.iload_n 3, 1) := by decide +kernel
theorem dX10_tenthsOf_29 : decode cX10_tenthsOf 29 = .ok (.iadd, 1) := by decide +kernel
theorem dX10_tenthsOf_30 : decode cX10_tenthsOf 30 = .ok (.iaload, 1) := by decide +kernel
theorem dX10_tenthsOf_31 : decode cX10_tenthsOf 31 = .ok (.iadd, 1) := by decide +kernel
theorem dX10_tenthsOf_32 : decode cX10_tenthsOf 32 = .ok (.istore_n 2, 1) := by decide +kernel
theorem dX10_tenthsOf_33 : decode cX10_tenthsOf 33 = .ok (.iinc 3 1, 3) := by decide +kernel
theorem dX10_tenthsOf_36 : decode cX10_tenthsOf 36 = .ok (.goto (-32), 3) := by decide +kernel
theorem dX10_tenthsOf_39 : decode cX10_tenthsOf 39 = .ok (.iload_n 2, 1) := by decide +kernel
theorem dX10_tenthsOf_40 : decode cX10_tenthsOf 40 = .ok (.ireturn, 1) := by decide +kernel
def lp_X10_tenthsOf_4 (y1 : Int32)  : Nat → Int32 → Int32 → Mm → Option (Int32 × Mm)
  | 0, _, _, _ => none
  | n + 1, y2, y3, M =>
    gd (inb ((nI 11) + y1) 141) <| if (M 84 ((nI 11) + y1).toNatClampNeg) ≤ y3 then (some (y2, M)) else (gd (inb (((nI 16) + ((nI 4) * y1)) + y3) 141) <| lt ((y2 + (M 84 (((nI 16) + ((nI 4) * y1)) + y3).toNatClampNeg))) fun t1 => lp_X10_tenthsOf_4 y1 n t1 (y3 + (nI 1)) M)
def f_X10_tenthsOf (x1 : Int32) (M : Mm) : Option (Int32 × Mm) :=
  lp_X10_tenthsOf_4 x1  N0 (nI 0) (nI 0) M
set_option maxHeartbeats 4000000 in
set_option maxRecDepth 100000 in
theorem sl_X10_tenthsOf_4 {l : Launch} {B : BT} (hA : bA B = false) {d : Nat} {r : Int32} {M' : Mm} {y1 : Int32}    :
    ∀ (n : Nat) (y2 : Int32) (y3 : Int32) (M : Mm), lp_X10_tenthsOf_4 y1 n y2 y3 M = some (r, M') → GG l B LY (d + 0) yX10_tenthsOf cX10_tenthsOf 4 (some .int) 0 0 (PI r M') 97 0 0 4 [(0, .ref 81), (1, .int y1), (2, .int y2), (3, .int y3)] [] M := by
  intro n
  induction n with
  | zero => intro y2 y3 M h; cases h
  | succ n ih =>
    intro y2 y3 M h
    rw [lp_X10_tenthsOf_4] at h
    refine g_iload_n dX10_tenthsOf_4 rfl 3 rfl ?_
    refine g_aload_n dX10_tenthsOf_5 rfl 0 rfl ?_
    refine m_getr (k := 15) okX10 rfl rfl (by decide) w_1284 rfl dX10_tenthsOf_6 ?_
    refine g_bipush (v := (nI 11)) dX10_tenthsOf_9 (by decide) ?_
    refine g_iload_n dX10_tenthsOf_11 rfl 1 rfl ?_
    refine g_iadd dX10_tenthsOf_12 ?_
    obtain ⟨hz, h⟩ := gd_s h
    refine m_iald rfl hz dX10_tenthsOf_13 ?_
    refine g_icmp_ge (tgt := 39) dX10_tenthsOf_14 (by decide) (fun c2 => ?_) (fun c2 => ?_)
    · replace h := ite_p c2 h
      refine g_iload_n dX10_tenthsOf_39 rfl 2 rfl ?_
      exact g_zret rfl rfl (pi_of h) dX10_tenthsOf_40
    · replace h := ite_n c2 h
      refine g_iload_n dX10_tenthsOf_17 rfl 2 rfl ?_
      refine g_aload_n dX10_tenthsOf_18 rfl 0 rfl ?_
      refine m_getr (k := 15) okX10 rfl rfl (by decide) w_1284 rfl dX10_tenthsOf_19 ?_
      refine g_bipush (v := (nI 16)) dX10_tenthsOf_22 (by decide) ?_
      refine g_iconst (v := (nI 4)) dX10_tenthsOf_24 (by decide) ?_
      refine g_iload_n dX10_tenthsOf_25 rfl 1 rfl ?_
      refine g_imul dX10_tenthsOf_26 ?_
      refine g_iadd dX10_tenthsOf_27 ?_
      refine g_iload_n dX10_tenthsOf_28 rfl 3 rfl ?_
      refine g_iadd dX10_tenthsOf_29 ?_
      obtain ⟨hz, h⟩ := gd_s h
      refine m_iald rfl hz dX10_tenthsOf_30 ?_
      refine g_iadd dX10_tenthsOf_31 ?_
      obtain ⟨t1, et1, h⟩ := lt_e h
      refine g_cuti et1 ?_
      refine g_istore_n (lv' := [(2, .int t1), (0, .ref 81), (1, .int y1), (3, .int y3)]) dX10_tenthsOf_32 rfl (by decide) rfl ?_
      refine g_iinc (v := (y3 + (nI 1))) (lv' := [(3, .int (y3 + (nI 1))), (2, .int t1), (0, .ref 81), (1, .int y1)]) dX10_tenthsOf_33 3 rfl rfl (by decide) rfl ?_
      refine g_goto (tgt := 4) dX10_tenthsOf_36 (by decide) ?_
      refine g_sub [2, 3, 1, 0] (lv' := [(0, .ref 81), (1, .int y1), (2, .int t1), (3, .int (y3 + (nI 1)))]) rfl ?_
      exact ih _ _  _ h
set_option maxHeartbeats 4000000 in
set_option maxRecDepth 100000 in
theorem s_X10_tenthsOf {l : Launch} {B : BT} (hA : bA B = false) {d : Nat} {r : Int32} {M' : Mm} {x1 : Int32} {M : Mm}  (h : f_X10_tenthsOf x1 M = some (r, M')) : Con l B LY (d + 0) yX10_tenthsOf cX10_tenthsOf 4 (some .int) 0 0 [.ref 81, .int x1] 97 M (PI r M') := by
  refine con_of (by decide) (Nat.le_of_ble_eq_true rfl) ?_
  show GG l B LY (d + 0) yX10_tenthsOf cX10_tenthsOf 4 (some .int) 0 0 (PI r M') 97 0 0 0 [(0, .ref 81), (1, .int x1)] [] M
  rw [f_X10_tenthsOf] at h
  refine g_iconst (v := (nI 0)) dX10_tenthsOf_0 (by decide) ?_
  refine g_istore_n (lv' := [(2, .int (nI 0)), (0, .ref 81), (1, .int x1)]) dX10_tenthsOf_1 rfl (by decide) rfl ?_
  refine g_iconst (v := (nI 0)) dX10_tenthsOf_2 (by decide) ?_
  refine g_istore_n (lv' := [(3, .int (nI 0)), (2, .int (nI 0)), (0, .ref 81), (1, .int x1)]) dX10_tenthsOf_3 rfl (by decide) rfl ?_
  refine g_sub [2, 3, 1, 0] (lv' := [(0, .ref 81), (1, .int x1), (2, .int (nI 0)), (3, .int (nI 0))]) rfl ?_
  refine sl_X10_tenthsOf_4 hA   _ _ _ _ h
theorem ck_X10_tenthsOf : CKV yX10_tenthsOf cX10_tenthsOf 4 (some .int) 1 := ⟨⟨by decide, by decide, by decide +kernel⟩, w_1527, w_81, ⟨w_1526, w_33⟩, by decide⟩
theorem dX10_loudest_0 : decode cX10_loudest 0 = .ok (.iconst 0, 1) := by decide +kernel
theorem dX10_loudest_1 : decode cX10_loudest 1 = .ok (.istore_n 3, 1) := by decide +kernel
theorem dX10_loudest_2 : decode cX10_loudest 2 = .ok (.iconst 0, 1) := by decide +kernel
theorem dX10_loudest_3 : decode cX10_loudest 3 = .ok (.istore 4, 2) := by decide +kernel
theorem dX10_loudest_5 : decode cX10_loudest 5 = .ok (.iload 4, 2) := by decide +kernel
theorem dX10_loudest_7 : decode cX10_loudest 7 = .ok (.aload_n 0, 1) := by decide +kernel
theorem dX10_loudest_8 : decode cX10_loudest 8 = .ok (.getfield 20, 3) := by decide +kernel
theorem dX10_loudest_11 : decode cX10_loudest 11 = .ok (.bipush 94, 2) := by decide +kernel
theorem dX10_loudest_13 : decode cX10_loudest 13 = .ok (.iaload, 1) := by decide +kernel
theorem dX10_loudest_14 : decode cX10_loudest 14 = .ok (.if_icmp .ge 91, 3) := by decide +kernel
theorem dX10_loudest_17 : decode cX10_loudest 17 = .ok (.aload_n 0, 1) := by decide +kernel
theorem dX10_loudest_18 : decode cX10_loudest 18 = .ok (.getfield 20, 3) := by decide +kernel
theorem dX10_loudest_21 : decode cX10_loudest 21 = .ok (.bipush 36, 2) := by decide +kernel
theorem dX10_loudest_23 : decode cX10_loudest 23 = .ok (.iload 4, 2) := by decide +kernel
theorem dX10_loudest_25 : decode cX10_loudest 25 = .ok (.iadd, 1) := by decide +kernel
theorem dX10_loudest_26 : decode cX10_loudest 26 = .ok (.iaload, 1) := by decide +kernel
theorem dX10_loudest_27 : decode cX10_loudest 27 = .ok (.iload_n 1, 1) := by decide +kernel
theorem dX10_loudest_28 : decode cX10_loudest 28 = .ok (.if_icmp .ne 48, 3) := by decide +kernel
theorem dX10_loudest_31 : decode cX10_loudest 31 = .ok (.iload_n 2, 1) := by decide +kernel
theorem dX10_loudest_32 : decode cX10_loudest 32 = .ok (.aload_n 0, 1) := by decide +kernel
theorem dX10_loudest_33 : decode cX10_loudest 33 = .ok (.getfield 20, 3) := by decide +kernel
theorem dX10_loudest_36 : decode cX10_loudest 36 = .ok (.bipush 41, 2) := by decide +kernel
theorem dX10_loudest_38 : decode cX10_loudest 38 = .ok (.iload 4, 2) := by decide +kernel
theorem dX10_loudest_40 : decode cX10_loudest 40 = .ok (.iadd, 1) := by decide +kernel
theorem dX10_loudest_41 : decode cX10_loudest 41 = .ok (.iaload, 1) := by decide +kernel
theorem dX10_loudest_42 : decode cX10_loudest 42 = .ok (.aload_n 0, 1) := by decide +kernel
theorem dX10_loudest_43 : decode cX10_loudest 43 = .ok (.getfield 20, 3) := by decide +kernel
theorem dX10_loudest_46 : decode cX10_loudest 46 = .ok (.bipush 46, 2) := by decide +kernel
theorem dX10_loudest_48 : decode cX10_loudest 48 = .ok (.iload 4, 2) := by decide +kernel
theorem dX10_loudest_50 : decode cX10_loudest 50 = .ok (.iadd, 1) := by decide +kernel
theorem dX10_loudest_51 : decode cX10_loudest 51 = .ok (.iaload, 1) := by decide +kernel
theorem dX10_loudest_52 : decode cX10_loudest 52 = .ok (.invokestatic 144, 3) := by decide +kernel
theorem dX10_loudest_55 : decode cX10_loudest 55 = .ok (.ifCond .eq 21, 3) := by decide +kernel
theorem dX10_loudest_58 : decode cX10_loudest 58 = .ok (.aload_n 0, 1) := by decide +kernel
theorem dX10_loudest_59 : decode cX10_loudest 59 = .ok (.getfield 20, 3) := by decide +kernel
theorem dX10_loudest_62 : decode cX10_loudest 62 = .ok (.bipush 51, 2) := by decide +kernel
theorem dX10_loudest_64 : decode cX10_loudest 64 = .ok (.iload 4, 2) := by decide +kernel
theorem dX10_loudest_66 : decode cX10_loudest 66 = .ok (.iadd, 1) := by decide +kernel
theorem dX10_loudest_67 : decode cX10_loudest 67 = .ok (.iaload, 1) := by decide +kernel
theorem dX10_loudest_68 : decode cX10_loudest 68 = .ok (.iload_n 3, 1) := by decide +kernel
theorem dX10_loudest_69 : decode cX10_loudest 69 = .ok (.if_icmp .le 7, 3) := by decide +kernel
theorem dX10_loudest_72 : decode cX10_loudest 72 = .ok (.iconst 1, 1) := by decide +kernel
theorem dX10_loudest_73 : decode cX10_loudest 73 = .ok (.goto 4, 3) := by decide +kernel
theorem dX10_loudest_76 : decode cX10_loudest 76 = .ok (.iconst 0, 1) := by decide +kernel
theorem dX10_loudest_77 : decode cX10_loudest 77 = .ok (.istore 5, 2) := by decide +kernel
theorem dX10_loudest_79 : decode cX10_loudest 79 = .ok (.iload 5, 2) := by decide +kernel
theorem dX10_loudest_81 : decode cX10_loudest 81 = .ok (.ifCond .eq 16, 3) := by decide +kernel
theorem dX10_loudest_84 : decode cX10_loudest 84 = .ok (.aload_n 0, 1) := by decide +kernel
theorem dX10_loudest_85 : decode cX10_loudest 85 = .ok (.getfield 20, 3) := by decide +kernel
theorem dX10_loudest_88 : decode cX10_loudest 88 = .ok (.bipush 51, 2) := by decide +kernel
theorem dX10_loudest_90 : decode cX10_loudest 90 = .ok (.iload 4, 2) := by decide +kernel
theorem dX10_loudest_92 : decode cX10_loudest 92 = .ok (.iadd, 1) := by decide +kernel
theorem dX10_loudest_93 : decode cX10_loudest 93 = .ok (.iaload, 1) := by decide +kernel
theorem dX10_loudest_94 : decode cX10_loudest 94 = .ok (.goto 4, 3) := by decide +kernel
theorem dX10_loudest_97 : decode cX10_loudest 97 = .ok (.iload_n 3, 1) := by decide +kernel
theorem dX10_loudest_98 : decode cX10_loudest 98 = .ok (.istore_n 3, 1) := by decide +kernel
theorem dX10_loudest_99 : decode cX10_loudest 99 = .ok (.iinc 4 1, 3) := by decide +kernel
theorem dX10_loudest_102 : decode cX10_loudest 102 = .ok (.goto (-97), 3) := by decide +kernel
theorem dX10_loudest_105 : decode cX10_loudest 105 = .ok (.iload_n 3, 1) := by decide +kernel
theorem dX10_loudest_106 : decode cX10_loudest 106 = .ok (.ireturn, 1) := by decide +kernel
def lp_X10_loudest_5 (y1 : Int32) (y2 : Int32)  : Nat → Int32 → Int32 → Mm → Option (Int32 × Mm)
  | 0, _, _, _ => none
  | n + 1, y3, y4, M =>
    if (M 84 94) ≤ y4 then (some (y3, M)) else (gd (inb ((nI 36) + y4) 141) <| jn (fun (s1 : Int32) (M2 : Mm) => jn (fun (s4 : Int32) (M5 : Mm) => lp_X10_loudest_5 y1 y2 n s4 (y4 + (nI 1)) M5) fun j6 => if s1 = 0 then (j6 y3 M2) else (gd (inb ((nI 51) + y4) 141) <| j6 (M2 84 ((nI 51) + y4).toNatClampNeg) M2)) fun j3 => jn (fun (M8 : Mm) => j3 (nI 0) M8) fun j9 => if (M 84 ((nI 36) + y4).toNatClampNeg) = y1 then (gd (inb ((nI 41) + y4) 141) <| gd (inb ((nI 46) + y4) 141) <| bd (f_X10_within y2 (M 84 ((nI 41) + y4).toNatClampNeg) (M 84 ((nI 46) + y4).toNatClampNeg) M) fun v52_11 M52_10 => if v52_11 = 0 then (j9  M52_10) else (gd (inb ((nI 51) + y4) 141) <| if (M52_10 84 ((nI 51) + y4).toNatClampNeg) ≤ y3 then (j9  M52_10) else (j3 (nI 1) M52_10))) else (j9  M))
def f_X10_loudest (x1 : Int32) (x2 : Int32) (M : Mm) : Option (Int32 × Mm) :=
  lp_X10_loudest_5 x1 x2  N0 (nI 0) (nI 0) M
set_option maxHeartbeats 4000000 in
set_option maxRecDepth 100000 in
theorem sl_X10_loudest_5 {l : Launch} {B : BT} (hA : bA B = false) {d : Nat} {r : Int32} {M' : Mm} {y1 : Int32} {y2 : Int32}    :
    ∀ (n : Nat) (y3 : Int32) (y4 : Int32) (M : Mm), lp_X10_loudest_5 y1 y2 n y3 y4 M = some (r, M') → GG l B LY (d + 1) yX10_loudest cX10_loudest 6 (some .int) 0 0 (PI r M') 97 0 0 5 [(0, .ref 81), (1, .int y1), (2, .int y2), (3, .int y3), (4, .int y4)] [] M := by
  intro n
  induction n with
  | zero => intro y3 y4 M h; cases h
  | succ n ih =>
    intro y3 y4 M h
    rw [lp_X10_loudest_5] at h
    refine g_iload dX10_loudest_5 4 rfl ?_
    refine g_aload_n dX10_loudest_7 rfl 0 rfl ?_
    refine m_getr (k := 15) okX10 rfl rfl (by decide) w_1284 rfl dX10_loudest_8 ?_
    refine g_bipush (v := (nI 94)) dX10_loudest_11 (by decide) ?_
    refine m_ialdL (k := 94) rfl rfl (by decide) dX10_loudest_13 ?_
    refine g_icmp_ge (tgt := 105) dX10_loudest_14 (by decide) (fun c15 => ?_) (fun c15 => ?_)
    · replace h := ite_p c15 h
      refine g_iload_n dX10_loudest_105 rfl 3 rfl ?_
      exact g_zret rfl rfl (pi_of h) dX10_loudest_106
    · replace h := ite_n c15 h
      refine g_aload_n dX10_loudest_17 rfl 0 rfl ?_
      refine m_getr (k := 15) okX10 rfl rfl (by decide) w_1284 rfl dX10_loudest_18 ?_
      refine g_bipush (v := (nI 36)) dX10_loudest_21 (by decide) ?_
      refine g_iload dX10_loudest_23 4 rfl ?_
      refine g_iadd dX10_loudest_25 ?_
      obtain ⟨hz, h⟩ := gd_s h
      refine m_iald rfl hz dX10_loudest_26 ?_
      refine g_iload_n dX10_loudest_27 rfl 1 rfl ?_
      obtain ⟨j3, ej3, h⟩ := jn_e h
      have hj3 : ∀ (s1 : Int32) (M2 : Mm), j3 s1 M2 = some (r, M') → GG l B LY (d + 1) yX10_loudest cX10_loudest 6 (some .int) 0 0 (PI r M') 97 0 0 77 [(0, .ref 81), (1, .int y1), (2, .int y2), (3, .int y3), (4, .int y4)] [.int s1] M2 := by
        intro s1 M2 h
        rw [ej3] at h
        refine g_istore (lv' := [(5, .int s1), (0, .ref 81), (1, .int y1), (2, .int y2), (3, .int y3), (4, .int y4)]) dX10_loudest_77 (by decide) rfl ?_
        refine g_iload dX10_loudest_79 0 rfl ?_
        obtain ⟨j6, ej6, h⟩ := jn_e h
        have hj6 : ∀ (s4 : Int32) (M5 : Mm), j6 s4 M5 = some (r, M') → GG l B LY (d + 1) yX10_loudest cX10_loudest 6 (some .int) 0 0 (PI r M') 97 0 0 98 [(0, .ref 81), (1, .int y1), (2, .int y2), (4, .int y4)] [.int s4] M5 := by
          intro s4 M5 h
          rw [ej6] at h
          refine g_istore_n (lv' := [(3, .int s4), (0, .ref 81), (1, .int y1), (2, .int y2), (4, .int y4)]) dX10_loudest_98 rfl (by decide) rfl ?_
          refine g_iinc (v := (y4 + (nI 1))) (lv' := [(4, .int (y4 + (nI 1))), (3, .int s4), (0, .ref 81), (1, .int y1), (2, .int y2)]) dX10_loudest_99 4 rfl rfl (by decide) rfl ?_
          refine g_goto (tgt := 5) dX10_loudest_102 (by decide) ?_
          refine g_sub [2, 3, 4, 1, 0] (lv' := [(0, .ref 81), (1, .int y1), (2, .int y2), (3, .int s4), (4, .int (y4 + (nI 1)))]) rfl ?_
          exact ih _ _  _ h
        refine g_if_eq (tgt := 97) dX10_loudest_81 (by decide) (fun c7 => ?_) (fun c7 => ?_)
        · replace h := ite_p c7 h
          refine g_iload_n dX10_loudest_97 rfl 4 rfl ?_
          refine g_sub [1, 2, 3, 5] (lv' := [(0, .ref 81), (1, .int y1), (2, .int y2), (4, .int y4)]) rfl ?_
          exact hj6 _ _ h
        · replace h := ite_n c7 h
          refine g_aload_n dX10_loudest_84 rfl 1 rfl ?_
          refine m_getr (k := 15) okX10 rfl rfl (by decide) w_1284 rfl dX10_loudest_85 ?_
          refine g_bipush (v := (nI 51)) dX10_loudest_88 (by decide) ?_
          refine g_iload dX10_loudest_90 5 rfl ?_
          refine g_iadd dX10_loudest_92 ?_
          obtain ⟨hz, h⟩ := gd_s h
          refine m_iald rfl hz dX10_loudest_93 ?_
          refine g_goto (tgt := 98) dX10_loudest_94 (by decide) ?_
          refine g_sub [1, 2, 3, 5] (lv' := [(0, .ref 81), (1, .int y1), (2, .int y2), (4, .int y4)]) rfl ?_
          exact hj6 _ _ h
      obtain ⟨j9, ej9, h⟩ := jn_e h
      have hj9 : ∀ (M8 : Mm), j9 M8 = some (r, M') → GG l B LY (d + 1) yX10_loudest cX10_loudest 6 (some .int) 0 0 (PI r M') 97 0 0 76 [(0, .ref 81), (1, .int y1), (2, .int y2), (3, .int y3), (4, .int y4)] [] M8 := by
        intro M8 h
        rw [ej9] at h
        refine g_iconst (v := (nI 0)) dX10_loudest_76 (by decide) ?_
        refine g_sub [0, 1, 2, 3, 4] (lv' := [(0, .ref 81), (1, .int y1), (2, .int y2), (3, .int y3), (4, .int y4)]) rfl ?_
        exact hj3 _ _ h
      refine g_icmp_ne (tgt := 76) dX10_loudest_28 (by decide) (fun c14 => ?_) (fun c14 => ?_)
      · replace h := ite_n c14 h
        refine g_sub [0, 1, 2, 3, 4] (lv' := [(0, .ref 81), (1, .int y1), (2, .int y2), (3, .int y3), (4, .int y4)]) rfl ?_
        exact hj9  _ h
      · replace h := ite_p c14 h
        refine g_iload_n dX10_loudest_31 rfl 2 rfl ?_
        refine g_aload_n dX10_loudest_32 rfl 0 rfl ?_
        refine m_getr (k := 15) okX10 rfl rfl (by decide) w_1284 rfl dX10_loudest_33 ?_
        refine g_bipush (v := (nI 41)) dX10_loudest_36 (by decide) ?_
        refine g_iload dX10_loudest_38 4 rfl ?_
        refine g_iadd dX10_loudest_40 ?_
        obtain ⟨hz, h⟩ := gd_s h
        refine m_iald rfl hz dX10_loudest_41 ?_
        refine g_aload_n dX10_loudest_42 rfl 0 rfl ?_
        refine m_getr (k := 15) okX10 rfl rfl (by decide) w_1284 rfl dX10_loudest_43 ?_
        refine g_bipush (v := (nI 46)) dX10_loudest_46 (by decide) ?_
        refine g_iload dX10_loudest_48 4 rfl ?_
        refine g_iadd dX10_loudest_50 ?_
        obtain ⟨hz, h⟩ := gd_s h
        refine m_iald rfl hz dX10_loudest_51 ?_
        obtain ⟨v52_11, M52_10, eM52_10, h⟩ := bd_e h
        refine m_callSi (As := [.int y2, .int (M 84 ((nI 41) + y4).toNatClampNeg), .int (M 84 ((nI 46) + y4).toNatClampNeg)]) (st := []) (s_X10_within (d := d + 0) hA  eM52_10) ck_X10_within w_1385 rfl (Nat.le_of_ble_eq_true rfl) dX10_loudest_52 ?_
        refine g_if_eq (tgt := 76) dX10_loudest_55 (by decide) (fun c13 => ?_) (fun c13 => ?_)
        · replace h := ite_p c13 h
          refine g_sub [0, 1, 2, 3, 4] (lv' := [(0, .ref 81), (1, .int y1), (2, .int y2), (3, .int y3), (4, .int y4)]) rfl ?_
          exact hj9  _ h
        · replace h := ite_n c13 h
          refine g_aload_n dX10_loudest_58 rfl 0 rfl ?_
          refine m_getr (k := 15) okX10 rfl rfl (by decide) w_1284 rfl dX10_loudest_59 ?_
          refine g_bipush (v := (nI 51)) dX10_loudest_62 (by decide) ?_
          refine g_iload dX10_loudest_64 4 rfl ?_
          refine g_iadd dX10_loudest_66 ?_
          obtain ⟨hz, h⟩ := gd_s h
          refine m_iald rfl hz dX10_loudest_67 ?_
          refine g_iload_n dX10_loudest_68 rfl 3 rfl ?_
          refine g_icmp_le (tgt := 76) dX10_loudest_69 (by decide) (fun c12 => ?_) (fun c12 => ?_)
          · replace h := ite_p c12 h
            refine g_sub [0, 1, 2, 3, 4] (lv' := [(0, .ref 81), (1, .int y1), (2, .int y2), (3, .int y3), (4, .int y4)]) rfl ?_
            exact hj9  _ h
          · replace h := ite_n c12 h
            refine g_iconst (v := (nI 1)) dX10_loudest_72 (by decide) ?_
            refine g_goto (tgt := 77) dX10_loudest_73 (by decide) ?_
            refine g_sub [0, 1, 2, 3, 4] (lv' := [(0, .ref 81), (1, .int y1), (2, .int y2), (3, .int y3), (4, .int y4)]) rfl ?_
            exact hj3 _ _ h
set_option maxHeartbeats 4000000 in
set_option maxRecDepth 100000 in
theorem s_X10_loudest {l : Launch} {B : BT} (hA : bA B = false) {d : Nat} {r : Int32} {M' : Mm} {x1 : Int32} {x2 : Int32} {M : Mm}  (h : f_X10_loudest x1 x2 M = some (r, M')) : Con l B LY (d + 1) yX10_loudest cX10_loudest 6 (some .int) 0 0 [.ref 81, .int x1, .int x2] 97 M (PI r M') := by
  refine con_of (by decide) (Nat.le_of_ble_eq_true rfl) ?_
  show GG l B LY (d + 1) yX10_loudest cX10_loudest 6 (some .int) 0 0 (PI r M') 97 0 0 0 [(0, .ref 81), (1, .int x1), (2, .int x2)] [] M
  rw [f_X10_loudest] at h
  refine g_iconst (v := (nI 0)) dX10_loudest_0 (by decide) ?_
  refine g_istore_n (lv' := [(3, .int (nI 0)), (0, .ref 81), (1, .int x1), (2, .int x2)]) dX10_loudest_1 rfl (by decide) rfl ?_
  refine g_iconst (v := (nI 0)) dX10_loudest_2 (by decide) ?_
  refine g_istore (lv' := [(4, .int (nI 0)), (3, .int (nI 0)), (0, .ref 81), (1, .int x1), (2, .int x2)]) dX10_loudest_3 (by decide) rfl ?_
  refine g_sub [2, 3, 4, 1, 0] (lv' := [(0, .ref 81), (1, .int x1), (2, .int x2), (3, .int (nI 0)), (4, .int (nI 0))]) rfl ?_
  refine sl_X10_loudest_5 hA   _ _ _ _ h
theorem ck_X10_loudest : CKV yX10_loudest cX10_loudest 6 (some .int) 2 := ⟨⟨by decide, by decide, by decide +kernel⟩, w_1531, w_81, ⟨w_1530, w_34⟩, by decide⟩
theorem dX10_goesNow_0 : decode cX10_goesNow 0 = .ok (.aload_n 0, 1) := by decide +kernel
theorem dX10_goesNow_1 : decode cX10_goesNow 1 = .ok (.getfield 20, 3) := by decide +kernel
theorem dX10_goesNow_4 : decode cX10_goesNow 4 = .ok (.bipush 81, 2) := by decide +kernel
theorem dX10_goesNow_6 : decode cX10_goesNow 6 = .ok (.iload_n 1, 1) := by decide +kernel
theorem dX10_goesNow_7 : decode cX10_goesNow 7 = .ok (.iadd, 1) := by decide +kernel
theorem dX10_goesNow_8 : decode cX10_goesNow 8 = .ok (.iaload, 1) := by decide +kernel
theorem dX10_goesNow_9 : decode cX10_goesNow 9 = .ok (.ifCond .ne 5, 3) := by decide +kernel
theorem dX10_goesNow_12 : decode cX10_goesNow 12 = .ok (.iconst 1, 1) := by decide +kernel
theorem dX10_goesNow_13 : decode cX10_goesNow 13 = .ok (.ireturn, 1) := by decide +kernel
theorem dX10_goesNow_14 : decode cX10_goesNow 14 = .ok (.aload_n 0, 1) := by decide +kernel
theorem dX10_goesNow_15 : decode cX10_goesNow 15 = .ok (.getfield 20, 3) := by decide +kernel
theorem dX10_goesNow_18 : decode cX10_goesNow 18 = .ok (.bipush 81, 2) := by decide +kernel
theorem dX10_goesNow_20 : decode cX10_goesNow 20 = .ok (.iload_n 1, 1) := by decide +kernel
theorem dX10_goesNow_21 : decode cX10_goesNow 21 = .ok (.iadd, 1) := by decide +kernel
theorem dX10_goesNow_22 : decode cX10_goesNow 22 = .ok (.iaload, 1) := by decide +kernel
theorem dX10_goesNow_23 : decode cX10_goesNow 23 = .ok (.iconst 1, 1) := by decide +kernel
theorem dX10_goesNow_24 : decode cX10_goesNow 24 = .ok (.if_icmp .ne 27, 3) := by decide +kernel
theorem dX10_goesNow_27 : decode cX10_goesNow 27 = .ok (.aload_n 0, 1) := by decide +kernel
theorem dX10_goesNow_28 : decode cX10_goesNow 28 = .ok (.getfield 26, 3) := by decide +kernel
theorem dX10_goesNow_31 : decode cX10_goesNow 31 = .ok (.iconst 0, 1) := by decide +kernel
theorem dX10_goesNow_32 : decode cX10_goesNow 32 = .ok (.iaload, 1) := by decide +kernel
theorem dX10_goesNow_33 : decode cX10_goesNow 33 = .ok (.aload_n 0, 1) := by decide +kernel
theorem dX10_goesNow_34 : decode cX10_goesNow 34 = .ok (.getfield 20, 3) := by decide +kernel
theorem dX10_goesNow_37 : decode cX10_goesNow 37 = .ok (.bipush 86, 2) := by decide +kernel
theorem dX10_goesNow_39 : decode cX10_goesNow 39 = .ok (.iload_n 1, 1) := by decide +kernel
theorem dX10_goesNow_40 : decode cX10_goesNow 40 = .ok (.iadd, 1) := by decide +kernel
theorem dX10_goesNow_41 : decode cX10_goesNow 41 = .ok (.iaload, 1) := by decide +kernel
theorem dX10_goesNow_42 : decode cX10_goesNow 42 = .ok (.if_icmp .ge 7, 3) := by decide +kernel
theorem dX10_goesNow_45 : decode cX10_goesNow 45 = .ok (.iconst 1, 1) := by decide +kernel
theorem dX10_goesNow_46 : decode cX10_goesNow 46 = .ok (.goto 4, 3) := by decide +kernel
theorem dX10_goesNow_49 : decode cX10_goesNow 49 = .ok (.iconst 0, 1) := by decide +kernel
theorem dX10_goesNow_50 : decode cX10_goesNow 50 = .ok (.ireturn, 1) := by decide +kernel
theorem dX10_goesNow_51 : decode cX10_goesNow 51 = .ok (.aload_n 0, 1) := by decide +kernel
theorem dX10_goesNow_52 : decode cX10_goesNow 52 = .ok (.getfield 26, 3) := by decide +kernel
theorem dX10_goesNow_55 : decode cX10_goesNow 55 = .ok (.iconst 1, 1) := by decide +kernel
theorem dX10_goesNow_56 : decode cX10_goesNow 56 = .ok (.iaload, 1) := by decide +kernel
theorem dX10_goesNow_57 : decode cX10_goesNow 57 = .ok (.aload_n 0, 1) := by decide +kernel
theorem dX10_goesNow_58 : decode cX10_goesNow 58 = .ok (.aload_n 0, 1) := by decide +kernel
theorem dX10_goesNow_59 : decode cX10_goesNow 59 = .ok (.getfield 26, 3) := by decide +kernel
theorem dX10_goesNow_62 : decode cX10_goesNow 62 = .ok (.iconst 0, 1) := by decide +kernel
theorem dX10_goesNow_63 : decode cX10_goesNow 63 = .ok (.iaload, 1) := by decide +kernel
theorem dX10_goesNow_64 : decode cX10_goesNow 64 = .ok (.invokevirtual 237, 3) := by decide +kernel
theorem dX10_goesNow_67 : decode cX10_goesNow 67 = .ok (.aload_n 0, 1) := by decide +kernel
theorem dX10_goesNow_68 : decode cX10_goesNow 68 = .ok (.getfield 20, 3) := by decide +kernel
theorem dX10_goesNow_71 : decode cX10_goesNow 71 = .ok (.bipush 86, 2) := by decide +kernel
theorem dX10_goesNow_73 : decode cX10_goesNow 73 = .ok (.iload_n 1, 1) := by decide +kernel
theorem dX10_goesNow_74 : decode cX10_goesNow 74 = .ok (.iadd, 1) := by decide +kernel
theorem dX10_goesNow_75 : decode cX10_goesNow 75 = .ok (.iaload, 1) := by decide +kernel
theorem dX10_goesNow_76 : decode cX10_goesNow 76 = .ok (.isub, 1) := by decide +kernel
theorem dX10_goesNow_77 : decode cX10_goesNow 77 = .ok (.if_icmp .ge 7, 3) := by decide +kernel
theorem dX10_goesNow_80 : decode cX10_goesNow 80 = .ok (.iconst 1, 1) := by decide +kernel
theorem dX10_goesNow_81 : decode cX10_goesNow 81 = .ok (.goto 4, 3) := by decide +kernel
theorem dX10_goesNow_84 : decode cX10_goesNow 84 = .ok (.iconst 0, 1) := by decide +kernel
theorem dX10_goesNow_85 : decode cX10_goesNow 85 = .ok (.ireturn, 1) := by decide +kernel
def f_X10_goesNow (x1 : Int32) (M : Mm) : Option (Int32 × Mm) :=
  gd (inb ((nI 81) + x1) 141) <| if (M 84 ((nI 81) + x1).toNatClampNeg) = 0 then (some ((nI 1), M)) else (gd (inb ((nI 81) + x1) 141) <| if (M 84 ((nI 81) + x1).toNatClampNeg) = (nI 1) then (gd (inb ((nI 86) + x1) 141) <| if (M 84 ((nI 86) + x1).toNatClampNeg) ≤ (M 86 0) then (some ((nI 0), M)) else (some ((nI 1), M))) else (bd (f_X10_tenthsOf (M 86 0) M) fun v64_2 M64_1 => gd (inb ((nI 86) + x1) 141) <| if (v64_2 - (M64_1 84 ((nI 86) + x1).toNatClampNeg)) ≤ (M 86 1) then (some ((nI 0), M64_1)) else (some ((nI 1), M64_1))))
set_option maxHeartbeats 4000000 in
set_option maxRecDepth 100000 in
theorem s_X10_goesNow {l : Launch} {B : BT} (hA : bA B = false) {d : Nat} {r : Int32} {M' : Mm} {x1 : Int32} {M : Mm}  (h : f_X10_goesNow x1 M = some (r, M')) : Con l B LY (d + 1) yX10_goesNow cX10_goesNow 2 (some .boolean) 0 0 [.ref 81, .int x1] 97 M (PI r M') := by
  refine con_of (by decide) (Nat.le_of_ble_eq_true rfl) ?_
  show GG l B LY (d + 1) yX10_goesNow cX10_goesNow 2 (some .boolean) 0 0 (PI r M') 97 0 0 0 [(0, .ref 81), (1, .int x1)] [] M
  rw [f_X10_goesNow] at h
  refine g_aload_n dX10_goesNow_0 rfl 0 rfl ?_
  refine m_getr (k := 15) okX10 rfl rfl (by decide) w_1284 rfl dX10_goesNow_1 ?_
  refine g_bipush (v := (nI 81)) dX10_goesNow_4 (by decide) ?_
  refine g_iload_n dX10_goesNow_6 rfl 1 rfl ?_
  refine g_iadd dX10_goesNow_7 ?_
  obtain ⟨hz, h⟩ := gd_s h
  refine m_iald rfl hz dX10_goesNow_8 ?_
  refine g_if_ne (tgt := 14) dX10_goesNow_9 (by decide) (fun c6 => ?_) (fun c6 => ?_)
  · replace h := ite_n c6 h
    refine g_aload_n dX10_goesNow_14 rfl 0 rfl ?_
    refine m_getr (k := 15) okX10 rfl rfl (by decide) w_1284 rfl dX10_goesNow_15 ?_
    refine g_bipush (v := (nI 81)) dX10_goesNow_18 (by decide) ?_
    refine g_iload_n dX10_goesNow_20 rfl 1 rfl ?_
    refine g_iadd dX10_goesNow_21 ?_
    obtain ⟨hz, h⟩ := gd_s h
    refine m_iald rfl hz dX10_goesNow_22 ?_
    refine g_iconst (v := (nI 1)) dX10_goesNow_23 (by decide) ?_
    refine g_icmp_ne (tgt := 51) dX10_goesNow_24 (by decide) (fun c5 => ?_) (fun c5 => ?_)
    · replace h := ite_n c5 h
      refine g_aload_n dX10_goesNow_51 rfl 0 rfl ?_
      refine m_getr (k := 17) okX10 rfl rfl (by decide) w_1286 rfl dX10_goesNow_52 ?_
      refine g_iconst (v := (nI 1)) dX10_goesNow_55 (by decide) ?_
      refine m_ialdL (k := 1) rfl rfl (by decide) dX10_goesNow_56 ?_
      refine g_aload_n dX10_goesNow_57 rfl 0 rfl ?_
      refine g_aload_n dX10_goesNow_58 rfl 0 rfl ?_
      refine m_getr (k := 17) okX10 rfl rfl (by decide) w_1286 rfl dX10_goesNow_59 ?_
      refine g_iconst (v := (nI 0)) dX10_goesNow_62 (by decide) ?_
      refine m_ialdL (k := 0) rfl rfl (by decide) dX10_goesNow_63 ?_
      obtain ⟨v64_2, M64_1, eM64_1, h⟩ := bd_e h
      refine m_callVi (As := [.int (M 86 0)]) (st := [.int (M 86 1)]) (s_X10_tenthsOf (d := d + 0) hA  eM64_1) rfl okX10 ck_X10_tenthsOf w_1524 rfl (Nat.le_of_ble_eq_true rfl) dX10_goesNow_64 ?_
      refine g_aload_n dX10_goesNow_67 rfl 0 rfl ?_
      refine m_getr (k := 15) okX10 rfl rfl (by decide) w_1284 rfl dX10_goesNow_68 ?_
      refine g_bipush (v := (nI 86)) dX10_goesNow_71 (by decide) ?_
      refine g_iload_n dX10_goesNow_73 rfl 1 rfl ?_
      refine g_iadd dX10_goesNow_74 ?_
      obtain ⟨hz, h⟩ := gd_s h
      refine m_iald rfl hz dX10_goesNow_75 ?_
      refine g_isub dX10_goesNow_76 ?_
      refine g_icmp_ge (tgt := 84) dX10_goesNow_77 (by decide) (fun c3 => ?_) (fun c3 => ?_)
      · replace h := ite_p c3 h
        refine g_iconst (v := (nI 0)) dX10_goesNow_84 (by decide) ?_
        exact g_zret rfl rfl (pi_of h) dX10_goesNow_85
      · replace h := ite_n c3 h
        refine g_iconst (v := (nI 1)) dX10_goesNow_80 (by decide) ?_
        refine g_goto (tgt := 85) dX10_goesNow_81 (by decide) ?_
        exact g_zret rfl rfl (pi_of h) dX10_goesNow_85
    · replace h := ite_p c5 h
      refine g_aload_n dX10_goesNow_27 rfl 0 rfl ?_
      refine m_getr (k := 17) okX10 rfl rfl (by decide) w_1286 rfl dX10_goesNow_28 ?_
      refine g_iconst (v := (nI 0)) dX10_goesNow_31 (by decide) ?_
      refine m_ialdL (k := 0) rfl rfl (by decide) dX10_goesNow_32 ?_
      refine g_aload_n dX10_goesNow_33 rfl 0 rfl ?_
      refine m_getr (k := 15) okX10 rfl rfl (by decide) w_1284 rfl dX10_goesNow_34 ?_
      refine g_bipush (v := (nI 86)) dX10_goesNow_37 (by decide) ?_
      refine g_iload_n dX10_goesNow_39 rfl 1 rfl ?_
      refine g_iadd dX10_goesNow_40 ?_
      obtain ⟨hz, h⟩ := gd_s h
      refine m_iald rfl hz dX10_goesNow_41 ?_
      refine g_icmp_ge (tgt := 49) dX10_goesNow_42 (by decide) (fun c4 => ?_) (fun c4 => ?_)
      · replace h := ite_p c4 h
        refine g_iconst (v := (nI 0)) dX10_goesNow_49 (by decide) ?_
        exact g_zret rfl rfl (pi_of h) dX10_goesNow_50
      · replace h := ite_n c4 h
        refine g_iconst (v := (nI 1)) dX10_goesNow_45 (by decide) ?_
        refine g_goto (tgt := 50) dX10_goesNow_46 (by decide) ?_
        exact g_zret rfl rfl (pi_of h) dX10_goesNow_50
  · replace h := ite_p c6 h
    refine g_iconst (v := (nI 1)) dX10_goesNow_12 (by decide) ?_
    exact g_zret rfl rfl (pi_of h) dX10_goesNow_13
theorem ck_X10_goesNow : CKV yX10_goesNow cX10_goesNow 2 (some .boolean) 1 := ⟨⟨by decide, by decide, by decide +kernel⟩, w_1523, w_81, ⟨w_1522, w_32⟩, by decide⟩
theorem dX10_needs_0 : decode cX10_needs 0 = .ok (.iload_n 0, 1) := by decide +kernel
theorem dX10_needs_1 : decode cX10_needs 1 = .ok (.iload_n 1, 1) := by decide +kernel
theorem dX10_needs_2 : decode cX10_needs 2 = .ok (.imul, 1) := by decide +kernel
theorem dX10_needs_3 : decode cX10_needs 3 = .ok (.iconst 1, 1) := by decide +kernel
theorem dX10_needs_4 : decode cX10_needs 4 = .ok (.iadd, 1) := by decide +kernel
theorem dX10_needs_5 : decode cX10_needs 5 = .ok (.iconst 2, 1) := by decide +kernel
theorem dX10_needs_6 : decode cX10_needs 6 = .ok (.idiv, 1) := by decide +kernel
theorem dX10_needs_7 : decode cX10_needs 7 = .ok (.ireturn, 1) := by decide +kernel
def f_X10_needs (x0 : Int32) (x1 : Int32) (M : Mm) : Option (Int32 × Mm) :=
  some ((((x0 * x1) + (nI 1)) / (nI 2)), M)
set_option maxHeartbeats 4000000 in
set_option maxRecDepth 100000 in
theorem s_X10_needs {l : Launch} {B : BT} (hA : bA B = false) {d : Nat} {r : Int32} {M' : Mm} {x0 : Int32} {x1 : Int32} {M : Mm}  (h : f_X10_needs x0 x1 M = some (r, M')) : Con l B LY (d + 0) yX10_needs cX10_needs 2 (some .int) 0 0 [.int x0, .int x1] 97 M (PI r M') := by
  refine con_of (by decide) (Nat.le_of_ble_eq_true rfl) ?_
  show GG l B LY (d + 0) yX10_needs cX10_needs 2 (some .int) 0 0 (PI r M') 97 0 0 0 [(0, .int x0), (1, .int x1)] [] M
  rw [f_X10_needs] at h
  refine g_iload_n dX10_needs_0 rfl 0 rfl ?_
  refine g_iload_n dX10_needs_1 rfl 1 rfl ?_
  refine g_imul dX10_needs_2 ?_
  refine g_iconst (v := (nI 1)) dX10_needs_3 (by decide) ?_
  refine g_iadd dX10_needs_4 ?_
  refine g_iconst (v := (nI 2)) dX10_needs_5 (by decide) ?_
  refine g_idiv dX10_needs_6 (by decide) ?_
  exact g_zret rfl rfl (pi_of h) dX10_needs_7
theorem ck_X10_needs : CKS yX10_needs cX10_needs 2 (some .int) 2 := ⟨⟨by decide, by decide, by decide +kernel⟩, w_1542, w_81, w_1541, by decide⟩
theorem dX10_isCaught_0 : decode cX10_isCaught 0 = .ok (.iload_n 2, 1) := by decide +kernel
theorem dX10_isCaught_1 : decode cX10_isCaught 1 = .ok (.aload_n 0, 1) := by decide +kernel
theorem dX10_isCaught_2 : decode cX10_isCaught 2 = .ok (.getfield 20, 3) := by decide +kernel
theorem dX10_isCaught_5 : decode cX10_isCaught 5 = .ok (.bipush 61, 2) := by decide +kernel
theorem dX10_isCaught_7 : decode cX10_isCaught 7 = .ok (.iload_n 1, 1) := by decide +kernel
theorem dX10_isCaught_8 : decode cX10_isCaught 8 = .ok (.iadd, 1) := by decide +kernel
theorem dX10_isCaught_9 : decode cX10_isCaught 9 = .ok (.iaload, 1) := by decide +kernel
theorem dX10_isCaught_10 : decode cX10_isCaught 10 = .ok (.invokestatic 255, 3) := by decide +kernel
theorem dX10_isCaught_13 : decode cX10_isCaught 13 = .ok (.aload_n 0, 1) := by decide +kernel
theorem dX10_isCaught_14 : decode cX10_isCaught 14 = .ok (.getfield 20, 3) := by decide +kernel
theorem dX10_isCaught_17 : decode cX10_isCaught 17 = .ok (.iconst 0, 1) := by decide +kernel
theorem dX10_isCaught_18 : decode cX10_isCaught 18 = .ok (.iaload, 1) := by decide +kernel
theorem dX10_isCaught_19 : decode cX10_isCaught 19 = .ok (.aload_n 0, 1) := by decide +kernel
theorem dX10_isCaught_20 : decode cX10_isCaught 20 = .ok (.getfield 20, 3) := by decide +kernel
theorem dX10_isCaught_23 : decode cX10_isCaught 23 = .ok (.iconst 2, 1) := by decide +kernel
theorem dX10_isCaught_24 : decode cX10_isCaught 24 = .ok (.iaload, 1) := by decide +kernel
theorem dX10_isCaught_25 : decode cX10_isCaught 25 = .ok (.imul, 1) := by decide +kernel
theorem dX10_isCaught_26 : decode cX10_isCaught 26 = .ok (.if_icmp .le 7, 3) := by decide +kernel
theorem dX10_isCaught_29 : decode cX10_isCaught 29 = .ok (.iconst 1, 1) := by decide +kernel
theorem dX10_isCaught_30 : decode cX10_isCaught 30 = .ok (.goto 4, 3) := by decide +kernel
theorem dX10_isCaught_33 : decode cX10_isCaught 33 = .ok (.iconst 0, 1) := by decide +kernel
theorem dX10_isCaught_34 : decode cX10_isCaught 34 = .ok (.ireturn, 1) := by decide +kernel
def f_X10_isCaught (x1 : Int32) (x2 : Int32) (M : Mm) : Option (Int32 × Mm) :=
  gd (inb ((nI 61) + x1) 141) <| bd (f_X10_needs x2 (M 84 ((nI 61) + x1).toNatClampNeg) M) fun v10_2 M10_1 => if v10_2 ≤ ((M10_1 84 0) * (M10_1 84 2)) then (some ((nI 0), M10_1)) else (some ((nI 1), M10_1))
set_option maxHeartbeats 4000000 in
set_option maxRecDepth 100000 in
theorem s_X10_isCaught {l : Launch} {B : BT} (hA : bA B = false) {d : Nat} {r : Int32} {M' : Mm} {x1 : Int32} {x2 : Int32} {M : Mm}  (h : f_X10_isCaught x1 x2 M = some (r, M')) : Con l B LY (d + 1) yX10_isCaught cX10_isCaught 3 (some .boolean) 0 0 [.ref 81, .int x1, .int x2] 97 M (PI r M') := by
  refine con_of (by decide) (Nat.le_of_ble_eq_true rfl) ?_
  show GG l B LY (d + 1) yX10_isCaught cX10_isCaught 3 (some .boolean) 0 0 (PI r M') 97 0 0 0 [(0, .ref 81), (1, .int x1), (2, .int x2)] [] M
  rw [f_X10_isCaught] at h
  refine g_iload_n dX10_isCaught_0 rfl 2 rfl ?_
  refine g_aload_n dX10_isCaught_1 rfl 0 rfl ?_
  refine m_getr (k := 15) okX10 rfl rfl (by decide) w_1284 rfl dX10_isCaught_2 ?_
  refine g_bipush (v := (nI 61)) dX10_isCaught_5 (by decide) ?_
  refine g_iload_n dX10_isCaught_7 rfl 1 rfl ?_
  refine g_iadd dX10_isCaught_8 ?_
  obtain ⟨hz, h⟩ := gd_s h
  refine m_iald rfl hz dX10_isCaught_9 ?_
  obtain ⟨v10_2, M10_1, eM10_1, h⟩ := bd_e h
  refine m_callSi (As := [.int x2, .int (M 84 ((nI 61) + x1).toNatClampNeg)]) (st := []) (s_X10_needs (d := d + 0) hA  eM10_1) ck_X10_needs w_1540 rfl (Nat.le_of_ble_eq_true rfl) dX10_isCaught_10 ?_
  refine g_aload_n dX10_isCaught_13 rfl 0 rfl ?_
  refine m_getr (k := 15) okX10 rfl rfl (by decide) w_1284 rfl dX10_isCaught_14 ?_
  refine g_iconst (v := (nI 0)) dX10_isCaught_17 (by decide) ?_
  refine m_ialdL (k := 0) rfl rfl (by decide) dX10_isCaught_18 ?_
  refine g_aload_n dX10_isCaught_19 rfl 0 rfl ?_
  refine m_getr (k := 15) okX10 rfl rfl (by decide) w_1284 rfl dX10_isCaught_20 ?_
  refine g_iconst (v := (nI 2)) dX10_isCaught_23 (by decide) ?_
  refine m_ialdL (k := 2) rfl rfl (by decide) dX10_isCaught_24 ?_
  refine g_imul dX10_isCaught_25 ?_
  refine g_icmp_le (tgt := 33) dX10_isCaught_26 (by decide) (fun c3 => ?_) (fun c3 => ?_)
  · replace h := ite_p c3 h
    refine g_iconst (v := (nI 0)) dX10_isCaught_33 (by decide) ?_
    exact g_zret rfl rfl (pi_of h) dX10_isCaught_34
  · replace h := ite_n c3 h
    refine g_iconst (v := (nI 1)) dX10_isCaught_29 (by decide) ?_
    refine g_goto (tgt := 34) dX10_isCaught_30 (by decide) ?_
    exact g_zret rfl rfl (pi_of h) dX10_isCaught_34
theorem ck_X10_isCaught : CKV yX10_isCaught cX10_isCaught 3 (some .boolean) 2 := ⟨⟨by decide, by decide, by decide +kernel⟩, w_1539, w_81, ⟨w_1538, w_36⟩, by decide⟩
