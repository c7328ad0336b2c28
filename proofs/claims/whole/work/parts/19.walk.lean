/-! walks: X10_newName X10_number X10_told X10_comma X10_begins X10_yardLine X10_verseLine X10_oneLine X10_gravelLine. Written by wip/programs/parts.py. -/
theorem dX10_newName_0 : decode cX10_newName 0 = .ok (.aload_n 0, 1) := by decide +kernel
theorem dX10_newName_1 : decode cX10_newName 1 = .ok (.ldc 128, 2) := by decide +kernel
theorem dX10_newName_3 : decode cX10_newName 3 = .ok (.invokevirtual 114, 3) := by decide +kernel
theorem dX10_newName_6 : decode cX10_newName 6 = .ok (.ifCond .ne 66, 3) := by decide +kernel
theorem dX10_newName_9 : decode cX10_newName 9 = .ok (.aload_n 0, 1) := by decide +kernel
theorem dX10_newName_10 : decode cX10_newName 10 = .ok (.ldc 130, 2) := by decide +kernel
theorem dX10_newName_12 : decode cX10_newName 12 = .ok (.invokevirtual 114, 3) := by decide +kernel
theorem dX10_newName_15 : decode cX10_newName 15 = .ok (.ifCond .ne 57, 3) := by decide +kernel
theorem dX10_newName_18 : decode cX10_newName 18 = .ok (.aload_n 0, 1) := by decide +kernel
theorem dX10_newName_19 : decode cX10_newName 19 = .ok (.ldc 132, 2) := by decide +kernel
theorem dX10_newName_21 : decode cX10_newName 21 = .ok (.invokevirtual 114, 3) := by decide +kernel
theorem dX10_newName_24 : decode cX10_newName 24 = .ok (.ifCond .ne 48, 3) := by decide +kernel
theorem dX10_newName_27 : decode cX10_newName 27 = .ok (.aload_n 0, 1) := by decide +kernel
theorem dX10_newName_28 : decode cX10_newName 28 = .ok (.ldc 134, 2) := by decide +kernel
theorem dX10_newName_30 : decode cX10_newName 30 = .ok (.invokevirtual 114, 3) := by decide +kernel
theorem dX10_newName_33 : decode cX10_newName 33 = .ok (.ifCond .ne 39, 3) := by decide +kernel
theorem dX10_newName_36 : decode cX10_newName 36 = .ok (.aload_n 0, 1) := by decide +kernel
theorem dX10_newName_37 : decode cX10_newName 37 = .ok (.ldc 136, 2) := by decide +kernel
theorem dX10_newName_39 : decode cX10_newName 39 = .ok (.invokevirtual 114, 3) := by decide +kernel
theorem dX10_newName_42 : decode cX10_newName 42 = .ok (.ifCond .ne 30, 3) := by decide +kernel
theorem dX10_newName_45 : decode cX10_newName 45 = .ok (.aload_n 0, 1) := by decide +kernel
theorem dX10_newName_46 : decode cX10_newName 46 = .ok (.ldc 138, 2) := by decide +kernel
theorem dX10_newName_48 : decode cX10_newName 48 = .ok (.invokevirtual 114, 3) := by decide +kernel
theorem dX10_newName_51 : decode cX10_newName 51 = .ok (.ifCond .ne 21, 3) := by decide +kernel
theorem dX10_newName_54 : decode cX10_newName 54 = .ok (.aload_n 0, 1) := by decide +kernel
theorem dX10_newName_55 : decode cX10_newName 55 = .ok (.ldc 140, 2) := by decide +kernel
theorem dX10_newName_57 : decode cX10_newName 57 = .ok (.invokevirtual 114, 3) := by decide +kernel
theorem dX10_newName_60 : decode cX10_newName 60 = .ok (.ifCond .ne 12, 3) := by decide +kernel
theorem dX10_newName_63 : decode cX10_newName 63 = .ok (.aload_n 0, 1) := by decide +kernel
theorem dX10_newName_64 : decode cX10_newName 64 = .ok (.ldc 142, 2) := by decide +kernel
theorem dX10_newName_66 : decode cX10_newName 66 = .ok (.invokevirtual 114, 3) := by decide +kernel
theorem dX10_newName_69 : decode cX10_newName 69 = .ok (.ifCond .eq 7, 3) := by decide +kernel
theorem dX10_newName_72 : decode cX10_newName 72 = .ok (.iconst 1, 1) := by decide +kernel
theorem dX10_newName_73 : decode cX10_newName 73 = .ok (.goto 4, 3) := by decide +kernel
theorem dX10_newName_76 : decode cX10_newName 76 = .ok (.iconst 0, 1) := by decide +kernel
theorem dX10_newName_77 : decode cX10_newName 77 = .ok (.istore_n 1, 1) := by decide +kernel
theorem dX10_newName_78 : decode cX10_newName 78 = .ok (.aload_n 0, 1) := by decide +kernel
theorem dX10_newName_79 : decode cX10_newName 79 = .ok (.getfield 87, 3) := by decide +kernel
theorem dX10_newName_82 : decode cX10_newName 82 = .ok (.iconst 2, 1) := by decide +kernel
theorem dX10_newName_83 : decode cX10_newName 83 = .ok (.if_icmp .ne 7, 3) := by decide +kernel
theorem dX10_newName_86 : decode cX10_newName 86 = .ok (.iload_n 1, 1) := by decide +kernel
theorem dX10_newName_87 : decode cX10_newName 87 = .ok (.ifCond .eq 12, 3) := by decide +kernel
theorem dX10_newName_90 : decode cX10_newName 90 = .ok (.aload_n 0, 1) := by decide +kernel
theorem dX10_newName_91 : decode cX10_newName 91 = .ok (.iconst 1, 1) := by decide +kernel
theorem dX10_newName_92 : decode cX10_newName 92 = .ok (.aload_n 0, 1) := by decide +kernel
theorem dX10_newName_93 : decode cX10_newName 93 = .ok (.getfield 78, 3) := by decide +kernel
theorem dX10_newName_96 : decode cX10_newName 96 = .ok (.invokevirtual 124, 3) := by decide +kernel
theorem dX10_newName_99 : decode cX10_newName 99 = .ok (.aload_n 0, 1) := by decide +kernel
theorem dX10_newName_100 : decode cX10_newName 100 = .ok (.getfield 97, 3) := by decide +kernel
theorem dX10_newName_103 : decode cX10_newName 103 = .ok (.ifCond .eq 4, 3) := by decide +kernel
theorem dX10_newName_106 : decode cX10_newName 106 = .ok (.return_, 1) := by decide +kernel
theorem dX10_newName_107 : decode cX10_newName 107 = .ok (.aload_n 0, 1) := by decide +kernel
theorem dX10_newName_108 : decode cX10_newName 108 = .ok (.getfield 23, 3) := by decide +kernel
theorem dX10_newName_111 : decode cX10_newName 111 = .ok (.bipush 95, 2) := by decide +kernel
theorem dX10_newName_113 : decode cX10_newName 113 = .ok (.iaload, 1) := by decide +kernel
theorem dX10_newName_114 : decode cX10_newName 114 = .ok (.istore_n 2, 1) := by decide +kernel
theorem dX10_newName_115 : decode cX10_newName 115 = .ok (.iconst 0, 1) := by decide +kernel
theorem dX10_newName_116 : decode cX10_newName 116 = .ok (.istore_n 3, 1) := by decide +kernel
theorem dX10_newName_117 : decode cX10_newName 117 = .ok (.iload_n 3, 1) := by decide +kernel
theorem dX10_newName_118 : decode cX10_newName 118 = .ok (.iload_n 2, 1) := by decide +kernel
theorem dX10_newName_119 : decode cX10_newName 119 = .ok (.if_icmp .ge 101, 3) := by decide +kernel
theorem dX10_newName_122 : decode cX10_newName 122 = .ok (.aload_n 0, 1) := by decide +kernel
theorem dX10_newName_123 : decode cX10_newName 123 = .ok (.getfield 23, 3) := by decide +kernel
theorem dX10_newName_126 : decode cX10_newName 126 = .ok (.bipush 96, 2) := by decide +kernel
theorem dX10_newName_128 : decode cX10_newName 128 = .ok (.iload_n 3, 1) := by decide +kernel
theorem dX10_newName_129 : decode cX10_newName 129 = .ok (.iadd, 1) := by decide +kernel
theorem dX10_newName_130 : decode cX10_newName 130 = .ok (.iaload, 1) := by decide +kernel
theorem dX10_newName_131 : decode cX10_newName 131 = .ok (.aload_n 0, 1) := by decide +kernel
theorem dX10_newName_132 : decode cX10_newName 132 = .ok (.getfield 81, 3) := by decide +kernel
theorem dX10_newName_135 : decode cX10_newName 135 = .ok (.if_icmp .ne 7, 3) := by decide +kernel
theorem dX10_newName_138 : decode cX10_newName 138 = .ok (.iconst 1, 1) := by decide +kernel
theorem dX10_newName_139 : decode cX10_newName 139 = .ok (.goto 4, 3) := by decide +kernel
theorem dX10_newName_142 : decode cX10_newName 142 = .ok (.iconst 0, 1) := by decide +kernel
theorem dX10_newName_143 : decode cX10_newName 143 = .ok (.istore 4, 2) := by decide +kernel
theorem dX10_newName_145 : decode cX10_newName 145 = .ok (.iconst 0, 1) := by decide +kernel
theorem dX10_newName_146 : decode cX10_newName 146 = .ok (.istore 5, 2) := by decide +kernel
theorem dX10_newName_148 : decode cX10_newName 148 = .ok (.iload 5, 2) := by decide +kernel
theorem dX10_newName_150 : decode cX10_newName 150 = .ok (.aload_n 0, 1) := by decide +kernel
theorem dX10_newName_151 : decode cX10_newName 151 = .ok (.getfield 81, 3) := by decide +kernel
theorem dX10_newName_154 : decode cX10_newName 154 = .ok (.if_icmp .ge 46, 3) := by decide +kernel
theorem dX10_newName_157 : decode cX10_newName 157 = .ok (.iload 4, 2) := by decide +kernel
theorem dX10_newName_159 : decode cX10_newName 159 = .ok (.ifCond .eq 41, 3) := by decide +kernel
theorem dX10_newName_162 : decode cX10_newName 162 = .ok (.aload_n 0, 1) := by decide +kernel
theorem dX10_newName_163 : decode cX10_newName 163 = .ok (.getfield 23, 3) := by decide +kernel
theorem dX10_newName_166 : decode cX10_newName 166 = .ok (.bipush 101, 2) := by decide +kernel
theorem dX10_newName_168 : decode cX10_newName 168 = .ok (.bipush 8, 2) := by decide +kernel
theorem dX10_newName_170 : decode cX10_newName 170 = .ok (.iload_n 3, 1) := by decide +kernel
theorem dX10_newName_171 : decode cX10_newName 171 = .ok (.imul, 1) := by decide +kernel
theorem dX10_newName_172 : decode cX10_newName 172 = .ok (.iadd, 1) := by decide +kernel
theorem dX10_newName_173 : decode cX10_newName 173 = .ok (.iload 5, 2) := by decide +kernel
theorem dX10_newName_175 : decode cX10_newName 175 = .ok (.iadd, 1) := by decide +kernel
theorem dX10_newName_176 : decode cX10_newName 176 = .ok (.iaload, 1) := by decide +kernel
theorem dX10_newName_177 : decode cX10_newName 177 = .ok (.aload_n 0, 1) := by decide +kernel
theorem dX10_newName_178 : decode cX10_newName 178 = .ok (.getfield 17, 3) := by decide +kernel
theorem dX10_newName_181 : decode cX10_newName 181 = .ok (.iload 5, 2) := by decide +kernel
theorem dX10_newName_183 : decode cX10_newName 183 = .ok (.iaload, 1) := by decide +kernel
theorem dX10_newName_184 : decode cX10_newName 184 = .ok (.if_icmp .ne 7, 3) := by decide +kernel
theorem dX10_newName_187 : decode cX10_newName 187 = .ok (.iconst 1, 1) := by decide +kernel
theorem dX10_newName_188 : decode cX10_newName 188 = .ok (.goto 4, 3) := by decide +kernel
theorem dX10_newName_191 : decode cX10_newName 191 = .ok (.iconst 0, 1) := by decide +kernel
theorem dX10_newName_192 : decode cX10_newName 192 = .ok (.istore 4, 2) := by decide +kernel
theorem dX10_newName_194 : decode cX10_newName 194 = .ok (.iinc 5 1, 3) := by decide +kernel
theorem dX10_newName_197 : decode cX10_newName 197 = .ok (.goto (-49), 3) := by decide +kernel
theorem dX10_newName_200 : decode cX10_newName 200 = .ok (.iload 4, 2) := by decide +kernel
theorem dX10_newName_202 : decode cX10_newName 202 = .ok (.ifCond .eq 12, 3) := by decide +kernel
theorem dX10_newName_205 : decode cX10_newName 205 = .ok (.aload_n 0, 1) := by decide +kernel
theorem dX10_newName_206 : decode cX10_newName 206 = .ok (.iconst 3, 1) := by decide +kernel
theorem dX10_newName_207 : decode cX10_newName 207 = .ok (.aload_n 0, 1) := by decide +kernel
theorem dX10_newName_208 : decode cX10_newName 208 = .ok (.getfield 78, 3) := by decide +kernel
theorem dX10_newName_211 : decode cX10_newName 211 = .ok (.invokevirtual 124, 3) := by decide +kernel
theorem dX10_newName_214 : decode cX10_newName 214 = .ok (.iinc 3 1, 3) := by decide +kernel
theorem dX10_newName_217 : decode cX10_newName 217 = .ok (.goto (-100), 3) := by decide +kernel
theorem dX10_newName_220 : decode cX10_newName 220 = .ok (.aload_n 0, 1) := by decide +kernel
theorem dX10_newName_221 : decode cX10_newName 221 = .ok (.getfield 97, 3) := by decide +kernel
theorem dX10_newName_224 : decode cX10_newName 224 = .ok (.ifCond .eq 4, 3) := by decide +kernel
theorem dX10_newName_227 : decode cX10_newName 227 = .ok (.return_, 1) := by decide +kernel
theorem dX10_newName_228 : decode cX10_newName 228 = .ok (.iconst 0, 1) := by decide +kernel
theorem dX10_newName_229 : decode cX10_newName 229 = .ok (.istore_n 3, 1) := by decide +kernel
theorem dX10_newName_230 : decode cX10_newName 230 = .ok (.iload_n 3, 1) := by decide +kernel
theorem dX10_newName_231 : decode cX10_newName 231 = .ok (.aload_n 0, 1) := by decide +kernel
theorem dX10_newName_232 : decode cX10_newName 232 = .ok (.getfield 81, 3) := by decide +kernel
theorem dX10_newName_235 : decode cX10_newName 235 = .ok (.if_icmp .ge 29, 3) := by decide +kernel
theorem dX10_newName_238 : decode cX10_newName 238 = .ok (.aload_n 0, 1) := by decide +kernel
theorem dX10_newName_239 : decode cX10_newName 239 = .ok (.getfield 23, 3) := by decide +kernel
theorem dX10_newName_242 : decode cX10_newName 242 = .ok (.bipush 101, 2) := by decide +kernel
theorem dX10_newName_244 : decode cX10_newName 244 = .ok (.bipush 8, 2) := by decide +kernel
theorem dX10_newName_246 : decode cX10_newName 246 = .ok (.iload_n 2, 1) := by decide +kernel
theorem dX10_newName_247 : decode cX10_newName 247 = .ok (.imul, 1) := by decide +kernel
theorem dX10_newName_248 : decode cX10_newName 248 = .ok (.iadd, 1) := by decide +kernel
theorem dX10_newName_249 : decode cX10_newName 249 = .ok (.iload_n 3, 1) := by decide +kernel
theorem dX10_newName_250 : decode cX10_newName 250 = .ok (.iadd, 1) := by decide +kernel
theorem dX10_newName_251 : decode cX10_newName 251 = .ok (.aload_n 0, 1) := by decide +kernel
theorem dX10_newName_252 : decode cX10_newName 252 = .ok (.getfield 17, 3) := by decide +kernel
theorem dX10_newName_255 : decode cX10_newName 255 = .ok (.iload_n 3, 1) := by decide +kernel
theorem dX10_newName_256 : decode cX10_newName 256 = .ok (.iaload, 1) := by decide +kernel
theorem dX10_newName_257 : decode cX10_newName 257 = .ok (.iastore, 1) := by decide +kernel
theorem dX10_newName_258 : decode cX10_newName 258 = .ok (.iinc 3 1, 3) := by decide +kernel
theorem dX10_newName_261 : decode cX10_newName 261 = .ok (.goto (-31), 3) := by decide +kernel
theorem dX10_newName_264 : decode cX10_newName 264 = .ok (.aload_n 0, 1) := by decide +kernel
theorem dX10_newName_265 : decode cX10_newName 265 = .ok (.getfield 23, 3) := by decide +kernel
theorem dX10_newName_268 : decode cX10_newName 268 = .ok (.bipush 96, 2) := by decide +kernel
theorem dX10_newName_270 : decode cX10_newName 270 = .ok (.iload_n 2, 1) := by decide +kernel
theorem dX10_newName_271 : decode cX10_newName 271 = .ok (.iadd, 1) := by decide +kernel
theorem dX10_newName_272 : decode cX10_newName 272 = .ok (.aload_n 0, 1) := by decide +kernel
theorem dX10_newName_273 : decode cX10_newName 273 = .ok (.getfield 81, 3) := by decide +kernel
theorem dX10_newName_276 : decode cX10_newName 276 = .ok (.iastore, 1) := by decide +kernel
theorem dX10_newName_277 : decode cX10_newName 277 = .ok (.aload_n 0, 1) := by decide +kernel
theorem dX10_newName_278 : decode cX10_newName 278 = .ok (.invokevirtual 118, 3) := by decide +kernel
theorem dX10_newName_281 : decode cX10_newName 281 = .ok (.return_, 1) := by decide +kernel
def lp_X10_newName_148 (y2 : Int32) (y3 : Int32) (k200 : Int32 → Mm → Option (Mm)) : Nat → Int32 → Int32 → Mm → Option (Mm)
  | 0, _, _, _ => none
  | n + 1, y4, y5, M =>
    if (M 81 8) ≤ y5 then (k200 y4 M) else (if y4 = 0 then (k200 y4 M) else (gd (inb (((nI 101) + ((nI 8) * y3)) + y5) 141) <| gd (inb y5 8) <| jn (fun (s11 : Int32) (M12 : Mm) => lp_X10_newName_148 y2 y3 k200 n s11 (y5 + (nI 1)) M12) fun j13 => if (M 85 (((nI 101) + ((nI 8) * y3)) + y5).toNatClampNeg) = (M 83 y5.toNatClampNeg) then (j13 (nI 1) M) else (j13 (nI 0) M)))
def lp_X10_newName_117 (y2 : Int32) (k220 : Mm → Option (Mm)) : Nat → Int32 → Mm → Option (Mm)
  | 0, _, _ => none
  | n + 1, y3, M =>
    if y2 ≤ y3 then (k220  M) else (gd (inb ((nI 96) + y3) 141) <| jn (fun (s8 : Int32) (M9 : Mm) => lp_X10_newName_148 y2 y3 (fun (u17 : Int32) (M18 : Mm) => jn (fun (M19 : Mm) => lp_X10_newName_117 y2 k220 n (y3 + (nI 1)) M19) fun j20 => if u17 = 0 then (j20  M18) else (bv (f_X10_wrong (nI 3) (M18 81 4) M18) fun M211_21 => j20  M211_21)) N0 s8 (nI 0) M9) fun j10 => if (M 85 ((nI 96) + y3).toNatClampNeg) = (M 81 8) then (j10 (nI 1) M) else (j10 (nI 0) M))
def lp_X10_newName_230 (y2 : Int32) (k264 : Mm → Option (Mm)) : Nat → Int32 → Mm → Option (Mm)
  | 0, _, _ => none
  | n + 1, y3, M =>
    if (M 81 8) ≤ y3 then (k264  M) else (gd (inb y3 8) <| gd (inb (((nI 101) + ((nI 8) * y2)) + y3) 141) <| lp_X10_newName_230 y2 k264 n (y3 + (nI 1)) (mset M 85 (((nI 101) + ((nI 8) * y2)) + y3).toNatClampNeg (M 83 y3.toNatClampNeg)))
def f_X10_newName  (M : Mm) : Option (Mm) :=
  bd (f_X10_isWord 23 M) fun v3_2 M3_1 => jn (fun (s3 : Int32) (M4 : Mm) => jn (fun (M6 : Mm) => if (M6 81 13) = 0 then (lp_X10_newName_117 (M6 85 95) (fun  (M26 : Mm) => if (M26 81 13) = 0 then (lp_X10_newName_230 (M6 85 95) (fun  (M28 : Mm) => gd (inb ((nI 96) + (M6 85 95)) 141) <| bv (f_X10_next  (mset M28 85 ((nI 96) + (M6 85 95)).toNatClampNeg (M28 81 8))) fun M278_29 => some M278_29) N0 (nI 0) M26) else (some M26)) N0 (nI 0) M6) else (some M6)) fun j7 => jn (fun (M33 : Mm) => bv (f_X10_wrong (nI 1) (M33 81 4) M33) fun M96_35 => j7  M96_35) fun j34 => if (M4 81 6) = (nI 2) then (if s3 = 0 then (j7  M4) else (j34  M4)) else (j34  M4)) fun j5 => jn (fun (M39 : Mm) => j5 (nI 1) M39) fun j40 => if v3_2 = 0 then (bd (f_X10_isWord 27 M3_1) fun v12_42 M12_41 => if v12_42 = 0 then (bd (f_X10_isWord 28 M12_41) fun v21_44 M21_43 => if v21_44 = 0 then (bd (f_X10_isWord 33 M21_43) fun v30_46 M30_45 => if v30_46 = 0 then (bd (f_X10_isWord 38 M30_45) fun v39_48 M39_47 => if v39_48 = 0 then (bd (f_X10_isWord 39 M39_47) fun v48_50 M48_49 => if v48_50 = 0 then (bd (f_X10_isWord 40 M48_49) fun v57_52 M57_51 => if v57_52 = 0 then (bd (f_X10_isWord 41 M57_51) fun v66_54 M66_53 => if v66_54 = 0 then (j5 (nI 0) M66_53) else (j40  M66_53)) else (j40  M57_51)) else (j40  M48_49)) else (j40  M39_47)) else (j40  M30_45)) else (j40  M21_43)) else (j40  M12_41)) else (j40  M3_1)
set_option maxHeartbeats 4000000 in
set_option maxRecDepth 100000 in
theorem sl_X10_newName_148 {l : Launch} {B : BT} (hA : bA B = false) {d : Nat} {M' : Mm} {y2 : Int32} {y3 : Int32}  {k200 : Int32 → Mm → Option (Mm)} (hk200 : ∀ (z4 : Int32) (M9 : Mm), k200 z4 M9 = some M' → GG l B LY (d + 5) yX10_newName cX10_newName 6 none 0 0 (PV M') 97 0 0 200 [(0, .ref 81), (2, .int y2), (3, .int y3), (4, .int z4)] [] M9) :
    ∀ (n : Nat) (y4 : Int32) (y5 : Int32) (M : Mm), lp_X10_newName_148 y2 y3 k200 n y4 y5 M = some M' → GG l B LY (d + 5) yX10_newName cX10_newName 6 none 0 0 (PV M') 97 0 0 148 [(0, .ref 81), (2, .int y2), (3, .int y3), (4, .int y4), (5, .int y5)] [] M := by
  intro n
  induction n with
  | zero => intro y4 y5 M h; cases h
  | succ n ih =>
    intro y4 y5 M h
    rw [lp_X10_newName_148] at h
    refine g_iload dX10_newName_148 4 rfl ?_
    refine g_aload_n dX10_newName_150 rfl 0 rfl ?_
    refine m_geti (k := 8) okX10 rfl rfl (by decide) w_1277 rfl dX10_newName_151 ?_
    refine g_icmp_ge (tgt := 200) dX10_newName_154 (by decide) (fun c16 => ?_) (fun c16 => ?_)
    · replace h := ite_p c16 h
      refine g_sub [0, 1, 2, 3] (lv' := [(0, .ref 81), (2, .int y2), (3, .int y3), (4, .int y4)]) rfl ?_
      exact hk200 _ _ h
    · replace h := ite_n c16 h
      refine g_iload dX10_newName_157 3 rfl ?_
      refine g_if_eq (tgt := 200) dX10_newName_159 (by decide) (fun c15 => ?_) (fun c15 => ?_)
      · replace h := ite_p c15 h
        refine g_sub [0, 1, 2, 3] (lv' := [(0, .ref 81), (2, .int y2), (3, .int y3), (4, .int y4)]) rfl ?_
        exact hk200 _ _ h
      · replace h := ite_n c15 h
        refine g_aload_n dX10_newName_162 rfl 0 rfl ?_
        refine m_getr (k := 16) okX10 rfl rfl (by decide) w_1285 rfl dX10_newName_163 ?_
        refine g_bipush (v := (nI 101)) dX10_newName_166 (by decide) ?_
        refine g_bipush (v := (nI 8)) dX10_newName_168 (by decide) ?_
        refine g_iload_n dX10_newName_170 rfl 2 rfl ?_
        refine g_imul dX10_newName_171 ?_
        refine g_iadd dX10_newName_172 ?_
        refine g_iload dX10_newName_173 4 rfl ?_
        refine g_iadd dX10_newName_175 ?_
        obtain ⟨hz, h⟩ := gd_s h
        refine m_iald rfl hz dX10_newName_176 ?_
        refine g_aload_n dX10_newName_177 rfl 0 rfl ?_
        refine m_getr (k := 12) okX10 rfl rfl (by decide) w_1281 rfl dX10_newName_178 ?_
        refine g_iload dX10_newName_181 4 rfl ?_
        obtain ⟨hz, h⟩ := gd_s h
        refine m_iald rfl hz dX10_newName_183 ?_
        obtain ⟨j13, ej13, h⟩ := jn_e h
        have hj13 : ∀ (s11 : Int32) (M12 : Mm), j13 s11 M12 = some M' → GG l B LY (d + 5) yX10_newName cX10_newName 6 none 0 0 (PV M') 97 0 0 192 [(0, .ref 81), (2, .int y2), (3, .int y3), (5, .int y5)] [.int s11] M12 := by
          intro s11 M12 h
          rw [ej13] at h
          refine g_istore (lv' := [(4, .int s11), (0, .ref 81), (2, .int y2), (3, .int y3), (5, .int y5)]) dX10_newName_192 (by decide) rfl ?_
          refine g_iinc (v := (y5 + (nI 1))) (lv' := [(5, .int (y5 + (nI 1))), (4, .int s11), (0, .ref 81), (2, .int y2), (3, .int y3)]) dX10_newName_194 4 rfl rfl (by decide) rfl ?_
          refine g_goto (tgt := 148) dX10_newName_197 (by decide) ?_
          refine g_sub [2, 3, 4, 1, 0] (lv' := [(0, .ref 81), (2, .int y2), (3, .int y3), (4, .int s11), (5, .int (y5 + (nI 1)))]) rfl ?_
          exact ih _ _  _ h
        refine g_icmp_ne (tgt := 191) dX10_newName_184 (by decide) (fun c14 => ?_) (fun c14 => ?_)
        · replace h := ite_n c14 h
          refine g_iconst (v := (nI 0)) dX10_newName_191 (by decide) ?_
          refine g_sub [0, 1, 2, 4] (lv' := [(0, .ref 81), (2, .int y2), (3, .int y3), (5, .int y5)]) rfl ?_
          exact hj13 _ _ h
        · replace h := ite_p c14 h
          refine g_iconst (v := (nI 1)) dX10_newName_187 (by decide) ?_
          refine g_goto (tgt := 192) dX10_newName_188 (by decide) ?_
          refine g_sub [0, 1, 2, 4] (lv' := [(0, .ref 81), (2, .int y2), (3, .int y3), (5, .int y5)]) rfl ?_
          exact hj13 _ _ h
set_option maxHeartbeats 4000000 in
set_option maxRecDepth 100000 in
theorem sl_X10_newName_117 {l : Launch} {B : BT} (hA : bA B = false) {d : Nat} {M' : Mm} {y2 : Int32}  {k220 : Mm → Option (Mm)} (hk220 : ∀  (M9 : Mm), k220  M9 = some M' → GG l B LY (d + 5) yX10_newName cX10_newName 6 none 0 0 (PV M') 97 0 0 220 [(0, .ref 81), (2, .int y2)] [] M9) :
    ∀ (n : Nat) (y3 : Int32) (M : Mm), lp_X10_newName_117 y2 k220 n y3 M = some M' → GG l B LY (d + 5) yX10_newName cX10_newName 6 none 0 0 (PV M') 97 0 0 117 [(0, .ref 81), (2, .int y2), (3, .int y3)] [] M := by
  intro n
  induction n with
  | zero => intro y3 M h; cases h
  | succ n ih =>
    intro y3 M h
    rw [lp_X10_newName_117] at h
    refine g_iload_n dX10_newName_117 rfl 2 rfl ?_
    refine g_iload_n dX10_newName_118 rfl 1 rfl ?_
    refine g_icmp_ge (tgt := 220) dX10_newName_119 (by decide) (fun c25 => ?_) (fun c25 => ?_)
    · replace h := ite_p c25 h
      refine g_sub [0, 1] (lv' := [(0, .ref 81), (2, .int y2)]) rfl ?_
      exact hk220  _ h
    · replace h := ite_n c25 h
      refine g_aload_n dX10_newName_122 rfl 0 rfl ?_
      refine m_getr (k := 16) okX10 rfl rfl (by decide) w_1285 rfl dX10_newName_123 ?_
      refine g_bipush (v := (nI 96)) dX10_newName_126 (by decide) ?_
      refine g_iload_n dX10_newName_128 rfl 2 rfl ?_
      refine g_iadd dX10_newName_129 ?_
      obtain ⟨hz, h⟩ := gd_s h
      refine m_iald rfl hz dX10_newName_130 ?_
      refine g_aload_n dX10_newName_131 rfl 0 rfl ?_
      refine m_geti (k := 8) okX10 rfl rfl (by decide) w_1277 rfl dX10_newName_132 ?_
      obtain ⟨j10, ej10, h⟩ := jn_e h
      have hj10 : ∀ (s8 : Int32) (M9 : Mm), j10 s8 M9 = some M' → GG l B LY (d + 5) yX10_newName cX10_newName 6 none 0 0 (PV M') 97 0 0 143 [(0, .ref 81), (2, .int y2), (3, .int y3)] [.int s8] M9 := by
        intro s8 M9 h
        rw [ej10] at h
        refine g_istore (lv' := [(4, .int s8), (0, .ref 81), (2, .int y2), (3, .int y3)]) dX10_newName_143 (by decide) rfl ?_
        refine g_iconst (v := (nI 0)) dX10_newName_145 (by decide) ?_
        refine g_istore (lv' := [(5, .int (nI 0)), (4, .int s8), (0, .ref 81), (2, .int y2), (3, .int y3)]) dX10_newName_146 (by decide) rfl ?_
        refine g_sub [2, 3, 4, 1, 0] (lv' := [(0, .ref 81), (2, .int y2), (3, .int y3), (4, .int s8), (5, .int (nI 0))]) rfl ?_
        refine sl_X10_newName_148 hA  ?_ _ _ _ _ h
        · intro u17 M18 h
          refine g_iload dX10_newName_200 3 rfl ?_
          obtain ⟨j20, ej20, h⟩ := jn_e h
          have hj20 : ∀ (M19 : Mm), j20 M19 = some M' → GG l B LY (d + 5) yX10_newName cX10_newName 6 none 0 0 (PV M') 97 0 0 214 [(0, .ref 81), (2, .int y2), (3, .int y3)] [] M19 := by
            intro M19 h
            rw [ej20] at h
            refine g_iinc (v := (y3 + (nI 1))) (lv' := [(3, .int (y3 + (nI 1))), (0, .ref 81), (2, .int y2)]) dX10_newName_214 2 rfl rfl (by decide) rfl ?_
            refine g_goto (tgt := 117) dX10_newName_217 (by decide) ?_
            refine g_sub [1, 2, 0] (lv' := [(0, .ref 81), (2, .int y2), (3, .int (y3 + (nI 1)))]) rfl ?_
            exact ih _  _ h
          refine g_if_eq (tgt := 214) dX10_newName_202 (by decide) (fun c23 => ?_) (fun c23 => ?_)
          · replace h := ite_p c23 h
            refine g_sub [0, 1, 2] (lv' := [(0, .ref 81), (2, .int y2), (3, .int y3)]) rfl ?_
            exact hj20  _ h
          · replace h := ite_n c23 h
            refine g_aload_n dX10_newName_205 rfl 0 rfl ?_
            refine g_iconst (v := (nI 3)) dX10_newName_206 (by decide) ?_
            refine g_aload_n dX10_newName_207 rfl 0 rfl ?_
            refine m_geti (k := 4) okX10 rfl rfl (by decide) w_1273 rfl dX10_newName_208 ?_
            obtain ⟨M211_21, eM211_21, h⟩ := bv_e h
            refine m_callVv (As := [.int (nI 3), .int (M18 81 4)]) (st := []) (s_X10_wrong (d := d + 4) hA  eM211_21) rfl okX10 ck_X10_wrong w_1425 rfl (Nat.le_of_ble_eq_true rfl) dX10_newName_211 ?_
            refine g_sub [0, 1, 2] (lv' := [(0, .ref 81), (2, .int y2), (3, .int y3)]) rfl ?_
            exact hj20  _ h
      refine g_icmp_ne (tgt := 142) dX10_newName_135 (by decide) (fun c24 => ?_) (fun c24 => ?_)
      · replace h := ite_n c24 h
        refine g_iconst (v := (nI 0)) dX10_newName_142 (by decide) ?_
        refine g_sub [0, 1, 2] (lv' := [(0, .ref 81), (2, .int y2), (3, .int y3)]) rfl ?_
        exact hj10 _ _ h
      · replace h := ite_p c24 h
        refine g_iconst (v := (nI 1)) dX10_newName_138 (by decide) ?_
        refine g_goto (tgt := 143) dX10_newName_139 (by decide) ?_
        refine g_sub [0, 1, 2] (lv' := [(0, .ref 81), (2, .int y2), (3, .int y3)]) rfl ?_
        exact hj10 _ _ h
set_option maxHeartbeats 4000000 in
set_option maxRecDepth 100000 in
theorem sl_X10_newName_230 {l : Launch} {B : BT} (hA : bA B = false) {d : Nat} {M' : Mm} {y2 : Int32}  {k264 : Mm → Option (Mm)} (hk264 : ∀  (M9 : Mm), k264  M9 = some M' → GG l B LY (d + 5) yX10_newName cX10_newName 6 none 0 0 (PV M') 97 0 0 264 [(0, .ref 81), (2, .int y2)] [] M9) :
    ∀ (n : Nat) (y3 : Int32) (M : Mm), lp_X10_newName_230 y2 k264 n y3 M = some M' → GG l B LY (d + 5) yX10_newName cX10_newName 6 none 0 0 (PV M') 97 0 0 230 [(0, .ref 81), (2, .int y2), (3, .int y3)] [] M := by
  intro n
  induction n with
  | zero => intro y3 M h; cases h
  | succ n ih =>
    intro y3 M h
    rw [lp_X10_newName_230] at h
    refine g_iload_n dX10_newName_230 rfl 2 rfl ?_
    refine g_aload_n dX10_newName_231 rfl 0 rfl ?_
    refine m_geti (k := 8) okX10 rfl rfl (by decide) w_1277 rfl dX10_newName_232 ?_
    refine g_icmp_ge (tgt := 264) dX10_newName_235 (by decide) (fun c27 => ?_) (fun c27 => ?_)
    · replace h := ite_p c27 h
      refine g_sub [0, 1] (lv' := [(0, .ref 81), (2, .int y2)]) rfl ?_
      exact hk264  _ h
    · replace h := ite_n c27 h
      refine g_aload_n dX10_newName_238 rfl 0 rfl ?_
      refine m_getr (k := 16) okX10 rfl rfl (by decide) w_1285 rfl dX10_newName_239 ?_
      refine g_bipush (v := (nI 101)) dX10_newName_242 (by decide) ?_
      refine g_bipush (v := (nI 8)) dX10_newName_244 (by decide) ?_
      refine g_iload_n dX10_newName_246 rfl 1 rfl ?_
      refine g_imul dX10_newName_247 ?_
      refine g_iadd dX10_newName_248 ?_
      refine g_iload_n dX10_newName_249 rfl 2 rfl ?_
      refine g_iadd dX10_newName_250 ?_
      refine g_aload_n dX10_newName_251 rfl 0 rfl ?_
      refine m_getr (k := 12) okX10 rfl rfl (by decide) w_1281 rfl dX10_newName_252 ?_
      refine g_iload_n dX10_newName_255 rfl 2 rfl ?_
      obtain ⟨hz, h⟩ := gd_s h
      refine m_iald rfl hz dX10_newName_256 ?_
      obtain ⟨hz, h⟩ := gd_s h
      refine m_iast hA rfl hz dX10_newName_257 ?_
      refine g_iinc (v := (y3 + (nI 1))) (lv' := [(3, .int (y3 + (nI 1))), (0, .ref 81), (2, .int y2)]) dX10_newName_258 2 rfl rfl (by decide) rfl ?_
      refine g_goto (tgt := 230) dX10_newName_261 (by decide) ?_
      refine g_sub [1, 2, 0] (lv' := [(0, .ref 81), (2, .int y2), (3, .int (y3 + (nI 1)))]) rfl ?_
      exact ih _  _ h
set_option maxHeartbeats 4000000 in
set_option maxRecDepth 100000 in
theorem s_X10_newName {l : Launch} {B : BT} (hA : bA B = false) {d : Nat} {M' : Mm}  {M : Mm}  (h : f_X10_newName  M = some M') : Con l B LY (d + 5) yX10_newName cX10_newName 6 none 0 0 [.ref 81] 97 M (PV M') := by
  refine con_of (by decide) (Nat.le_of_ble_eq_true rfl) ?_
  show GG l B LY (d + 5) yX10_newName cX10_newName 6 none 0 0 (PV M') 97 0 0 0 [(0, .ref 81)] [] M
  rw [f_X10_newName] at h
  refine g_aload_n dX10_newName_0 rfl 0 rfl ?_
  refine g_ldcS (j := 23) rfl dX10_newName_1 ?_
  obtain ⟨v3_2, M3_1, eM3_1, h⟩ := bd_e h
  refine m_callVi (As := [.ref (1000 + 23)]) (st := []) (s_X10_isWord (d := d + 0) hA (by decide) eM3_1) rfl okX10 ck_X10_isWord w_1411 rfl (Nat.le_of_ble_eq_true rfl) dX10_newName_3 ?_
  obtain ⟨j5, ej5, h⟩ := jn_e h
  have hj5 : ∀ (s3 : Int32) (M4 : Mm), j5 s3 M4 = some M' → GG l B LY (d + 5) yX10_newName cX10_newName 6 none 0 0 (PV M') 97 0 0 77 [(0, .ref 81)] [.int s3] M4 := by
    intro s3 M4 h
    rw [ej5] at h
    refine g_istore_n (lv' := [(1, .int s3), (0, .ref 81)]) dX10_newName_77 rfl (by decide) rfl ?_
    refine g_aload_n dX10_newName_78 rfl 1 rfl ?_
    refine m_geti (k := 6) okX10 rfl rfl (by decide) w_1275 rfl dX10_newName_79 ?_
    refine g_iconst (v := (nI 2)) dX10_newName_82 (by decide) ?_
    obtain ⟨j7, ej7, h⟩ := jn_e h
    have hj7 : ∀ (M6 : Mm), j7 M6 = some M' → GG l B LY (d + 5) yX10_newName cX10_newName 6 none 0 0 (PV M') 97 0 0 99 [(0, .ref 81)] [] M6 := by
      intro M6 h
      rw [ej7] at h
      refine g_aload_n dX10_newName_99 rfl 0 rfl ?_
      refine m_geti (k := 13) okX10 rfl rfl (by decide) w_1282 rfl dX10_newName_100 ?_
      refine g_if_eq (tgt := 107) dX10_newName_103 (by decide) (fun c32 => ?_) (fun c32 => ?_)
      · replace h := ite_p c32 h
        refine g_aload_n dX10_newName_107 rfl 0 rfl ?_
        refine m_getr (k := 16) okX10 rfl rfl (by decide) w_1285 rfl dX10_newName_108 ?_
        refine g_bipush (v := (nI 95)) dX10_newName_111 (by decide) ?_
        refine m_ialdL (k := 95) rfl rfl (by decide) dX10_newName_113 ?_
        refine g_istore_n (lv' := [(2, .int (M6 85 95)), (0, .ref 81)]) dX10_newName_114 rfl (by decide) rfl ?_
        refine g_iconst (v := (nI 0)) dX10_newName_115 (by decide) ?_
        refine g_istore_n (lv' := [(3, .int (nI 0)), (2, .int (M6 85 95)), (0, .ref 81)]) dX10_newName_116 rfl (by decide) rfl ?_
        refine g_sub [2, 1, 0] (lv' := [(0, .ref 81), (2, .int (M6 85 95)), (3, .int (nI 0))]) rfl ?_
        refine sl_X10_newName_117 hA  ?_ _ _ _ h
        · intro  M26 h
          refine g_aload_n dX10_newName_220 rfl 0 rfl ?_
          refine m_geti (k := 13) okX10 rfl rfl (by decide) w_1282 rfl dX10_newName_221 ?_
          refine g_if_eq (tgt := 228) dX10_newName_224 (by decide) (fun c31 => ?_) (fun c31 => ?_)
          · replace h := ite_p c31 h
            refine g_iconst (v := (nI 0)) dX10_newName_228 (by decide) ?_
            refine g_istore_n (lv' := [(3, .int (nI 0)), (0, .ref 81), (2, .int (M6 85 95))]) dX10_newName_229 rfl (by decide) rfl ?_
            refine g_sub [1, 2, 0] (lv' := [(0, .ref 81), (2, .int (M6 85 95)), (3, .int (nI 0))]) rfl ?_
            refine sl_X10_newName_230 hA  ?_ _ _ _ h
            · intro  M28 h
              refine g_aload_n dX10_newName_264 rfl 0 rfl ?_
              refine m_getr (k := 16) okX10 rfl rfl (by decide) w_1285 rfl dX10_newName_265 ?_
              refine g_bipush (v := (nI 96)) dX10_newName_268 (by decide) ?_
              refine g_iload_n dX10_newName_270 rfl 1 rfl ?_
              refine g_iadd dX10_newName_271 ?_
              refine g_aload_n dX10_newName_272 rfl 0 rfl ?_
              refine m_geti (k := 8) okX10 rfl rfl (by decide) w_1277 rfl dX10_newName_273 ?_
              obtain ⟨hz, h⟩ := gd_s h
              refine m_iast hA rfl hz dX10_newName_276 ?_
              refine g_aload_n dX10_newName_277 rfl 0 rfl ?_
              obtain ⟨M278_29, eM278_29, h⟩ := bv_e h
              refine m_callVv (As := []) (st := []) (s_X10_next (d := d + 3) hA  eM278_29) rfl okX10 ck_X10_next w_1392 rfl (Nat.le_of_ble_eq_true rfl) dX10_newName_278 ?_
              exact g_vret rfl (pv_of h) dX10_newName_281
          · replace h := ite_n c31 h
            exact g_vret rfl (pv_of h) dX10_newName_227
      · replace h := ite_n c32 h
        exact g_vret rfl (pv_of h) dX10_newName_106
    obtain ⟨j34, ej34, h⟩ := jn_e h
    have hj34 : ∀ (M33 : Mm), j34 M33 = some M' → GG l B LY (d + 5) yX10_newName cX10_newName 6 none 0 0 (PV M') 97 0 0 90 [(0, .ref 81)] [] M33 := by
      intro M33 h
      rw [ej34] at h
      refine g_aload_n dX10_newName_90 rfl 0 rfl ?_
      refine g_iconst (v := (nI 1)) dX10_newName_91 (by decide) ?_
      refine g_aload_n dX10_newName_92 rfl 0 rfl ?_
      refine m_geti (k := 4) okX10 rfl rfl (by decide) w_1273 rfl dX10_newName_93 ?_
      obtain ⟨M96_35, eM96_35, h⟩ := bv_e h
      refine m_callVv (As := [.int (nI 1), .int (M33 81 4)]) (st := []) (s_X10_wrong (d := d + 4) hA  eM96_35) rfl okX10 ck_X10_wrong w_1425 rfl (Nat.le_of_ble_eq_true rfl) dX10_newName_96 ?_
      refine g_sub [0] (lv' := [(0, .ref 81)]) rfl ?_
      exact hj7  _ h
    refine g_icmp_ne (tgt := 90) dX10_newName_83 (by decide) (fun c38 => ?_) (fun c38 => ?_)
    · replace h := ite_n c38 h
      refine g_sub [1] (lv' := [(0, .ref 81)]) rfl ?_
      exact hj34  _ h
    · replace h := ite_p c38 h
      refine g_iload_n dX10_newName_86 rfl 0 rfl ?_
      refine g_if_eq (tgt := 99) dX10_newName_87 (by decide) (fun c37 => ?_) (fun c37 => ?_)
      · replace h := ite_p c37 h
        refine g_sub [1] (lv' := [(0, .ref 81)]) rfl ?_
        exact hj7  _ h
      · replace h := ite_n c37 h
        refine g_sub [1] (lv' := [(0, .ref 81)]) rfl ?_
        exact hj34  _ h
  obtain ⟨j40, ej40, h⟩ := jn_e h
  have hj40 : ∀ (M39 : Mm), j40 M39 = some M' → GG l B LY (d + 5) yX10_newName cX10_newName 6 none 0 0 (PV M') 97 0 0 72 [(0, .ref 81)] [] M39 := by
    intro M39 h
    rw [ej40] at h
    refine g_iconst (v := (nI 1)) dX10_newName_72 (by decide) ?_
    refine g_goto (tgt := 77) dX10_newName_73 (by decide) ?_
    refine g_sub [0] (lv' := [(0, .ref 81)]) rfl ?_
    exact hj5 _ _ h
  refine g_if_ne (tgt := 72) dX10_newName_6 (by decide) (fun c62 => ?_) (fun c62 => ?_)
  · replace h := ite_n c62 h
    refine g_sub [0] (lv' := [(0, .ref 81)]) rfl ?_
    exact hj40  _ h
  · replace h := ite_p c62 h
    refine g_aload_n dX10_newName_9 rfl 0 rfl ?_
    refine g_ldcS (j := 27) rfl dX10_newName_10 ?_
    obtain ⟨v12_42, M12_41, eM12_41, h⟩ := bd_e h
    refine m_callVi (As := [.ref (1000 + 27)]) (st := []) (s_X10_isWord (d := d + 0) hA (by decide) eM12_41) rfl okX10 ck_X10_isWord w_1411 rfl (Nat.le_of_ble_eq_true rfl) dX10_newName_12 ?_
    refine g_if_ne (tgt := 72) dX10_newName_15 (by decide) (fun c61 => ?_) (fun c61 => ?_)
    · replace h := ite_n c61 h
      refine g_sub [0] (lv' := [(0, .ref 81)]) rfl ?_
      exact hj40  _ h
    · replace h := ite_p c61 h
      refine g_aload_n dX10_newName_18 rfl 0 rfl ?_
      refine g_ldcS (j := 28) rfl dX10_newName_19 ?_
      obtain ⟨v21_44, M21_43, eM21_43, h⟩ := bd_e h
      refine m_callVi (As := [.ref (1000 + 28)]) (st := []) (s_X10_isWord (d := d + 0) hA (by decide) eM21_43) rfl okX10 ck_X10_isWord w_1411 rfl (Nat.le_of_ble_eq_true rfl) dX10_newName_21 ?_
      refine g_if_ne (tgt := 72) dX10_newName_24 (by decide) (fun c60 => ?_) (fun c60 => ?_)
      · replace h := ite_n c60 h
        refine g_sub [0] (lv' := [(0, .ref 81)]) rfl ?_
        exact hj40  _ h
      · replace h := ite_p c60 h
        refine g_aload_n dX10_newName_27 rfl 0 rfl ?_
        refine g_ldcS (j := 33) rfl dX10_newName_28 ?_
        obtain ⟨v30_46, M30_45, eM30_45, h⟩ := bd_e h
        refine m_callVi (As := [.ref (1000 + 33)]) (st := []) (s_X10_isWord (d := d + 0) hA (by decide) eM30_45) rfl okX10 ck_X10_isWord w_1411 rfl (Nat.le_of_ble_eq_true rfl) dX10_newName_30 ?_
        refine g_if_ne (tgt := 72) dX10_newName_33 (by decide) (fun c59 => ?_) (fun c59 => ?_)
        · replace h := ite_n c59 h
          refine g_sub [0] (lv' := [(0, .ref 81)]) rfl ?_
          exact hj40  _ h
        · replace h := ite_p c59 h
          refine g_aload_n dX10_newName_36 rfl 0 rfl ?_
          refine g_ldcS (j := 38) rfl dX10_newName_37 ?_
          obtain ⟨v39_48, M39_47, eM39_47, h⟩ := bd_e h
          refine m_callVi (As := [.ref (1000 + 38)]) (st := []) (s_X10_isWord (d := d + 0) hA (by decide) eM39_47) rfl okX10 ck_X10_isWord w_1411 rfl (Nat.le_of_ble_eq_true rfl) dX10_newName_39 ?_
          refine g_if_ne (tgt := 72) dX10_newName_42 (by decide) (fun c58 => ?_) (fun c58 => ?_)
          · replace h := ite_n c58 h
            refine g_sub [0] (lv' := [(0, .ref 81)]) rfl ?_
            exact hj40  _ h
          · replace h := ite_p c58 h
            refine g_aload_n dX10_newName_45 rfl 0 rfl ?_
            refine g_ldcS (j := 39) rfl dX10_newName_46 ?_
            obtain ⟨v48_50, M48_49, eM48_49, h⟩ := bd_e h
            refine m_callVi (As := [.ref (1000 + 39)]) (st := []) (s_X10_isWord (d := d + 0) hA (by decide) eM48_49) rfl okX10 ck_X10_isWord w_1411 rfl (Nat.le_of_ble_eq_true rfl) dX10_newName_48 ?_
            refine g_if_ne (tgt := 72) dX10_newName_51 (by decide) (fun c57 => ?_) (fun c57 => ?_)
            · replace h := ite_n c57 h
              refine g_sub [0] (lv' := [(0, .ref 81)]) rfl ?_
              exact hj40  _ h
            · replace h := ite_p c57 h
              refine g_aload_n dX10_newName_54 rfl 0 rfl ?_
              refine g_ldcS (j := 40) rfl dX10_newName_55 ?_
              obtain ⟨v57_52, M57_51, eM57_51, h⟩ := bd_e h
              refine m_callVi (As := [.ref (1000 + 40)]) (st := []) (s_X10_isWord (d := d + 0) hA (by decide) eM57_51) rfl okX10 ck_X10_isWord w_1411 rfl (Nat.le_of_ble_eq_true rfl) dX10_newName_57 ?_
              refine g_if_ne (tgt := 72) dX10_newName_60 (by decide) (fun c56 => ?_) (fun c56 => ?_)
              · replace h := ite_n c56 h
                refine g_sub [0] (lv' := [(0, .ref 81)]) rfl ?_
                exact hj40  _ h
              · replace h := ite_p c56 h
                refine g_aload_n dX10_newName_63 rfl 0 rfl ?_
                refine g_ldcS (j := 41) rfl dX10_newName_64 ?_
                obtain ⟨v66_54, M66_53, eM66_53, h⟩ := bd_e h
                refine m_callVi (As := [.ref (1000 + 41)]) (st := []) (s_X10_isWord (d := d + 0) hA (by decide) eM66_53) rfl okX10 ck_X10_isWord w_1411 rfl (Nat.le_of_ble_eq_true rfl) dX10_newName_66 ?_
                refine g_if_eq (tgt := 76) dX10_newName_69 (by decide) (fun c55 => ?_) (fun c55 => ?_)
                · replace h := ite_p c55 h
                  refine g_iconst (v := (nI 0)) dX10_newName_76 (by decide) ?_
                  refine g_sub [0] (lv' := [(0, .ref 81)]) rfl ?_
                  exact hj5 _ _ h
                · replace h := ite_n c55 h
                  refine g_sub [0] (lv' := [(0, .ref 81)]) rfl ?_
                  exact hj40  _ h
theorem ck_X10_newName : CKV yX10_newName cX10_newName 6 none 0 := ⟨⟨by decide, by decide, by decide +kernel⟩, w_1483, w_81, ⟨w_1482, w_28⟩, by decide⟩
theorem dX10_number_0 : decode cX10_number 0 = .ok (.aload_n 0, 1) := by decide +kernel
theorem dX10_number_1 : decode cX10_number 1 = .ok (.getfield 97, 3) := by decide +kernel
theorem dX10_number_4 : decode cX10_number 4 = .ok (.ifCond .eq 5, 3) := by decide +kernel
theorem dX10_number_7 : decode cX10_number 7 = .ok (.iload_n 1, 1) := by decide +kernel
theorem dX10_number_8 : decode cX10_number 8 = .ok (.ireturn, 1) := by decide +kernel
theorem dX10_number_9 : decode cX10_number 9 = .ok (.aload_n 0, 1) := by decide +kernel
theorem dX10_number_10 : decode cX10_number 10 = .ok (.getfield 87, 3) := by decide +kernel
theorem dX10_number_13 : decode cX10_number 13 = .ok (.iconst 3, 1) := by decide +kernel
theorem dX10_number_14 : decode cX10_number 14 = .ok (.if_icmp .eq 14, 3) := by decide +kernel
theorem dX10_number_17 : decode cX10_number 17 = .ok (.aload_n 0, 1) := by decide +kernel
theorem dX10_number_18 : decode cX10_number 18 = .ok (.iconst 1, 1) := by decide +kernel
theorem dX10_number_19 : decode cX10_number 19 = .ok (.aload_n 0, 1) := by decide +kernel
theorem dX10_number_20 : decode cX10_number 20 = .ok (.getfield 78, 3) := by decide +kernel
theorem dX10_number_23 : decode cX10_number 23 = .ok (.invokevirtual 124, 3) := by decide +kernel
theorem dX10_number_26 : decode cX10_number 26 = .ok (.iload_n 1, 1) := by decide +kernel
theorem dX10_number_27 : decode cX10_number 27 = .ok (.ireturn, 1) := by decide +kernel
theorem dX10_number_28 : decode cX10_number 28 = .ok (.aload_n 0, 1) := by decide +kernel
theorem dX10_number_29 : decode cX10_number 29 = .ok (.getfield 84, 3) := by decide +kernel
theorem dX10_number_32 : decode cX10_number 32 = .ok (.istore_n 3, 1) := by decide +kernel
theorem dX10_number_33 : decode cX10_number 33 = .ok (.iload_n 3, 1) := by decide +kernel
theorem dX10_number_34 : decode cX10_number 34 = .ok (.iload_n 1, 1) := by decide +kernel
theorem dX10_number_35 : decode cX10_number 35 = .ok (.iload_n 2, 1) := by decide +kernel
theorem dX10_number_36 : decode cX10_number 36 = .ok (.invokestatic 144, 3) := by decide +kernel
theorem dX10_number_39 : decode cX10_number 39 = .ok (.ifCond .ne 14, 3) := by decide +kernel
theorem dX10_number_42 : decode cX10_number 42 = .ok (.aload_n 0, 1) := by decide +kernel
theorem dX10_number_43 : decode cX10_number 43 = .ok (.iconst 4, 1) := by decide +kernel
theorem dX10_number_44 : decode cX10_number 44 = .ok (.aload_n 0, 1) := by decide +kernel
theorem dX10_number_45 : decode cX10_number 45 = .ok (.getfield 78, 3) := by decide +kernel
theorem dX10_number_48 : decode cX10_number 48 = .ok (.invokevirtual 124, 3) := by decide +kernel
theorem dX10_number_51 : decode cX10_number 51 = .ok (.iload_n 1, 1) := by decide +kernel
theorem dX10_number_52 : decode cX10_number 52 = .ok (.ireturn, 1) := by decide +kernel
theorem dX10_number_53 : decode cX10_number 53 = .ok (.aload_n 0, 1) := by decide +kernel
theorem dX10_number_54 : decode cX10_number 54 = .ok (.invokevirtual 118, 3) := by decide +kernel
theorem dX10_number_57 : decode cX10_number 57 = .ok (.iload_n 3, 1) := by decide +kernel
theorem dX10_number_58 : decode cX10_number 58 = .ok (.ireturn, 1) := by decide +kernel
def f_X10_number (x1 : Int32) (x2 : Int32) (M : Mm) : Option (Int32 × Mm) :=
  if (M 81 13) = 0 then (if (M 81 6) = (nI 3) then (bd (f_X10_within (M 81 7) x1 x2 M) fun v36_2 M36_1 => if v36_2 = 0 then (bv (f_X10_wrong (nI 4) (M36_1 81 4) M36_1) fun M48_5 => some (x1, M48_5)) else (bv (f_X10_next  M36_1) fun M54_3 => some ((M 81 7), M54_3))) else (bv (f_X10_wrong (nI 1) (M 81 4) M) fun M23_8 => some (x1, M23_8))) else (some (x1, M))
set_option maxHeartbeats 4000000 in
set_option maxRecDepth 100000 in
theorem s_X10_number {l : Launch} {B : BT} (hA : bA B = false) {d : Nat} {r : Int32} {M' : Mm} {x1 : Int32} {x2 : Int32} {M : Mm}  (h : f_X10_number x1 x2 M = some (r, M')) : Con l B LY (d + 2) yX10_number cX10_number 4 (some .int) 0 0 [.ref 81, .int x1, .int x2] 97 M (PI r M') := by
  refine con_of (by decide) (Nat.le_of_ble_eq_true rfl) ?_
  show GG l B LY (d + 2) yX10_number cX10_number 4 (some .int) 0 0 (PI r M') 97 0 0 0 [(0, .ref 81), (1, .int x1), (2, .int x2)] [] M
  rw [f_X10_number] at h
  refine g_aload_n dX10_number_0 rfl 0 rfl ?_
  refine m_geti (k := 13) okX10 rfl rfl (by decide) w_1282 rfl dX10_number_1 ?_
  refine g_if_eq (tgt := 9) dX10_number_4 (by decide) (fun c11 => ?_) (fun c11 => ?_)
  · replace h := ite_p c11 h
    refine g_aload_n dX10_number_9 rfl 0 rfl ?_
    refine m_geti (k := 6) okX10 rfl rfl (by decide) w_1275 rfl dX10_number_10 ?_
    refine g_iconst (v := (nI 3)) dX10_number_13 (by decide) ?_
    refine g_icmp_eq (tgt := 28) dX10_number_14 (by decide) (fun c10 => ?_) (fun c10 => ?_)
    · replace h := ite_p c10 h
      refine g_aload_n dX10_number_28 rfl 0 rfl ?_
      refine m_geti (k := 7) okX10 rfl rfl (by decide) w_1276 rfl dX10_number_29 ?_
      refine g_istore_n (lv' := [(3, .int (M 81 7)), (0, .ref 81), (1, .int x1), (2, .int x2)]) dX10_number_32 rfl (by decide) rfl ?_
      refine g_iload_n dX10_number_33 rfl 0 rfl ?_
      refine g_iload_n dX10_number_34 rfl 2 rfl ?_
      refine g_iload_n dX10_number_35 rfl 3 rfl ?_
      obtain ⟨v36_2, M36_1, eM36_1, h⟩ := bd_e h
      refine m_callSi (As := [.int (M 81 7), .int x1, .int x2]) (st := []) (s_X10_within (d := d + 1) hA  eM36_1) ck_X10_within w_1385 rfl (Nat.le_of_ble_eq_true rfl) dX10_number_36 ?_
      refine g_if_ne (tgt := 53) dX10_number_39 (by decide) (fun c7 => ?_) (fun c7 => ?_)
      · replace h := ite_n c7 h
        refine g_aload_n dX10_number_53 rfl 1 rfl ?_
        obtain ⟨M54_3, eM54_3, h⟩ := bv_e h
        refine m_callVv (As := []) (st := []) (s_X10_next (d := d + 0) hA  eM54_3) rfl okX10 ck_X10_next w_1392 rfl (Nat.le_of_ble_eq_true rfl) dX10_number_54 ?_
        refine g_iload_n dX10_number_57 rfl 0 rfl ?_
        exact g_zret rfl rfl (pi_of h) dX10_number_58
      · replace h := ite_p c7 h
        refine g_aload_n dX10_number_42 rfl 1 rfl ?_
        refine g_iconst (v := (nI 4)) dX10_number_43 (by decide) ?_
        refine g_aload_n dX10_number_44 rfl 1 rfl ?_
        refine m_geti (k := 4) okX10 rfl rfl (by decide) w_1273 rfl dX10_number_45 ?_
        obtain ⟨M48_5, eM48_5, h⟩ := bv_e h
        refine m_callVv (As := [.int (nI 4), .int (M36_1 81 4)]) (st := []) (s_X10_wrong (d := d + 1) hA  eM48_5) rfl okX10 ck_X10_wrong w_1425 rfl (Nat.le_of_ble_eq_true rfl) dX10_number_48 ?_
        refine g_iload_n dX10_number_51 rfl 2 rfl ?_
        exact g_zret rfl rfl (pi_of h) dX10_number_52
    · replace h := ite_n c10 h
      refine g_aload_n dX10_number_17 rfl 0 rfl ?_
      refine g_iconst (v := (nI 1)) dX10_number_18 (by decide) ?_
      refine g_aload_n dX10_number_19 rfl 0 rfl ?_
      refine m_geti (k := 4) okX10 rfl rfl (by decide) w_1273 rfl dX10_number_20 ?_
      obtain ⟨M23_8, eM23_8, h⟩ := bv_e h
      refine m_callVv (As := [.int (nI 1), .int (M 81 4)]) (st := []) (s_X10_wrong (d := d + 1) hA  eM23_8) rfl okX10 ck_X10_wrong w_1425 rfl (Nat.le_of_ble_eq_true rfl) dX10_number_23 ?_
      refine g_iload_n dX10_number_26 rfl 1 rfl ?_
      exact g_zret rfl rfl (pi_of h) dX10_number_27
  · replace h := ite_n c11 h
    refine g_iload_n dX10_number_7 rfl 1 rfl ?_
    exact g_zret rfl rfl (pi_of h) dX10_number_8
theorem ck_X10_number : CKV yX10_number cX10_number 4 (some .int) 2 := ⟨⟨by decide, by decide, by decide +kernel⟩, w_1445, w_81, ⟨w_1444, w_22⟩, by decide⟩
theorem dX10_told_0 : decode cX10_told 0 = .ok (.aload_n 0, 1) := by decide +kernel
theorem dX10_told_1 : decode cX10_told 1 = .ok (.aload_n 1, 1) := by decide +kernel
theorem dX10_told_2 : decode cX10_told 2 = .ok (.invokevirtual 148, 3) := by decide +kernel
theorem dX10_told_5 : decode cX10_told 5 = .ok (.aload_n 0, 1) := by decide +kernel
theorem dX10_told_6 : decode cX10_told 6 = .ok (.iload_n 2, 1) := by decide +kernel
theorem dX10_told_7 : decode cX10_told 7 = .ok (.iload_n 3, 1) := by decide +kernel
theorem dX10_told_8 : decode cX10_told 8 = .ok (.invokevirtual 152, 3) := by decide +kernel
theorem dX10_told_11 : decode cX10_told 11 = .ok (.ireturn, 1) := by decide +kernel
def f_X10_told (x1 : Nat) (x2 : Int32) (x3 : Int32) (M : Mm) : Option (Int32 × Mm) :=
  bv (f_X10_must x1 M) fun M2_1 => bd (f_X10_number x2 x3 M2_1) fun v8_4 M8_3 => some (v8_4, M8_3)
set_option maxHeartbeats 4000000 in
set_option maxRecDepth 100000 in
theorem s_X10_told {l : Launch} {B : BT} (hA : bA B = false) {d : Nat} {r : Int32} {M' : Mm} {x1 : Nat} {x2 : Int32} {x3 : Int32} {M : Mm} (hx1 : x1 < 46) (h : f_X10_told x1 x2 x3 M = some (r, M')) : Con l B LY (d + 7) yX10_told cX10_told 4 (some .int) 0 0 [.ref 81, .ref (1000 + x1), .int x2, .int x3] 97 M (PI r M') := by
  refine con_of (by decide) (Nat.le_of_ble_eq_true rfl) ?_
  show GG l B LY (d + 7) yX10_told cX10_told 4 (some .int) 0 0 (PI r M') 97 0 0 0 [(0, .ref 81), (1, .ref (1000 + x1)), (2, .int x2), (3, .int x3)] [] M
  rw [f_X10_told] at h
  refine g_aload_n dX10_told_0 rfl 0 rfl ?_
  refine g_aload_n dX10_told_1 rfl 1 rfl ?_
  obtain ⟨M2_1, eM2_1, h⟩ := bv_e h
  refine m_callVv (As := [.ref (1000 + x1)]) (st := []) (s_X10_must (d := d + 0) hA hx1 eM2_1) rfl okX10 ck_X10_must w_1434 rfl (Nat.le_of_ble_eq_true rfl) dX10_told_2 ?_
  refine g_aload_n dX10_told_5 rfl 0 rfl ?_
  refine g_iload_n dX10_told_6 rfl 2 rfl ?_
  refine g_iload_n dX10_told_7 rfl 3 rfl ?_
  obtain ⟨v8_4, M8_3, eM8_3, h⟩ := bd_e h
  refine m_callVi (As := [.int x2, .int x3]) (st := []) (s_X10_number (d := d + 4) hA  eM8_3) rfl okX10 ck_X10_number w_1442 rfl (Nat.le_of_ble_eq_true rfl) dX10_told_8 ?_
  exact g_zret rfl rfl (pi_of h) dX10_told_11
theorem ck_X10_told : CKV yX10_told cX10_told 4 (some .int) 3 := ⟨⟨by decide, by decide, by decide +kernel⟩, w_1433, w_81, ⟨w_1432, w_19⟩, by decide⟩
theorem dX10_comma_0 : decode cX10_comma 0 = .ok (.aload_n 0, 1) := by decide +kernel
theorem dX10_comma_1 : decode cX10_comma 1 = .ok (.getfield 97, 3) := by decide +kernel
theorem dX10_comma_4 : decode cX10_comma 4 = .ok (.ifCond .ne 12, 3) := by decide +kernel
theorem dX10_comma_7 : decode cX10_comma 7 = .ok (.aload_n 0, 1) := by decide +kernel
theorem dX10_comma_8 : decode cX10_comma 8 = .ok (.getfield 87, 3) := by decide +kernel
theorem dX10_comma_11 : decode cX10_comma 11 = .ok (.bipush 44, 2) := by decide +kernel
theorem dX10_comma_13 : decode cX10_comma 13 = .ok (.if_icmp .eq 5, 3) := by decide +kernel
theorem dX10_comma_16 : decode cX10_comma 16 = .ok (.iconst 0, 1) := by decide +kernel
theorem dX10_comma_17 : decode cX10_comma 17 = .ok (.ireturn, 1) := by decide +kernel
theorem dX10_comma_18 : decode cX10_comma 18 = .ok (.aload_n 0, 1) := by decide +kernel
theorem dX10_comma_19 : decode cX10_comma 19 = .ok (.invokevirtual 118, 3) := by decide +kernel
theorem dX10_comma_22 : decode cX10_comma 22 = .ok (.iconst 1, 1) := by decide +kernel
theorem dX10_comma_23 : decode cX10_comma 23 = .ok (.ireturn, 1) := by decide +kernel
def f_X10_comma  (M : Mm) : Option (Int32 × Mm) :=
  if (M 81 13) = 0 then (if (M 81 6) = (nI 44) then (bv (f_X10_next  M) fun M19_1 => some ((nI 1), M19_1)) else (some ((nI 0), M))) else (some ((nI 0), M))
set_option maxHeartbeats 4000000 in
set_option maxRecDepth 100000 in
theorem s_X10_comma {l : Launch} {B : BT} (hA : bA B = false) {d : Nat} {r : Int32} {M' : Mm}  {M : Mm}  (h : f_X10_comma  M = some (r, M')) : Con l B LY (d + 2) yX10_comma cX10_comma 1 (some .boolean) 0 0 [.ref 81] 97 M (PI r M') := by
  refine con_of (by decide) (Nat.le_of_ble_eq_true rfl) ?_
  show GG l B LY (d + 2) yX10_comma cX10_comma 1 (some .boolean) 0 0 (PI r M') 97 0 0 0 [(0, .ref 81)] [] M
  rw [f_X10_comma] at h
  refine g_aload_n dX10_comma_0 rfl 0 rfl ?_
  refine m_geti (k := 13) okX10 rfl rfl (by decide) w_1282 rfl dX10_comma_1 ?_
  refine g_if_ne (tgt := 16) dX10_comma_4 (by decide) (fun c4 => ?_) (fun c4 => ?_)
  · replace h := ite_n c4 h
    refine g_iconst (v := (nI 0)) dX10_comma_16 (by decide) ?_
    exact g_zret rfl rfl (pi_of h) dX10_comma_17
  · replace h := ite_p c4 h
    refine g_aload_n dX10_comma_7 rfl 0 rfl ?_
    refine m_geti (k := 6) okX10 rfl rfl (by decide) w_1275 rfl dX10_comma_8 ?_
    refine g_bipush (v := (nI 44)) dX10_comma_11 (by decide) ?_
    refine g_icmp_eq (tgt := 18) dX10_comma_13 (by decide) (fun c3 => ?_) (fun c3 => ?_)
    · replace h := ite_p c3 h
      refine g_aload_n dX10_comma_18 rfl 0 rfl ?_
      obtain ⟨M19_1, eM19_1, h⟩ := bv_e h
      refine m_callVv (As := []) (st := []) (s_X10_next (d := d + 0) hA  eM19_1) rfl okX10 ck_X10_next w_1392 rfl (Nat.le_of_ble_eq_true rfl) dX10_comma_19 ?_
      refine g_iconst (v := (nI 1)) dX10_comma_22 (by decide) ?_
      exact g_zret rfl rfl (pi_of h) dX10_comma_23
    · replace h := ite_n c3 h
      refine g_iconst (v := (nI 0)) dX10_comma_16 (by decide) ?_
      exact g_zret rfl rfl (pi_of h) dX10_comma_17
theorem ck_X10_comma : CKV yX10_comma cX10_comma 1 (some .boolean) 0 := ⟨⟨by decide, by decide, by decide +kernel⟩, w_1456, w_81, ⟨w_1455, w_24⟩, by decide⟩
theorem dX10_begins_0 : decode cX10_begins 0 = .ok (.iload_n 1, 1) := by decide +kernel
theorem dX10_begins_1 : decode cX10_begins 1 = .ok (.ifCond .le 12, 3) := by decide +kernel
theorem dX10_begins_4 : decode cX10_begins 4 = .ok (.aload_n 0, 1) := by decide +kernel
theorem dX10_begins_5 : decode cX10_begins 5 = .ok (.iload_n 1, 1) := by decide +kernel
theorem dX10_begins_6 : decode cX10_begins 6 = .ok (.aload_n 0, 1) := by decide +kernel
theorem dX10_begins_7 : decode cX10_begins 7 = .ok (.getfield 78, 3) := by decide +kernel
theorem dX10_begins_10 : decode cX10_begins 10 = .ok (.invokevirtual 124, 3) := by decide +kernel
theorem dX10_begins_13 : decode cX10_begins 13 = .ok (.aload_n 0, 1) := by decide +kernel
theorem dX10_begins_14 : decode cX10_begins 14 = .ok (.getfield 97, 3) := by decide +kernel
theorem dX10_begins_17 : decode cX10_begins 17 = .ok (.ifCond .ne 7, 3) := by decide +kernel
theorem dX10_begins_20 : decode cX10_begins 20 = .ok (.aload_n 0, 1) := by decide +kernel
theorem dX10_begins_21 : decode cX10_begins 21 = .ok (.invokevirtual 118, 3) := by decide +kernel
theorem dX10_begins_24 : decode cX10_begins 24 = .ok (.return_, 1) := by decide +kernel
def f_X10_begins (x1 : Int32) (M : Mm) : Option (Mm) :=
  jn (fun (M1 : Mm) => if (M1 81 13) = 0 then (bv (f_X10_next  M1) fun M21_3 => some M21_3) else (some M1)) fun j2 => if x1 ≤ 0 then (j2  M) else (bv (f_X10_wrong x1 (M 81 4) M) fun M10_6 => j2  M10_6)
set_option maxHeartbeats 4000000 in
set_option maxRecDepth 100000 in
theorem s_X10_begins {l : Launch} {B : BT} (hA : bA B = false) {d : Nat} {M' : Mm} {x1 : Int32} {M : Mm}  (h : f_X10_begins x1 M = some M') : Con l B LY (d + 2) yX10_begins cX10_begins 2 none 0 0 [.ref 81, .int x1] 97 M (PV M') := by
  refine con_of (by decide) (Nat.le_of_ble_eq_true rfl) ?_
  show GG l B LY (d + 2) yX10_begins cX10_begins 2 none 0 0 (PV M') 97 0 0 0 [(0, .ref 81), (1, .int x1)] [] M
  rw [f_X10_begins] at h
  refine g_iload_n dX10_begins_0 rfl 1 rfl ?_
  obtain ⟨j2, ej2, h⟩ := jn_e h
  have hj2 : ∀ (M1 : Mm), j2 M1 = some M' → GG l B LY (d + 2) yX10_begins cX10_begins 2 none 0 0 (PV M') 97 0 0 13 [(0, .ref 81)] [] M1 := by
    intro M1 h
    rw [ej2] at h
    refine g_aload_n dX10_begins_13 rfl 0 rfl ?_
    refine m_geti (k := 13) okX10 rfl rfl (by decide) w_1282 rfl dX10_begins_14 ?_
    refine g_if_ne (tgt := 24) dX10_begins_17 (by decide) (fun c5 => ?_) (fun c5 => ?_)
    · replace h := ite_n c5 h
      exact g_vret rfl (pv_of h) dX10_begins_24
    · replace h := ite_p c5 h
      refine g_aload_n dX10_begins_20 rfl 0 rfl ?_
      obtain ⟨M21_3, eM21_3, h⟩ := bv_e h
      refine m_callVv (As := []) (st := []) (s_X10_next (d := d + 0) hA  eM21_3) rfl okX10 ck_X10_next w_1392 rfl (Nat.le_of_ble_eq_true rfl) dX10_begins_21 ?_
      exact g_vret rfl (pv_of h) dX10_begins_24
  refine g_if_le (tgt := 13) dX10_begins_1 (by decide) (fun c8 => ?_) (fun c8 => ?_)
  · replace h := ite_p c8 h
    refine g_sub [0] (lv' := [(0, .ref 81)]) rfl ?_
    exact hj2  _ h
  · replace h := ite_n c8 h
    refine g_aload_n dX10_begins_4 rfl 0 rfl ?_
    refine g_iload_n dX10_begins_5 rfl 1 rfl ?_
    refine g_aload_n dX10_begins_6 rfl 0 rfl ?_
    refine m_geti (k := 4) okX10 rfl rfl (by decide) w_1273 rfl dX10_begins_7 ?_
    obtain ⟨M10_6, eM10_6, h⟩ := bv_e h
    refine m_callVv (As := [.int x1, .int (M 81 4)]) (st := []) (s_X10_wrong (d := d + 1) hA  eM10_6) rfl okX10 ck_X10_wrong w_1425 rfl (Nat.le_of_ble_eq_true rfl) dX10_begins_10 ?_
    refine g_sub [0] (lv' := [(0, .ref 81)]) rfl ?_
    exact hj2  _ h
theorem ck_X10_begins : CKV yX10_begins cX10_begins 2 none 1 := ⟨⟨by decide, by decide, by decide +kernel⟩, w_1424, w_81, ⟨w_1423, w_17⟩, by decide⟩
theorem dX10_yardLine_0 : decode cX10_yardLine 0 = .ok (.aload_n 0, 1) := by decide +kernel
theorem dX10_yardLine_1 : decode cX10_yardLine 1 = .ok (.aload_n 0, 1) := by decide +kernel
theorem dX10_yardLine_2 : decode cX10_yardLine 2 = .ok (.getfield 23, 3) := by decide +kernel
theorem dX10_yardLine_5 : decode cX10_yardLine 5 = .ok (.bipush 91, 2) := by decide +kernel
theorem dX10_yardLine_7 : decode cX10_yardLine 7 = .ok (.iaload, 1) := by decide +kernel
theorem dX10_yardLine_8 : decode cX10_yardLine 8 = .ok (.ifCond .le 7, 3) := by decide +kernel
theorem dX10_yardLine_11 : decode cX10_yardLine 11 = .ok (.iconst 3, 1) := by decide +kernel
theorem dX10_yardLine_12 : decode cX10_yardLine 12 = .ok (.goto 4, 3) := by decide +kernel
theorem dX10_yardLine_15 : decode cX10_yardLine 15 = .ok (.iconst 0, 1) := by decide +kernel
theorem dX10_yardLine_16 : decode cX10_yardLine 16 = .ok (.invokevirtual 193, 3) := by decide +kernel
theorem dX10_yardLine_19 : decode cX10_yardLine 19 = .ok (.aload_n 0, 1) := by decide +kernel
theorem dX10_yardLine_20 : decode cX10_yardLine 20 = .ok (.getfield 23, 3) := by decide +kernel
theorem dX10_yardLine_23 : decode cX10_yardLine 23 = .ok (.iconst 0, 1) := by decide +kernel
theorem dX10_yardLine_24 : decode cX10_yardLine 24 = .ok (.aload_n 0, 1) := by decide +kernel
theorem dX10_yardLine_25 : decode cX10_yardLine 25 = .ok (.ldc 196, 2) := by decide +kernel
theorem dX10_yardLine_27 : decode cX10_yardLine 27 = .ok (.iconst 4, 1) := by decide +kernel
theorem dX10_yardLine_28 : decode cX10_yardLine 28 = .ok (.bipush 40, 2) := by decide +kernel
theorem dX10_yardLine_30 : decode cX10_yardLine 30 = .ok (.invokevirtual 198, 3) := by decide +kernel
theorem dX10_yardLine_33 : decode cX10_yardLine 33 = .ok (.iastore, 1) := by decide +kernel
theorem dX10_yardLine_34 : decode cX10_yardLine 34 = .ok (.aload_n 0, 1) := by decide +kernel
theorem dX10_yardLine_35 : decode cX10_yardLine 35 = .ok (.getfield 23, 3) := by decide +kernel
theorem dX10_yardLine_38 : decode cX10_yardLine 38 = .ok (.iconst 1, 1) := by decide +kernel
theorem dX10_yardLine_39 : decode cX10_yardLine 39 = .ok (.aload_n 0, 1) := by decide +kernel
theorem dX10_yardLine_40 : decode cX10_yardLine 40 = .ok (.ldc 202, 2) := by decide +kernel
theorem dX10_yardLine_42 : decode cX10_yardLine 42 = .ok (.iconst 1, 1) := by decide +kernel
theorem dX10_yardLine_43 : decode cX10_yardLine 43 = .ok (.bipush 6, 2) := by decide +kernel
theorem dX10_yardLine_45 : decode cX10_yardLine 45 = .ok (.invokevirtual 198, 3) := by decide +kernel
theorem dX10_yardLine_48 : decode cX10_yardLine 48 = .ok (.iastore, 1) := by decide +kernel
theorem dX10_yardLine_49 : decode cX10_yardLine 49 = .ok (.aload_n 0, 1) := by decide +kernel
theorem dX10_yardLine_50 : decode cX10_yardLine 50 = .ok (.getfield 23, 3) := by decide +kernel
theorem dX10_yardLine_53 : decode cX10_yardLine 53 = .ok (.iconst 2, 1) := by decide +kernel
theorem dX10_yardLine_54 : decode cX10_yardLine 54 = .ok (.aload_n 0, 1) := by decide +kernel
theorem dX10_yardLine_55 : decode cX10_yardLine 55 = .ok (.ldc 204, 2) := by decide +kernel
theorem dX10_yardLine_57 : decode cX10_yardLine 57 = .ok (.iconst 1, 1) := by decide +kernel
theorem dX10_yardLine_58 : decode cX10_yardLine 58 = .ok (.bipush 9, 2) := by decide +kernel
theorem dX10_yardLine_60 : decode cX10_yardLine 60 = .ok (.invokevirtual 198, 3) := by decide +kernel
theorem dX10_yardLine_63 : decode cX10_yardLine 63 = .ok (.iastore, 1) := by decide +kernel
theorem dX10_yardLine_64 : decode cX10_yardLine 64 = .ok (.aload_n 0, 1) := by decide +kernel
theorem dX10_yardLine_65 : decode cX10_yardLine 65 = .ok (.getfield 97, 3) := by decide +kernel
theorem dX10_yardLine_68 : decode cX10_yardLine 68 = .ok (.ifCond .ne 11, 3) := by decide +kernel
theorem dX10_yardLine_71 : decode cX10_yardLine 71 = .ok (.aload_n 0, 1) := by decide +kernel
theorem dX10_yardLine_72 : decode cX10_yardLine 72 = .ok (.getfield 23, 3) := by decide +kernel
theorem dX10_yardLine_75 : decode cX10_yardLine 75 = .ok (.bipush 91, 2) := by decide +kernel
theorem dX10_yardLine_77 : decode cX10_yardLine 77 = .ok (.iconst 1, 1) := by decide +kernel
theorem dX10_yardLine_78 : decode cX10_yardLine 78 = .ok (.iastore, 1) := by decide +kernel
theorem dX10_yardLine_79 : decode cX10_yardLine 79 = .ok (.return_, 1) := by decide +kernel
def f_X10_yardLine  (M : Mm) : Option (Mm) :=
  jn (fun (s1 : Int32) (M2 : Mm) => bv (f_X10_begins s1 M2) fun M16_4 => bd (f_X10_told 24 (nI 4) (nI 40) M16_4) fun v30_7 M30_6 => bd (f_X10_told 25 (nI 1) (nI 6) (mset M30_6 85 0 v30_7)) fun v45_9 M45_8 => bd (f_X10_told 26 (nI 1) (nI 9) (mset M45_8 85 1 v45_9)) fun v60_11 M60_10 => if ((mset M60_10 85 2 v60_11) 81 13) = 0 then (some ((mset (mset M60_10 85 2 v60_11) 85 91 (nI 1)))) else (some ((mset M60_10 85 2 v60_11)))) fun j3 => if (M 85 91) ≤ 0 then (j3 (nI 0) M) else (j3 (nI 3) M)
set_option maxHeartbeats 4000000 in
set_option maxRecDepth 100000 in
theorem s_X10_yardLine {l : Launch} {B : BT} (hA : bA B = false) {d : Nat} {M' : Mm}  {M : Mm}  (h : f_X10_yardLine  M = some M') : Con l B LY (d + 8) yX10_yardLine cX10_yardLine 1 none 0 0 [.ref 81] 97 M (PV M') := by
  refine con_of (by decide) (Nat.le_of_ble_eq_true rfl) ?_
  show GG l B LY (d + 8) yX10_yardLine cX10_yardLine 1 none 0 0 (PV M') 97 0 0 0 [(0, .ref 81)] [] M
  rw [f_X10_yardLine] at h
  refine g_aload_n dX10_yardLine_0 rfl 0 rfl ?_
  refine g_aload_n dX10_yardLine_1 rfl 0 rfl ?_
  refine m_getr (k := 16) okX10 rfl rfl (by decide) w_1285 rfl dX10_yardLine_2 ?_
  refine g_bipush (v := (nI 91)) dX10_yardLine_5 (by decide) ?_
  refine m_ialdL (k := 91) rfl rfl (by decide) dX10_yardLine_7 ?_
  obtain ⟨j3, ej3, h⟩ := jn_e h
  have hj3 : ∀ (s1 : Int32) (M2 : Mm), j3 s1 M2 = some M' → GG l B LY (d + 8) yX10_yardLine cX10_yardLine 1 none 0 0 (PV M') 97 0 0 16 [(0, .ref 81)] [.int s1, .ref 81] M2 := by
    intro s1 M2 h
    rw [ej3] at h
    obtain ⟨M16_4, eM16_4, h⟩ := bv_e h
    refine m_callVv (As := [.int s1]) (st := []) (s_X10_begins (d := d + 5) hA  eM16_4) rfl okX10 ck_X10_begins w_1421 rfl (Nat.le_of_ble_eq_true rfl) dX10_yardLine_16 ?_
    refine g_aload_n dX10_yardLine_19 rfl 0 rfl ?_
    refine m_getr (k := 16) okX10 rfl rfl (by decide) w_1285 rfl dX10_yardLine_20 ?_
    refine g_iconst (v := (nI 0)) dX10_yardLine_23 (by decide) ?_
    refine g_aload_n dX10_yardLine_24 rfl 0 rfl ?_
    refine g_ldcS (j := 24) rfl dX10_yardLine_25 ?_
    refine g_iconst (v := (nI 4)) dX10_yardLine_27 (by decide) ?_
    refine g_bipush (v := (nI 40)) dX10_yardLine_28 (by decide) ?_
    obtain ⟨v30_7, M30_6, eM30_6, h⟩ := bd_e h
    refine m_callVi (As := [.ref (1000 + 24), .int (nI 4), .int (nI 40)]) (st := [.int (nI 0), .ref 85]) (s_X10_told (d := d + 0) hA (by decide) eM30_6) rfl okX10 ck_X10_told w_1430 rfl (Nat.le_of_ble_eq_true rfl) dX10_yardLine_30 ?_
    refine m_iastL (k := 0) hA rfl rfl (by decide) dX10_yardLine_33 ?_
    refine g_aload_n dX10_yardLine_34 rfl 0 rfl ?_
    refine m_getr (k := 16) okX10 rfl rfl (by decide) w_1285 rfl dX10_yardLine_35 ?_
    refine g_iconst (v := (nI 1)) dX10_yardLine_38 (by decide) ?_
    refine g_aload_n dX10_yardLine_39 rfl 0 rfl ?_
    refine g_ldcS (j := 25) rfl dX10_yardLine_40 ?_
    refine g_iconst (v := (nI 1)) dX10_yardLine_42 (by decide) ?_
    refine g_bipush (v := (nI 6)) dX10_yardLine_43 (by decide) ?_
    obtain ⟨v45_9, M45_8, eM45_8, h⟩ := bd_e h
    refine m_callVi (As := [.ref (1000 + 25), .int (nI 1), .int (nI 6)]) (st := [.int (nI 1), .ref 85]) (s_X10_told (d := d + 0) hA (by decide) eM45_8) rfl okX10 ck_X10_told w_1430 rfl (Nat.le_of_ble_eq_true rfl) dX10_yardLine_45 ?_
    refine m_iastL (k := 1) hA rfl rfl (by decide) dX10_yardLine_48 ?_
    refine g_aload_n dX10_yardLine_49 rfl 0 rfl ?_
    refine m_getr (k := 16) okX10 rfl rfl (by decide) w_1285 rfl dX10_yardLine_50 ?_
    refine g_iconst (v := (nI 2)) dX10_yardLine_53 (by decide) ?_
    refine g_aload_n dX10_yardLine_54 rfl 0 rfl ?_
    refine g_ldcS (j := 26) rfl dX10_yardLine_55 ?_
    refine g_iconst (v := (nI 1)) dX10_yardLine_57 (by decide) ?_
    refine g_bipush (v := (nI 9)) dX10_yardLine_58 (by decide) ?_
    obtain ⟨v60_11, M60_10, eM60_10, h⟩ := bd_e h
    refine m_callVi (As := [.ref (1000 + 26), .int (nI 1), .int (nI 9)]) (st := [.int (nI 2), .ref 85]) (s_X10_told (d := d + 0) hA (by decide) eM60_10) rfl okX10 ck_X10_told w_1430 rfl (Nat.le_of_ble_eq_true rfl) dX10_yardLine_60 ?_
    refine m_iastL (k := 2) hA rfl rfl (by decide) dX10_yardLine_63 ?_
    refine g_aload_n dX10_yardLine_64 rfl 0 rfl ?_
    refine m_geti (k := 13) okX10 rfl rfl (by decide) w_1282 rfl dX10_yardLine_65 ?_
    refine g_if_ne (tgt := 79) dX10_yardLine_68 (by decide) (fun c12 => ?_) (fun c12 => ?_)
    · replace h := ite_n c12 h
      exact g_vret rfl (pv_of h) dX10_yardLine_79
    · replace h := ite_p c12 h
      refine g_aload_n dX10_yardLine_71 rfl 0 rfl ?_
      refine m_getr (k := 16) okX10 rfl rfl (by decide) w_1285 rfl dX10_yardLine_72 ?_
      refine g_bipush (v := (nI 91)) dX10_yardLine_75 (by decide) ?_
      refine g_iconst (v := (nI 1)) dX10_yardLine_77 (by decide) ?_
      refine m_iastL (k := 91) hA rfl rfl (by decide) dX10_yardLine_78 ?_
      exact g_vret rfl (pv_of h) dX10_yardLine_79
  refine g_if_le (tgt := 15) dX10_yardLine_8 (by decide) (fun c13 => ?_) (fun c13 => ?_)
  · replace h := ite_p c13 h
    refine g_iconst (v := (nI 0)) dX10_yardLine_15 (by decide) ?_
    refine g_sub [0] (lv' := [(0, .ref 81)]) rfl ?_
    exact hj3 _ _ h
  · replace h := ite_n c13 h
    refine g_iconst (v := (nI 3)) dX10_yardLine_11 (by decide) ?_
    refine g_goto (tgt := 16) dX10_yardLine_12 (by decide) ?_
    refine g_sub [0] (lv' := [(0, .ref 81)]) rfl ?_
    exact hj3 _ _ h
theorem ck_X10_yardLine : CKV yX10_yardLine cX10_yardLine 1 none 0 := ⟨⟨by decide, by decide, by decide +kernel⟩, w_1420, w_81, ⟨w_1419, w_16⟩, by decide⟩
theorem dX10_verseLine_0 : decode cX10_verseLine 0 = .ok (.aload_n 0, 1) := by decide +kernel
theorem dX10_verseLine_1 : decode cX10_verseLine 1 = .ok (.aload_n 0, 1) := by decide +kernel
theorem dX10_verseLine_2 : decode cX10_verseLine 2 = .ok (.getfield 23, 3) := by decide +kernel
theorem dX10_verseLine_5 : decode cX10_verseLine 5 = .ok (.bipush 92, 2) := by decide +kernel
theorem dX10_verseLine_7 : decode cX10_verseLine 7 = .ok (.iaload, 1) := by decide +kernel
theorem dX10_verseLine_8 : decode cX10_verseLine 8 = .ok (.ifCond .le 7, 3) := by decide +kernel
theorem dX10_verseLine_11 : decode cX10_verseLine 11 = .ok (.iconst 3, 1) := by decide +kernel
theorem dX10_verseLine_12 : decode cX10_verseLine 12 = .ok (.goto 4, 3) := by decide +kernel
theorem dX10_verseLine_15 : decode cX10_verseLine 15 = .ok (.iconst 0, 1) := by decide +kernel
theorem dX10_verseLine_16 : decode cX10_verseLine 16 = .ok (.invokevirtual 193, 3) := by decide +kernel
theorem dX10_verseLine_19 : decode cX10_verseLine 19 = .ok (.iconst 0, 1) := by decide +kernel
theorem dX10_verseLine_20 : decode cX10_verseLine 20 = .ok (.istore_n 1, 1) := by decide +kernel
theorem dX10_verseLine_21 : decode cX10_verseLine 21 = .ok (.iconst 1, 1) := by decide +kernel
theorem dX10_verseLine_22 : decode cX10_verseLine 22 = .ok (.istore_n 2, 1) := by decide +kernel
theorem dX10_verseLine_23 : decode cX10_verseLine 23 = .ok (.iload_n 2, 1) := by decide +kernel
theorem dX10_verseLine_24 : decode cX10_verseLine 24 = .ok (.ifCond .eq 116, 3) := by decide +kernel
theorem dX10_verseLine_27 : decode cX10_verseLine 27 = .ok (.aload_n 0, 1) := by decide +kernel
theorem dX10_verseLine_28 : decode cX10_verseLine 28 = .ok (.getfield 97, 3) := by decide +kernel
theorem dX10_verseLine_31 : decode cX10_verseLine 31 = .ok (.ifCond .ne 109, 3) := by decide +kernel
theorem dX10_verseLine_34 : decode cX10_verseLine 34 = .ok (.iconst 0, 1) := by decide +kernel
theorem dX10_verseLine_35 : decode cX10_verseLine 35 = .ok (.istore_n 3, 1) := by decide +kernel
theorem dX10_verseLine_36 : decode cX10_verseLine 36 = .ok (.aload_n 0, 1) := by decide +kernel
theorem dX10_verseLine_37 : decode cX10_verseLine 37 = .ok (.getfield 87, 3) := by decide +kernel
theorem dX10_verseLine_40 : decode cX10_verseLine 40 = .ok (.iconst 3, 1) := by decide +kernel
theorem dX10_verseLine_41 : decode cX10_verseLine 41 = .ok (.if_icmp .ne 35, 3) := by decide +kernel
theorem dX10_verseLine_44 : decode cX10_verseLine 44 = .ok (.aload_n 0, 1) := by decide +kernel
theorem dX10_verseLine_45 : decode cX10_verseLine 45 = .ok (.getfield 84, 3) := by decide +kernel
theorem dX10_verseLine_48 : decode cX10_verseLine 48 = .ok (.iconst 1, 1) := by decide +kernel
theorem dX10_verseLine_49 : decode cX10_verseLine 49 = .ok (.bipush 20, 2) := by decide +kernel
theorem dX10_verseLine_51 : decode cX10_verseLine 51 = .ok (.invokestatic 144, 3) := by decide +kernel
theorem dX10_verseLine_54 : decode cX10_verseLine 54 = .ok (.ifCond .eq 22, 3) := by decide +kernel
theorem dX10_verseLine_57 : decode cX10_verseLine 57 = .ok (.iload_n 1, 1) := by decide +kernel
theorem dX10_verseLine_58 : decode cX10_verseLine 58 = .ok (.iconst 5, 1) := by decide +kernel
theorem dX10_verseLine_59 : decode cX10_verseLine 59 = .ok (.if_icmp .eq 8, 3) := by decide +kernel
theorem dX10_verseLine_62 : decode cX10_verseLine 62 = .ok (.iload_n 3, 1) := by decide +kernel
theorem dX10_verseLine_63 : decode cX10_verseLine 63 = .ok (.iconst 4, 1) := by decide +kernel
theorem dX10_verseLine_64 : decode cX10_verseLine 64 = .ok (.if_icmp .ne 12, 3) := by decide +kernel
theorem dX10_verseLine_67 : decode cX10_verseLine 67 = .ok (.aload_n 0, 1) := by decide +kernel
theorem dX10_verseLine_68 : decode cX10_verseLine 68 = .ok (.iconst 5, 1) := by decide +kernel
theorem dX10_verseLine_69 : decode cX10_verseLine 69 = .ok (.aload_n 0, 1) := by decide +kernel
theorem dX10_verseLine_70 : decode cX10_verseLine 70 = .ok (.getfield 78, 3) := by decide +kernel
theorem dX10_verseLine_73 : decode cX10_verseLine 73 = .ok (.invokevirtual 124, 3) := by decide +kernel
theorem dX10_verseLine_76 : decode cX10_verseLine 76 = .ok (.aload_n 0, 1) := by decide +kernel
theorem dX10_verseLine_77 : decode cX10_verseLine 77 = .ok (.iconst 1, 1) := by decide +kernel
theorem dX10_verseLine_78 : decode cX10_verseLine 78 = .ok (.bipush 20, 2) := by decide +kernel
theorem dX10_verseLine_80 : decode cX10_verseLine 80 = .ok (.invokevirtual 152, 3) := by decide +kernel
theorem dX10_verseLine_83 : decode cX10_verseLine 83 = .ok (.istore 4, 2) := by decide +kernel
theorem dX10_verseLine_85 : decode cX10_verseLine 85 = .ok (.aload_n 0, 1) := by decide +kernel
theorem dX10_verseLine_86 : decode cX10_verseLine 86 = .ok (.getfield 97, 3) := by decide +kernel
theorem dX10_verseLine_89 : decode cX10_verseLine 89 = .ok (.ifCond .eq 4, 3) := by decide +kernel
theorem dX10_verseLine_92 : decode cX10_verseLine 92 = .ok (.return_, 1) := by decide +kernel
theorem dX10_verseLine_93 : decode cX10_verseLine 93 = .ok (.aload_n 0, 1) := by decide +kernel
theorem dX10_verseLine_94 : decode cX10_verseLine 94 = .ok (.getfield 23, 3) := by decide +kernel
theorem dX10_verseLine_97 : decode cX10_verseLine 97 = .ok (.bipush 16, 2) := by decide +kernel
theorem dX10_verseLine_99 : decode cX10_verseLine 99 = .ok (.iconst 4, 1) := by decide +kernel
theorem dX10_verseLine_100 : decode cX10_verseLine 100 = .ok (.iload_n 1, 1) := by decide +kernel
theorem dX10_verseLine_101 : decode cX10_verseLine 101 = .ok (.imul, 1) := by decide +kernel
theorem dX10_verseLine_102 : decode cX10_verseLine 102 = .ok (.iadd, 1) := by decide +kernel
theorem dX10_verseLine_103 : decode cX10_verseLine 103 = .ok (.iload_n 3, 1) := by decide +kernel
theorem dX10_verseLine_104 : decode cX10_verseLine 104 = .ok (.iadd, 1) := by decide +kernel
theorem dX10_verseLine_105 : decode cX10_verseLine 105 = .ok (.iload 4, 2) := by decide +kernel
theorem dX10_verseLine_107 : decode cX10_verseLine 107 = .ok (.iastore, 1) := by decide +kernel
theorem dX10_verseLine_108 : decode cX10_verseLine 108 = .ok (.iinc 3 1, 3) := by decide +kernel
theorem dX10_verseLine_111 : decode cX10_verseLine 111 = .ok (.aload_n 0, 1) := by decide +kernel
theorem dX10_verseLine_112 : decode cX10_verseLine 112 = .ok (.getfield 87, 3) := by decide +kernel
theorem dX10_verseLine_115 : decode cX10_verseLine 115 = .ok (.iconst 3, 1) := by decide +kernel
theorem dX10_verseLine_116 : decode cX10_verseLine 116 = .ok (.if_icmp .eq (-80), 3) := by decide +kernel
theorem dX10_verseLine_119 : decode cX10_verseLine 119 = .ok (.aload_n 0, 1) := by decide +kernel
theorem dX10_verseLine_120 : decode cX10_verseLine 120 = .ok (.getfield 23, 3) := by decide +kernel
theorem dX10_verseLine_123 : decode cX10_verseLine 123 = .ok (.bipush 11, 2) := by decide +kernel
theorem dX10_verseLine_125 : decode cX10_verseLine 125 = .ok (.iload_n 1, 1) := by decide +kernel
theorem dX10_verseLine_126 : decode cX10_verseLine 126 = .ok (.iadd, 1) := by decide +kernel
theorem dX10_verseLine_127 : decode cX10_verseLine 127 = .ok (.iload_n 3, 1) := by decide +kernel
theorem dX10_verseLine_128 : decode cX10_verseLine 128 = .ok (.iastore, 1) := by decide +kernel
theorem dX10_verseLine_129 : decode cX10_verseLine 129 = .ok (.iinc 1 1, 3) := by decide +kernel
theorem dX10_verseLine_132 : decode cX10_verseLine 132 = .ok (.aload_n 0, 1) := by decide +kernel
theorem dX10_verseLine_133 : decode cX10_verseLine 133 = .ok (.invokevirtual 206, 3) := by decide +kernel
theorem dX10_verseLine_136 : decode cX10_verseLine 136 = .ok (.istore_n 2, 1) := by decide +kernel
theorem dX10_verseLine_137 : decode cX10_verseLine 137 = .ok (.goto (-114), 3) := by decide +kernel
theorem dX10_verseLine_140 : decode cX10_verseLine 140 = .ok (.aload_n 0, 1) := by decide +kernel
theorem dX10_verseLine_141 : decode cX10_verseLine 141 = .ok (.getfield 97, 3) := by decide +kernel
theorem dX10_verseLine_144 : decode cX10_verseLine 144 = .ok (.ifCond .ne 11, 3) := by decide +kernel
theorem dX10_verseLine_147 : decode cX10_verseLine 147 = .ok (.aload_n 0, 1) := by decide +kernel
theorem dX10_verseLine_148 : decode cX10_verseLine 148 = .ok (.getfield 23, 3) := by decide +kernel
theorem dX10_verseLine_151 : decode cX10_verseLine 151 = .ok (.bipush 92, 2) := by decide +kernel
theorem dX10_verseLine_153 : decode cX10_verseLine 153 = .ok (.iload_n 1, 1) := by decide +kernel
theorem dX10_verseLine_154 : decode cX10_verseLine 154 = .ok (.iastore, 1) := by decide +kernel
theorem dX10_verseLine_155 : decode cX10_verseLine 155 = .ok (.return_, 1) := by decide +kernel
def lp_X10_verseLine_36 (y1 : Int32) (k119 : Int32 → Mm → Option (Mm)) : Nat → Int32 → Mm → Option (Mm)
  | 0, _, _ => none
  | n + 1, y3, M =>
    jn (fun (M6 : Mm) => bd (f_X10_number (nI 1) (nI 20) M6) fun v80_9 M80_8 => if (M80_8 81 13) = 0 then (gd (inb (((nI 16) + ((nI 4) * y1)) + y3) 141) <| if ((mset M80_8 85 (((nI 16) + ((nI 4) * y1)) + y3).toNatClampNeg v80_9) 81 6) = (nI 3) then (lp_X10_verseLine_36 y1 k119 n (y3 + (nI 1)) (mset M80_8 85 (((nI 16) + ((nI 4) * y1)) + y3).toNatClampNeg v80_9)) else (k119 (y3 + (nI 1)) (mset M80_8 85 (((nI 16) + ((nI 4) * y1)) + y3).toNatClampNeg v80_9))) else (some M80_8)) fun j7 => if (M 81 6) = (nI 3) then (bd (f_X10_within (M 81 7) (nI 1) (nI 20) M) fun v51_13 M51_12 => if v51_13 = 0 then (j7  M51_12) else (jn (fun (M14 : Mm) => bv (f_X10_wrong (nI 5) (M14 81 4) M14) fun M73_16 => j7  M73_16) fun j15 => if y1 = (nI 5) then (j15  M51_12) else (if y3 = (nI 4) then (j15  M51_12) else (j7  M51_12)))) else (j7  M)
def lp_X10_verseLine_23  (k140 : Int32 → Mm → Option (Mm)) : Nat → Int32 → Int32 → Mm → Option (Mm)
  | 0, _, _, _ => none
  | n + 1, y1, y2, M =>
    if y2 = 0 then (k140 y1 M) else (if (M 81 13) = 0 then (lp_X10_verseLine_36 y1 (fun (u22 : Int32) (M23 : Mm) => gd (inb ((nI 11) + y1) 141) <| bd (f_X10_comma  (mset M23 85 ((nI 11) + y1).toNatClampNeg u22)) fun v133_25 M133_24 => lp_X10_verseLine_23 k140 n (y1 + (nI 1)) v133_25 M133_24) N0 (nI 0) M) else (k140 y1 M))
def f_X10_verseLine  (M : Mm) : Option (Mm) :=
  jn (fun (s1 : Int32) (M2 : Mm) => bv (f_X10_begins s1 M2) fun M16_4 => lp_X10_verseLine_23  (fun (u28 : Int32) (M29 : Mm) => if (M29 81 13) = 0 then (some ((mset M29 85 92 u28))) else (some M29)) N0 (nI 0) (nI 1) M16_4) fun j3 => if (M 85 92) ≤ 0 then (j3 (nI 0) M) else (j3 (nI 3) M)
set_option maxHeartbeats 4000000 in
set_option maxRecDepth 100000 in
theorem sl_X10_verseLine_36 {l : Launch} {B : BT} (hA : bA B = false) {d : Nat} {M' : Mm} {y1 : Int32}  {k119 : Int32 → Mm → Option (Mm)} (hk119 : ∀ (z3 : Int32) (M9 : Mm), k119 z3 M9 = some M' → GG l B LY (d + 3) yX10_verseLine cX10_verseLine 5 none 0 0 (PV M') 97 0 0 119 [(0, .ref 81), (1, .int y1), (3, .int z3)] [] M9) :
    ∀ (n : Nat) (y3 : Int32) (M : Mm), lp_X10_verseLine_36 y1 k119 n y3 M = some M' → GG l B LY (d + 3) yX10_verseLine cX10_verseLine 5 none 0 0 (PV M') 97 0 0 36 [(0, .ref 81), (1, .int y1), (3, .int y3)] [] M := by
  intro n
  induction n with
  | zero => intro y3 M h; cases h
  | succ n ih =>
    intro y3 M h
    rw [lp_X10_verseLine_36] at h
    refine g_aload_n dX10_verseLine_36 rfl 0 rfl ?_
    refine m_geti (k := 6) okX10 rfl rfl (by decide) w_1275 rfl dX10_verseLine_37 ?_
    refine g_iconst (v := (nI 3)) dX10_verseLine_40 (by decide) ?_
    obtain ⟨j7, ej7, h⟩ := jn_e h
    have hj7 : ∀ (M6 : Mm), j7 M6 = some M' → GG l B LY (d + 3) yX10_verseLine cX10_verseLine 5 none 0 0 (PV M') 97 0 0 76 [(0, .ref 81), (1, .int y1), (3, .int y3)] [] M6 := by
      intro M6 h
      rw [ej7] at h
      refine g_aload_n dX10_verseLine_76 rfl 0 rfl ?_
      refine g_iconst (v := (nI 1)) dX10_verseLine_77 (by decide) ?_
      refine g_bipush (v := (nI 20)) dX10_verseLine_78 (by decide) ?_
      obtain ⟨v80_9, M80_8, eM80_8, h⟩ := bd_e h
      refine m_callVi (As := [.int (nI 1), .int (nI 20)]) (st := []) (s_X10_number (d := d + 0) hA  eM80_8) rfl okX10 ck_X10_number w_1442 rfl (Nat.le_of_ble_eq_true rfl) dX10_verseLine_80 ?_
      refine g_istore (lv' := [(4, .int v80_9), (0, .ref 81), (1, .int y1), (3, .int y3)]) dX10_verseLine_83 (by decide) rfl ?_
      refine g_aload_n dX10_verseLine_85 rfl 1 rfl ?_
      refine m_geti (k := 13) okX10 rfl rfl (by decide) w_1282 rfl dX10_verseLine_86 ?_
      refine g_if_eq (tgt := 93) dX10_verseLine_89 (by decide) (fun c11 => ?_) (fun c11 => ?_)
      · replace h := ite_p c11 h
        refine g_aload_n dX10_verseLine_93 rfl 1 rfl ?_
        refine m_getr (k := 16) okX10 rfl rfl (by decide) w_1285 rfl dX10_verseLine_94 ?_
        refine g_bipush (v := (nI 16)) dX10_verseLine_97 (by decide) ?_
        refine g_iconst (v := (nI 4)) dX10_verseLine_99 (by decide) ?_
        refine g_iload_n dX10_verseLine_100 rfl 2 rfl ?_
        refine g_imul dX10_verseLine_101 ?_
        refine g_iadd dX10_verseLine_102 ?_
        refine g_iload_n dX10_verseLine_103 rfl 3 rfl ?_
        refine g_iadd dX10_verseLine_104 ?_
        refine g_iload dX10_verseLine_105 0 rfl ?_
        obtain ⟨hz, h⟩ := gd_s h
        refine m_iast hA rfl hz dX10_verseLine_107 ?_
        refine g_iinc (v := (y3 + (nI 1))) (lv' := [(3, .int (y3 + (nI 1))), (4, .int v80_9), (0, .ref 81), (1, .int y1)]) dX10_verseLine_108 3 rfl rfl (by decide) rfl ?_
        refine g_aload_n dX10_verseLine_111 rfl 2 rfl ?_
        refine m_geti (k := 6) okX10 rfl rfl (by decide) w_1275 rfl dX10_verseLine_112 ?_
        refine g_iconst (v := (nI 3)) dX10_verseLine_115 (by decide) ?_
        refine g_icmp_eq (tgt := 36) dX10_verseLine_116 (by decide) (fun c10 => ?_) (fun c10 => ?_)
        · replace h := ite_p c10 h
          refine g_sub [2, 3, 0] (lv' := [(0, .ref 81), (1, .int y1), (3, .int (y3 + (nI 1)))]) rfl ?_
          exact ih _  _ h
        · replace h := ite_n c10 h
          refine g_sub [2, 3, 0] (lv' := [(0, .ref 81), (1, .int y1), (3, .int (y3 + (nI 1)))]) rfl ?_
          exact hk119 _ _ h
      · replace h := ite_n c11 h
        exact g_vret rfl (pv_of h) dX10_verseLine_92
    refine g_icmp_ne (tgt := 76) dX10_verseLine_41 (by decide) (fun c21 => ?_) (fun c21 => ?_)
    · replace h := ite_n c21 h
      refine g_sub [0, 1, 2] (lv' := [(0, .ref 81), (1, .int y1), (3, .int y3)]) rfl ?_
      exact hj7  _ h
    · replace h := ite_p c21 h
      refine g_aload_n dX10_verseLine_44 rfl 0 rfl ?_
      refine m_geti (k := 7) okX10 rfl rfl (by decide) w_1276 rfl dX10_verseLine_45 ?_
      refine g_iconst (v := (nI 1)) dX10_verseLine_48 (by decide) ?_
      refine g_bipush (v := (nI 20)) dX10_verseLine_49 (by decide) ?_
      obtain ⟨v51_13, M51_12, eM51_12, h⟩ := bd_e h
      refine m_callSi (As := [.int (M 81 7), .int (nI 1), .int (nI 20)]) (st := []) (s_X10_within (d := d + 2) hA  eM51_12) ck_X10_within w_1385 rfl (Nat.le_of_ble_eq_true rfl) dX10_verseLine_51 ?_
      refine g_if_eq (tgt := 76) dX10_verseLine_54 (by decide) (fun c20 => ?_) (fun c20 => ?_)
      · replace h := ite_p c20 h
        refine g_sub [0, 1, 2] (lv' := [(0, .ref 81), (1, .int y1), (3, .int y3)]) rfl ?_
        exact hj7  _ h
      · replace h := ite_n c20 h
        refine g_iload_n dX10_verseLine_57 rfl 1 rfl ?_
        refine g_iconst (v := (nI 5)) dX10_verseLine_58 (by decide) ?_
        obtain ⟨j15, ej15, h⟩ := jn_e h
        have hj15 : ∀ (M14 : Mm), j15 M14 = some M' → GG l B LY (d + 3) yX10_verseLine cX10_verseLine 5 none 0 0 (PV M') 97 0 0 67 [(0, .ref 81), (1, .int y1), (3, .int y3)] [] M14 := by
          intro M14 h
          rw [ej15] at h
          refine g_aload_n dX10_verseLine_67 rfl 0 rfl ?_
          refine g_iconst (v := (nI 5)) dX10_verseLine_68 (by decide) ?_
          refine g_aload_n dX10_verseLine_69 rfl 0 rfl ?_
          refine m_geti (k := 4) okX10 rfl rfl (by decide) w_1273 rfl dX10_verseLine_70 ?_
          obtain ⟨M73_16, eM73_16, h⟩ := bv_e h
          refine m_callVv (As := [.int (nI 5), .int (M14 81 4)]) (st := []) (s_X10_wrong (d := d + 2) hA  eM73_16) rfl okX10 ck_X10_wrong w_1425 rfl (Nat.le_of_ble_eq_true rfl) dX10_verseLine_73 ?_
          refine g_sub [0, 1, 2] (lv' := [(0, .ref 81), (1, .int y1), (3, .int y3)]) rfl ?_
          exact hj7  _ h
        refine g_icmp_eq (tgt := 67) dX10_verseLine_59 (by decide) (fun c19 => ?_) (fun c19 => ?_)
        · replace h := ite_p c19 h
          refine g_sub [0, 1, 2] (lv' := [(0, .ref 81), (1, .int y1), (3, .int y3)]) rfl ?_
          exact hj15  _ h
        · replace h := ite_n c19 h
          refine g_iload_n dX10_verseLine_62 rfl 2 rfl ?_
          refine g_iconst (v := (nI 4)) dX10_verseLine_63 (by decide) ?_
          refine g_icmp_ne (tgt := 76) dX10_verseLine_64 (by decide) (fun c18 => ?_) (fun c18 => ?_)
          · replace h := ite_n c18 h
            refine g_sub [0, 1, 2] (lv' := [(0, .ref 81), (1, .int y1), (3, .int y3)]) rfl ?_
            exact hj7  _ h
          · replace h := ite_p c18 h
            refine g_sub [0, 1, 2] (lv' := [(0, .ref 81), (1, .int y1), (3, .int y3)]) rfl ?_
            exact hj15  _ h
set_option maxHeartbeats 4000000 in
set_option maxRecDepth 100000 in
theorem sl_X10_verseLine_23 {l : Launch} {B : BT} (hA : bA B = false) {d : Nat} {M' : Mm}   {k140 : Int32 → Mm → Option (Mm)} (hk140 : ∀ (z1 : Int32) (M9 : Mm), k140 z1 M9 = some M' → GG l B LY (d + 3) yX10_verseLine cX10_verseLine 5 none 0 0 (PV M') 97 0 0 140 [(0, .ref 81), (1, .int z1)] [] M9) :
    ∀ (n : Nat) (y1 : Int32) (y2 : Int32) (M : Mm), lp_X10_verseLine_23 k140 n y1 y2 M = some M' → GG l B LY (d + 3) yX10_verseLine cX10_verseLine 5 none 0 0 (PV M') 97 0 0 23 [(0, .ref 81), (1, .int y1), (2, .int y2)] [] M := by
  intro n
  induction n with
  | zero => intro y1 y2 M h; cases h
  | succ n ih =>
    intro y1 y2 M h
    rw [lp_X10_verseLine_23] at h
    refine g_iload_n dX10_verseLine_23 rfl 2 rfl ?_
    refine g_if_eq (tgt := 140) dX10_verseLine_24 (by decide) (fun c27 => ?_) (fun c27 => ?_)
    · replace h := ite_p c27 h
      refine g_sub [0, 1] (lv' := [(0, .ref 81), (1, .int y1)]) rfl ?_
      exact hk140 _ _ h
    · replace h := ite_n c27 h
      refine g_aload_n dX10_verseLine_27 rfl 0 rfl ?_
      refine m_geti (k := 13) okX10 rfl rfl (by decide) w_1282 rfl dX10_verseLine_28 ?_
      refine g_if_ne (tgt := 140) dX10_verseLine_31 (by decide) (fun c26 => ?_) (fun c26 => ?_)
      · replace h := ite_n c26 h
        refine g_sub [0, 1] (lv' := [(0, .ref 81), (1, .int y1)]) rfl ?_
        exact hk140 _ _ h
      · replace h := ite_p c26 h
        refine g_iconst (v := (nI 0)) dX10_verseLine_34 (by decide) ?_
        refine g_istore_n (lv' := [(3, .int (nI 0)), (0, .ref 81), (1, .int y1), (2, .int y2)]) dX10_verseLine_35 rfl (by decide) rfl ?_
        refine g_sub [1, 2, 0] (lv' := [(0, .ref 81), (1, .int y1), (3, .int (nI 0))]) rfl ?_
        refine sl_X10_verseLine_36 hA  ?_ _ _ _ h
        · intro u22 M23 h
          refine g_aload_n dX10_verseLine_119 rfl 0 rfl ?_
          refine m_getr (k := 16) okX10 rfl rfl (by decide) w_1285 rfl dX10_verseLine_120 ?_
          refine g_bipush (v := (nI 11)) dX10_verseLine_123 (by decide) ?_
          refine g_iload_n dX10_verseLine_125 rfl 1 rfl ?_
          refine g_iadd dX10_verseLine_126 ?_
          refine g_iload_n dX10_verseLine_127 rfl 2 rfl ?_
          obtain ⟨hz, h⟩ := gd_s h
          refine m_iast hA rfl hz dX10_verseLine_128 ?_
          refine g_iinc (v := (y1 + (nI 1))) (lv' := [(1, .int (y1 + (nI 1))), (0, .ref 81), (3, .int u22)]) dX10_verseLine_129 1 rfl rfl (by decide) rfl ?_
          refine g_aload_n dX10_verseLine_132 rfl 1 rfl ?_
          obtain ⟨v133_25, M133_24, eM133_24, h⟩ := bd_e h
          refine m_callVi (As := []) (st := []) (s_X10_comma (d := d + 0) hA  eM133_24) rfl okX10 ck_X10_comma w_1453 rfl (Nat.le_of_ble_eq_true rfl) dX10_verseLine_133 ?_
          refine g_istore_n (lv' := [(2, .int v133_25), (1, .int (y1 + (nI 1))), (0, .ref 81), (3, .int u22)]) dX10_verseLine_136 rfl (by decide) rfl ?_
          refine g_goto (tgt := 23) dX10_verseLine_137 (by decide) ?_
          refine g_sub [2, 1, 0] (lv' := [(0, .ref 81), (1, .int (y1 + (nI 1))), (2, .int v133_25)]) rfl ?_
          exact ih _ _  _ h
set_option maxHeartbeats 4000000 in
set_option maxRecDepth 100000 in
theorem s_X10_verseLine {l : Launch} {B : BT} (hA : bA B = false) {d : Nat} {M' : Mm}  {M : Mm}  (h : f_X10_verseLine  M = some M') : Con l B LY (d + 3) yX10_verseLine cX10_verseLine 5 none 0 0 [.ref 81] 97 M (PV M') := by
  refine con_of (by decide) (Nat.le_of_ble_eq_true rfl) ?_
  show GG l B LY (d + 3) yX10_verseLine cX10_verseLine 5 none 0 0 (PV M') 97 0 0 0 [(0, .ref 81)] [] M
  rw [f_X10_verseLine] at h
  refine g_aload_n dX10_verseLine_0 rfl 0 rfl ?_
  refine g_aload_n dX10_verseLine_1 rfl 0 rfl ?_
  refine m_getr (k := 16) okX10 rfl rfl (by decide) w_1285 rfl dX10_verseLine_2 ?_
  refine g_bipush (v := (nI 92)) dX10_verseLine_5 (by decide) ?_
  refine m_ialdL (k := 92) rfl rfl (by decide) dX10_verseLine_7 ?_
  obtain ⟨j3, ej3, h⟩ := jn_e h
  have hj3 : ∀ (s1 : Int32) (M2 : Mm), j3 s1 M2 = some M' → GG l B LY (d + 3) yX10_verseLine cX10_verseLine 5 none 0 0 (PV M') 97 0 0 16 [(0, .ref 81)] [.int s1, .ref 81] M2 := by
    intro s1 M2 h
    rw [ej3] at h
    obtain ⟨M16_4, eM16_4, h⟩ := bv_e h
    refine m_callVv (As := [.int s1]) (st := []) (s_X10_begins (d := d + 0) hA  eM16_4) rfl okX10 ck_X10_begins w_1421 rfl (Nat.le_of_ble_eq_true rfl) dX10_verseLine_16 ?_
    refine g_iconst (v := (nI 0)) dX10_verseLine_19 (by decide) ?_
    refine g_istore_n (lv' := [(1, .int (nI 0)), (0, .ref 81)]) dX10_verseLine_20 rfl (by decide) rfl ?_
    refine g_iconst (v := (nI 1)) dX10_verseLine_21 (by decide) ?_
    refine g_istore_n (lv' := [(2, .int (nI 1)), (1, .int (nI 0)), (0, .ref 81)]) dX10_verseLine_22 rfl (by decide) rfl ?_
    refine g_sub [2, 1, 0] (lv' := [(0, .ref 81), (1, .int (nI 0)), (2, .int (nI 1))]) rfl ?_
    refine sl_X10_verseLine_23 hA  ?_ _ _ _ _ h
    · intro u28 M29 h
      refine g_aload_n dX10_verseLine_140 rfl 0 rfl ?_
      refine m_geti (k := 13) okX10 rfl rfl (by decide) w_1282 rfl dX10_verseLine_141 ?_
      refine g_if_ne (tgt := 155) dX10_verseLine_144 (by decide) (fun c30 => ?_) (fun c30 => ?_)
      · replace h := ite_n c30 h
        exact g_vret rfl (pv_of h) dX10_verseLine_155
      · replace h := ite_p c30 h
        refine g_aload_n dX10_verseLine_147 rfl 0 rfl ?_
        refine m_getr (k := 16) okX10 rfl rfl (by decide) w_1285 rfl dX10_verseLine_148 ?_
        refine g_bipush (v := (nI 92)) dX10_verseLine_151 (by decide) ?_
        refine g_iload_n dX10_verseLine_153 rfl 1 rfl ?_
        refine m_iastL (k := 92) hA rfl rfl (by decide) dX10_verseLine_154 ?_
        exact g_vret rfl (pv_of h) dX10_verseLine_155
  refine g_if_le (tgt := 15) dX10_verseLine_8 (by decide) (fun c31 => ?_) (fun c31 => ?_)
  · replace h := ite_p c31 h
    refine g_iconst (v := (nI 0)) dX10_verseLine_15 (by decide) ?_
    refine g_sub [0] (lv' := [(0, .ref 81)]) rfl ?_
    exact hj3 _ _ h
  · replace h := ite_n c31 h
    refine g_iconst (v := (nI 3)) dX10_verseLine_11 (by decide) ?_
    refine g_goto (tgt := 16) dX10_verseLine_12 (by decide) ?_
    refine g_sub [0] (lv' := [(0, .ref 81)]) rfl ?_
    exact hj3 _ _ h
theorem ck_X10_verseLine : CKV yX10_verseLine cX10_verseLine 5 none 0 := ⟨⟨by decide, by decide, by decide +kernel⟩, w_1452, w_81, ⟨w_1451, w_23⟩, by decide⟩
theorem dX10_oneLine_0 : decode cX10_oneLine 0 = .ok (.aload_n 0, 1) := by decide +kernel
theorem dX10_oneLine_1 : decode cX10_oneLine 1 = .ok (.aload_n 0, 1) := by decide +kernel
theorem dX10_oneLine_2 : decode cX10_oneLine 2 = .ok (.getfield 23, 3) := by decide +kernel
theorem dX10_oneLine_5 : decode cX10_oneLine 5 = .ok (.bipush 93, 2) := by decide +kernel
theorem dX10_oneLine_7 : decode cX10_oneLine 7 = .ok (.iaload, 1) := by decide +kernel
theorem dX10_oneLine_8 : decode cX10_oneLine 8 = .ok (.ifCond .le 7, 3) := by decide +kernel
theorem dX10_oneLine_11 : decode cX10_oneLine 11 = .ok (.iconst 3, 1) := by decide +kernel
theorem dX10_oneLine_12 : decode cX10_oneLine 12 = .ok (.goto 19, 3) := by decide +kernel
theorem dX10_oneLine_15 : decode cX10_oneLine 15 = .ok (.aload_n 0, 1) := by decide +kernel
theorem dX10_oneLine_16 : decode cX10_oneLine 16 = .ok (.getfield 23, 3) := by decide +kernel
theorem dX10_oneLine_19 : decode cX10_oneLine 19 = .ok (.bipush 92, 2) := by decide +kernel
theorem dX10_oneLine_21 : decode cX10_oneLine 21 = .ok (.iaload, 1) := by decide +kernel
theorem dX10_oneLine_22 : decode cX10_oneLine 22 = .ok (.ifCond .ne 8, 3) := by decide +kernel
theorem dX10_oneLine_25 : decode cX10_oneLine 25 = .ok (.bipush 6, 2) := by decide +kernel
theorem dX10_oneLine_27 : decode cX10_oneLine 27 = .ok (.goto 4, 3) := by decide +kernel
theorem dX10_oneLine_30 : decode cX10_oneLine 30 = .ok (.iconst 0, 1) := by decide +kernel
theorem dX10_oneLine_31 : decode cX10_oneLine 31 = .ok (.invokevirtual 193, 3) := by decide +kernel
theorem dX10_oneLine_34 : decode cX10_oneLine 34 = .ok (.aload_n 0, 1) := by decide +kernel
theorem dX10_oneLine_35 : decode cX10_oneLine 35 = .ok (.getfield 23, 3) := by decide +kernel
theorem dX10_oneLine_38 : decode cX10_oneLine 38 = .ok (.bipush 92, 2) := by decide +kernel
theorem dX10_oneLine_40 : decode cX10_oneLine 40 = .ok (.iaload, 1) := by decide +kernel
theorem dX10_oneLine_41 : decode cX10_oneLine 41 = .ok (.iconst 1, 1) := by decide +kernel
theorem dX10_oneLine_42 : decode cX10_oneLine 42 = .ok (.isub, 1) := by decide +kernel
theorem dX10_oneLine_43 : decode cX10_oneLine 43 = .ok (.istore_n 1, 1) := by decide +kernel
theorem dX10_oneLine_44 : decode cX10_oneLine 44 = .ok (.iload_n 1, 1) := by decide +kernel
theorem dX10_oneLine_45 : decode cX10_oneLine 45 = .ok (.ifCond .le 110, 3) := by decide +kernel
theorem dX10_oneLine_48 : decode cX10_oneLine 48 = .ok (.aload_n 0, 1) := by decide +kernel
theorem dX10_oneLine_49 : decode cX10_oneLine 49 = .ok (.ldc 210, 2) := by decide +kernel
theorem dX10_oneLine_51 : decode cX10_oneLine 51 = .ok (.invokevirtual 148, 3) := by decide +kernel
theorem dX10_oneLine_54 : decode cX10_oneLine 54 = .ok (.iconst 0, 1) := by decide +kernel
theorem dX10_oneLine_55 : decode cX10_oneLine 55 = .ok (.istore_n 2, 1) := by decide +kernel
theorem dX10_oneLine_56 : decode cX10_oneLine 56 = .ok (.iload_n 2, 1) := by decide +kernel
theorem dX10_oneLine_57 : decode cX10_oneLine 57 = .ok (.iload_n 1, 1) := by decide +kernel
theorem dX10_oneLine_58 : decode cX10_oneLine 58 = .ok (.if_icmp .ge 52, 3) := by decide +kernel
theorem dX10_oneLine_61 : decode cX10_oneLine 61 = .ok (.aload_n 0, 1) := by decide +kernel
theorem dX10_oneLine_62 : decode cX10_oneLine 62 = .ok (.getfield 97, 3) := by decide +kernel
theorem dX10_oneLine_65 : decode cX10_oneLine 65 = .ok (.ifCond .ne 45, 3) := by decide +kernel
theorem dX10_oneLine_68 : decode cX10_oneLine 68 = .ok (.iload_n 2, 1) := by decide +kernel
theorem dX10_oneLine_69 : decode cX10_oneLine 69 = .ok (.ifCond .le 19, 3) := by decide +kernel
theorem dX10_oneLine_72 : decode cX10_oneLine 72 = .ok (.aload_n 0, 1) := by decide +kernel
theorem dX10_oneLine_73 : decode cX10_oneLine 73 = .ok (.invokevirtual 206, 3) := by decide +kernel
theorem dX10_oneLine_76 : decode cX10_oneLine 76 = .ok (.ifCond .ne 12, 3) := by decide +kernel
theorem dX10_oneLine_79 : decode cX10_oneLine 79 = .ok (.aload_n 0, 1) := by decide +kernel
theorem dX10_oneLine_80 : decode cX10_oneLine 80 = .ok (.iconst 1, 1) := by decide +kernel
theorem dX10_oneLine_81 : decode cX10_oneLine 81 = .ok (.aload_n 0, 1) := by decide +kernel
theorem dX10_oneLine_82 : decode cX10_oneLine 82 = .ok (.getfield 78, 3) := by decide +kernel
theorem dX10_oneLine_85 : decode cX10_oneLine 85 = .ok (.invokevirtual 124, 3) := by decide +kernel
theorem dX10_oneLine_88 : decode cX10_oneLine 88 = .ok (.aload_n 0, 1) := by decide +kernel
theorem dX10_oneLine_89 : decode cX10_oneLine 89 = .ok (.getfield 23, 3) := by decide +kernel
theorem dX10_oneLine_92 : decode cX10_oneLine 92 = .ok (.bipush 6, 2) := by decide +kernel
theorem dX10_oneLine_94 : decode cX10_oneLine 94 = .ok (.iload_n 2, 1) := by decide +kernel
theorem dX10_oneLine_95 : decode cX10_oneLine 95 = .ok (.iadd, 1) := by decide +kernel
theorem dX10_oneLine_96 : decode cX10_oneLine 96 = .ok (.aload_n 0, 1) := by decide +kernel
theorem dX10_oneLine_97 : decode cX10_oneLine 97 = .ok (.iconst 0, 1) := by decide +kernel
theorem dX10_oneLine_98 : decode cX10_oneLine 98 = .ok (.bipush 100, 2) := by decide +kernel
theorem dX10_oneLine_100 : decode cX10_oneLine 100 = .ok (.invokevirtual 152, 3) := by decide +kernel
theorem dX10_oneLine_103 : decode cX10_oneLine 103 = .ok (.iastore, 1) := by decide +kernel
theorem dX10_oneLine_104 : decode cX10_oneLine 104 = .ok (.iinc 2 1, 3) := by decide +kernel
theorem dX10_oneLine_107 : decode cX10_oneLine 107 = .ok (.goto (-51), 3) := by decide +kernel
theorem dX10_oneLine_110 : decode cX10_oneLine 110 = .ok (.aload_n 0, 1) := by decide +kernel
theorem dX10_oneLine_111 : decode cX10_oneLine 111 = .ok (.invokevirtual 206, 3) := by decide +kernel
theorem dX10_oneLine_114 : decode cX10_oneLine 114 = .ok (.ifCond .eq 41, 3) := by decide +kernel
theorem dX10_oneLine_117 : decode cX10_oneLine 117 = .ok (.aload_n 0, 1) := by decide +kernel
theorem dX10_oneLine_118 : decode cX10_oneLine 118 = .ok (.aload_n 0, 1) := by decide +kernel
theorem dX10_oneLine_119 : decode cX10_oneLine 119 = .ok (.getfield 87, 3) := by decide +kernel
theorem dX10_oneLine_122 : decode cX10_oneLine 122 = .ok (.iconst 3, 1) := by decide +kernel
theorem dX10_oneLine_123 : decode cX10_oneLine 123 = .ok (.if_icmp .eq 7, 3) := by decide +kernel
theorem dX10_oneLine_126 : decode cX10_oneLine 126 = .ok (.iconst 1, 1) := by decide +kernel
theorem dX10_oneLine_127 : decode cX10_oneLine 127 = .ok (.goto 21, 3) := by decide +kernel
theorem dX10_oneLine_130 : decode cX10_oneLine 130 = .ok (.aload_n 0, 1) := by decide +kernel
theorem dX10_oneLine_131 : decode cX10_oneLine 131 = .ok (.getfield 84, 3) := by decide +kernel
theorem dX10_oneLine_134 : decode cX10_oneLine 134 = .ok (.iconst 0, 1) := by decide +kernel
theorem dX10_oneLine_135 : decode cX10_oneLine 135 = .ok (.bipush 100, 2) := by decide +kernel
theorem dX10_oneLine_137 : decode cX10_oneLine 137 = .ok (.invokestatic 144, 3) := by decide +kernel
theorem dX10_oneLine_140 : decode cX10_oneLine 140 = .ok (.ifCond .eq 7, 3) := by decide +kernel
theorem dX10_oneLine_143 : decode cX10_oneLine 143 = .ok (.iconst 5, 1) := by decide +kernel
theorem dX10_oneLine_144 : decode cX10_oneLine 144 = .ok (.goto 4, 3) := by decide +kernel
theorem dX10_oneLine_147 : decode cX10_oneLine 147 = .ok (.iconst 4, 1) := by decide +kernel
theorem dX10_oneLine_148 : decode cX10_oneLine 148 = .ok (.aload_n 0, 1) := by decide +kernel
theorem dX10_oneLine_149 : decode cX10_oneLine 149 = .ok (.getfield 78, 3) := by decide +kernel
theorem dX10_oneLine_152 : decode cX10_oneLine 152 = .ok (.invokevirtual 124, 3) := by decide +kernel
theorem dX10_oneLine_155 : decode cX10_oneLine 155 = .ok (.aload_n 0, 1) := by decide +kernel
theorem dX10_oneLine_156 : decode cX10_oneLine 156 = .ok (.getfield 23, 3) := by decide +kernel
theorem dX10_oneLine_159 : decode cX10_oneLine 159 = .ok (.iconst 3, 1) := by decide +kernel
theorem dX10_oneLine_160 : decode cX10_oneLine 160 = .ok (.aload_n 0, 1) := by decide +kernel
theorem dX10_oneLine_161 : decode cX10_oneLine 161 = .ok (.ldc 212, 2) := by decide +kernel
theorem dX10_oneLine_163 : decode cX10_oneLine 163 = .ok (.iconst 1, 1) := by decide +kernel
theorem dX10_oneLine_164 : decode cX10_oneLine 164 = .ok (.bipush 60, 2) := by decide +kernel
theorem dX10_oneLine_166 : decode cX10_oneLine 166 = .ok (.invokevirtual 198, 3) := by decide +kernel
theorem dX10_oneLine_169 : decode cX10_oneLine 169 = .ok (.iastore, 1) := by decide +kernel
theorem dX10_oneLine_170 : decode cX10_oneLine 170 = .ok (.aload_n 0, 1) := by decide +kernel
theorem dX10_oneLine_171 : decode cX10_oneLine 171 = .ok (.getfield 23, 3) := by decide +kernel
theorem dX10_oneLine_174 : decode cX10_oneLine 174 = .ok (.iconst 4, 1) := by decide +kernel
theorem dX10_oneLine_175 : decode cX10_oneLine 175 = .ok (.aload_n 0, 1) := by decide +kernel
theorem dX10_oneLine_176 : decode cX10_oneLine 176 = .ok (.ldc 213, 2) := by decide +kernel
theorem dX10_oneLine_178 : decode cX10_oneLine 178 = .ok (.iconst 1, 1) := by decide +kernel
theorem dX10_oneLine_179 : decode cX10_oneLine 179 = .ok (.bipush 20, 2) := by decide +kernel
theorem dX10_oneLine_181 : decode cX10_oneLine 181 = .ok (.invokevirtual 198, 3) := by decide +kernel
theorem dX10_oneLine_184 : decode cX10_oneLine 184 = .ok (.iastore, 1) := by decide +kernel
theorem dX10_oneLine_185 : decode cX10_oneLine 185 = .ok (.aload_n 0, 1) := by decide +kernel
theorem dX10_oneLine_186 : decode cX10_oneLine 186 = .ok (.getfield 23, 3) := by decide +kernel
theorem dX10_oneLine_189 : decode cX10_oneLine 189 = .ok (.iconst 5, 1) := by decide +kernel
theorem dX10_oneLine_190 : decode cX10_oneLine 190 = .ok (.aload_n 0, 1) := by decide +kernel
theorem dX10_oneLine_191 : decode cX10_oneLine 191 = .ok (.ldc 215, 2) := by decide +kernel
theorem dX10_oneLine_193 : decode cX10_oneLine 193 = .ok (.iconst 0, 1) := by decide +kernel
theorem dX10_oneLine_194 : decode cX10_oneLine 194 = .ok (.bipush 100, 2) := by decide +kernel
theorem dX10_oneLine_196 : decode cX10_oneLine 196 = .ok (.invokevirtual 198, 3) := by decide +kernel
theorem dX10_oneLine_199 : decode cX10_oneLine 199 = .ok (.iastore, 1) := by decide +kernel
theorem dX10_oneLine_200 : decode cX10_oneLine 200 = .ok (.aload_n 0, 1) := by decide +kernel
theorem dX10_oneLine_201 : decode cX10_oneLine 201 = .ok (.getfield 97, 3) := by decide +kernel
theorem dX10_oneLine_204 : decode cX10_oneLine 204 = .ok (.ifCond .ne 11, 3) := by decide +kernel
theorem dX10_oneLine_207 : decode cX10_oneLine 207 = .ok (.aload_n 0, 1) := by decide +kernel
theorem dX10_oneLine_208 : decode cX10_oneLine 208 = .ok (.getfield 23, 3) := by decide +kernel
theorem dX10_oneLine_211 : decode cX10_oneLine 211 = .ok (.bipush 93, 2) := by decide +kernel
theorem dX10_oneLine_213 : decode cX10_oneLine 213 = .ok (.iconst 1, 1) := by decide +kernel
theorem dX10_oneLine_214 : decode cX10_oneLine 214 = .ok (.iastore, 1) := by decide +kernel
theorem dX10_oneLine_215 : decode cX10_oneLine 215 = .ok (.return_, 1) := by decide +kernel
def lp_X10_oneLine_56 (y1 : Int32) (k110 : Mm → Option (Mm)) : Nat → Int32 → Mm → Option (Mm)
  | 0, _, _ => none
  | n + 1, y2, M =>
    if y1 ≤ y2 then (k110  M) else (if (M 81 13) = 0 then (jn (fun (M18 : Mm) => bd (f_X10_number (nI 0) (nI 100) M18) fun v100_21 M100_20 => gd (inb ((nI 6) + y2) 141) <| lp_X10_oneLine_56 y1 k110 n (y2 + (nI 1)) (mset M100_20 85 ((nI 6) + y2).toNatClampNeg v100_21)) fun j19 => if y2 ≤ 0 then (j19  M) else (bd (f_X10_comma  M) fun v73_23 M73_22 => if v73_23 = 0 then (bv (f_X10_wrong (nI 1) (M73_22 81 4) M73_22) fun M85_24 => j19  M85_24) else (j19  M73_22))) else (k110  M))
def f_X10_oneLine  (M : Mm) : Option (Mm) :=
  jn (fun (s1 : Int32) (M2 : Mm) => bv (f_X10_begins s1 M2) fun M31_4 => lt (((M31_4 85 92) - (nI 1))) fun t6 => jn (fun (M7 : Mm) => bd (f_X10_told 30 (nI 1) (nI 60) M7) fun v166_10 M166_9 => bd (f_X10_told 31 (nI 1) (nI 20) (mset M166_9 85 3 v166_10)) fun v181_12 M181_11 => bd (f_X10_told 32 (nI 0) (nI 100) (mset M181_11 85 4 v181_12)) fun v196_14 M196_13 => if ((mset M196_13 85 5 v196_14) 81 13) = 0 then (some ((mset (mset M196_13 85 5 v196_14) 85 93 (nI 1)))) else (some ((mset M196_13 85 5 v196_14)))) fun j8 => if t6 ≤ 0 then (j8  M31_4) else (bv (f_X10_must 29 M31_4) fun M51_16 => lp_X10_oneLine_56 t6 (fun  (M30 : Mm) => bd (f_X10_comma  M30) fun v111_32 M111_31 => if v111_32 = 0 then (j8  M111_31) else (jn (fun (s33 : Int32) (M34 : Mm) => bv (f_X10_wrong s33 (M34 81 4) M34) fun M152_36 => j8  M152_36) fun j35 => if (M111_31 81 6) = (nI 3) then (bd (f_X10_within (M111_31 81 7) (nI 0) (nI 100) M111_31) fun v137_39 M137_38 => if v137_39 = 0 then (j35 (nI 4) M137_38) else (j35 (nI 5) M137_38)) else (j35 (nI 1) M111_31))) N0 (nI 0) M51_16)) fun j3 => if (M 85 93) ≤ 0 then (if (M 85 92) = 0 then (j3 (nI 6) M) else (j3 (nI 0) M)) else (j3 (nI 3) M)
set_option maxHeartbeats 4000000 in
set_option maxRecDepth 100000 in
theorem sl_X10_oneLine_56 {l : Launch} {B : BT} (hA : bA B = false) {d : Nat} {M' : Mm} {y1 : Int32}  {k110 : Mm → Option (Mm)} (hk110 : ∀  (M9 : Mm), k110  M9 = some M' → GG l B LY (d + 8) yX10_oneLine cX10_oneLine 3 none 0 0 (PV M') 97 0 0 110 [(0, .ref 81)] [] M9) :
    ∀ (n : Nat) (y2 : Int32) (M : Mm), lp_X10_oneLine_56 y1 k110 n y2 M = some M' → GG l B LY (d + 8) yX10_oneLine cX10_oneLine 3 none 0 0 (PV M') 97 0 0 56 [(0, .ref 81), (1, .int y1), (2, .int y2)] [] M := by
  intro n
  induction n with
  | zero => intro y2 M h; cases h
  | succ n ih =>
    intro y2 M h
    rw [lp_X10_oneLine_56] at h
    refine g_iload_n dX10_oneLine_56 rfl 2 rfl ?_
    refine g_iload_n dX10_oneLine_57 rfl 1 rfl ?_
    refine g_icmp_ge (tgt := 110) dX10_oneLine_58 (by decide) (fun c29 => ?_) (fun c29 => ?_)
    · replace h := ite_p c29 h
      refine g_sub [0] (lv' := [(0, .ref 81)]) rfl ?_
      exact hk110  _ h
    · replace h := ite_n c29 h
      refine g_aload_n dX10_oneLine_61 rfl 0 rfl ?_
      refine m_geti (k := 13) okX10 rfl rfl (by decide) w_1282 rfl dX10_oneLine_62 ?_
      refine g_if_ne (tgt := 110) dX10_oneLine_65 (by decide) (fun c28 => ?_) (fun c28 => ?_)
      · replace h := ite_n c28 h
        refine g_sub [0] (lv' := [(0, .ref 81)]) rfl ?_
        exact hk110  _ h
      · replace h := ite_p c28 h
        refine g_iload_n dX10_oneLine_68 rfl 2 rfl ?_
        obtain ⟨j19, ej19, h⟩ := jn_e h
        have hj19 : ∀ (M18 : Mm), j19 M18 = some M' → GG l B LY (d + 8) yX10_oneLine cX10_oneLine 3 none 0 0 (PV M') 97 0 0 88 [(0, .ref 81), (1, .int y1), (2, .int y2)] [] M18 := by
          intro M18 h
          rw [ej19] at h
          refine g_aload_n dX10_oneLine_88 rfl 0 rfl ?_
          refine m_getr (k := 16) okX10 rfl rfl (by decide) w_1285 rfl dX10_oneLine_89 ?_
          refine g_bipush (v := (nI 6)) dX10_oneLine_92 (by decide) ?_
          refine g_iload_n dX10_oneLine_94 rfl 2 rfl ?_
          refine g_iadd dX10_oneLine_95 ?_
          refine g_aload_n dX10_oneLine_96 rfl 0 rfl ?_
          refine g_iconst (v := (nI 0)) dX10_oneLine_97 (by decide) ?_
          refine g_bipush (v := (nI 100)) dX10_oneLine_98 (by decide) ?_
          obtain ⟨v100_21, M100_20, eM100_20, h⟩ := bd_e h
          refine m_callVi (As := [.int (nI 0), .int (nI 100)]) (st := [.int ((nI 6) + y2), .ref 85]) (s_X10_number (d := d + 5) hA  eM100_20) rfl okX10 ck_X10_number w_1442 rfl (Nat.le_of_ble_eq_true rfl) dX10_oneLine_100 ?_
          obtain ⟨hz, h⟩ := gd_s h
          refine m_iast hA rfl hz dX10_oneLine_103 ?_
          refine g_iinc (v := (y2 + (nI 1))) (lv' := [(2, .int (y2 + (nI 1))), (0, .ref 81), (1, .int y1)]) dX10_oneLine_104 2 rfl rfl (by decide) rfl ?_
          refine g_goto (tgt := 56) dX10_oneLine_107 (by decide) ?_
          refine g_sub [1, 2, 0] (lv' := [(0, .ref 81), (1, .int y1), (2, .int (y2 + (nI 1)))]) rfl ?_
          exact ih _  _ h
        refine g_if_le (tgt := 88) dX10_oneLine_69 (by decide) (fun c27 => ?_) (fun c27 => ?_)
        · replace h := ite_p c27 h
          refine g_sub [0, 1, 2] (lv' := [(0, .ref 81), (1, .int y1), (2, .int y2)]) rfl ?_
          exact hj19  _ h
        · replace h := ite_n c27 h
          refine g_aload_n dX10_oneLine_72 rfl 0 rfl ?_
          obtain ⟨v73_23, M73_22, eM73_22, h⟩ := bd_e h
          refine m_callVi (As := []) (st := []) (s_X10_comma (d := d + 5) hA  eM73_22) rfl okX10 ck_X10_comma w_1453 rfl (Nat.le_of_ble_eq_true rfl) dX10_oneLine_73 ?_
          refine g_if_ne (tgt := 88) dX10_oneLine_76 (by decide) (fun c26 => ?_) (fun c26 => ?_)
          · replace h := ite_n c26 h
            refine g_sub [0, 1, 2] (lv' := [(0, .ref 81), (1, .int y1), (2, .int y2)]) rfl ?_
            exact hj19  _ h
          · replace h := ite_p c26 h
            refine g_aload_n dX10_oneLine_79 rfl 0 rfl ?_
            refine g_iconst (v := (nI 1)) dX10_oneLine_80 (by decide) ?_
            refine g_aload_n dX10_oneLine_81 rfl 0 rfl ?_
            refine m_geti (k := 4) okX10 rfl rfl (by decide) w_1273 rfl dX10_oneLine_82 ?_
            obtain ⟨M85_24, eM85_24, h⟩ := bv_e h
            refine m_callVv (As := [.int (nI 1), .int (M73_22 81 4)]) (st := []) (s_X10_wrong (d := d + 7) hA  eM85_24) rfl okX10 ck_X10_wrong w_1425 rfl (Nat.le_of_ble_eq_true rfl) dX10_oneLine_85 ?_
            refine g_sub [0, 1, 2] (lv' := [(0, .ref 81), (1, .int y1), (2, .int y2)]) rfl ?_
            exact hj19  _ h
set_option maxHeartbeats 4000000 in
set_option maxRecDepth 100000 in
theorem s_X10_oneLine {l : Launch} {B : BT} (hA : bA B = false) {d : Nat} {M' : Mm}  {M : Mm}  (h : f_X10_oneLine  M = some M') : Con l B LY (d + 8) yX10_oneLine cX10_oneLine 3 none 0 0 [.ref 81] 97 M (PV M') := by
  refine con_of (by decide) (Nat.le_of_ble_eq_true rfl) ?_
  show GG l B LY (d + 8) yX10_oneLine cX10_oneLine 3 none 0 0 (PV M') 97 0 0 0 [(0, .ref 81)] [] M
  rw [f_X10_oneLine] at h
  refine g_aload_n dX10_oneLine_0 rfl 0 rfl ?_
  refine g_aload_n dX10_oneLine_1 rfl 0 rfl ?_
  refine m_getr (k := 16) okX10 rfl rfl (by decide) w_1285 rfl dX10_oneLine_2 ?_
  refine g_bipush (v := (nI 93)) dX10_oneLine_5 (by decide) ?_
  refine m_ialdL (k := 93) rfl rfl (by decide) dX10_oneLine_7 ?_
  obtain ⟨j3, ej3, h⟩ := jn_e h
  have hj3 : ∀ (s1 : Int32) (M2 : Mm), j3 s1 M2 = some M' → GG l B LY (d + 8) yX10_oneLine cX10_oneLine 3 none 0 0 (PV M') 97 0 0 31 [(0, .ref 81)] [.int s1, .ref 81] M2 := by
    intro s1 M2 h
    rw [ej3] at h
    obtain ⟨M31_4, eM31_4, h⟩ := bv_e h
    refine m_callVv (As := [.int s1]) (st := []) (s_X10_begins (d := d + 5) hA  eM31_4) rfl okX10 ck_X10_begins w_1421 rfl (Nat.le_of_ble_eq_true rfl) dX10_oneLine_31 ?_
    refine g_aload_n dX10_oneLine_34 rfl 0 rfl ?_
    refine m_getr (k := 16) okX10 rfl rfl (by decide) w_1285 rfl dX10_oneLine_35 ?_
    refine g_bipush (v := (nI 92)) dX10_oneLine_38 (by decide) ?_
    refine m_ialdL (k := 92) rfl rfl (by decide) dX10_oneLine_40 ?_
    refine g_iconst (v := (nI 1)) dX10_oneLine_41 (by decide) ?_
    refine g_isub dX10_oneLine_42 ?_
    obtain ⟨t6, et6, h⟩ := lt_e h
    refine g_cuti et6 ?_
    refine g_istore_n (lv' := [(1, .int t6), (0, .ref 81)]) dX10_oneLine_43 rfl (by decide) rfl ?_
    refine g_iload_n dX10_oneLine_44 rfl 0 rfl ?_
    obtain ⟨j8, ej8, h⟩ := jn_e h
    have hj8 : ∀ (M7 : Mm), j8 M7 = some M' → GG l B LY (d + 8) yX10_oneLine cX10_oneLine 3 none 0 0 (PV M') 97 0 0 155 [(0, .ref 81)] [] M7 := by
      intro M7 h
      rw [ej8] at h
      refine g_aload_n dX10_oneLine_155 rfl 0 rfl ?_
      refine m_getr (k := 16) okX10 rfl rfl (by decide) w_1285 rfl dX10_oneLine_156 ?_
      refine g_iconst (v := (nI 3)) dX10_oneLine_159 (by decide) ?_
      refine g_aload_n dX10_oneLine_160 rfl 0 rfl ?_
      refine g_ldcS (j := 30) rfl dX10_oneLine_161 ?_
      refine g_iconst (v := (nI 1)) dX10_oneLine_163 (by decide) ?_
      refine g_bipush (v := (nI 60)) dX10_oneLine_164 (by decide) ?_
      obtain ⟨v166_10, M166_9, eM166_9, h⟩ := bd_e h
      refine m_callVi (As := [.ref (1000 + 30), .int (nI 1), .int (nI 60)]) (st := [.int (nI 3), .ref 85]) (s_X10_told (d := d + 0) hA (by decide) eM166_9) rfl okX10 ck_X10_told w_1430 rfl (Nat.le_of_ble_eq_true rfl) dX10_oneLine_166 ?_
      refine m_iastL (k := 3) hA rfl rfl (by decide) dX10_oneLine_169 ?_
      refine g_aload_n dX10_oneLine_170 rfl 0 rfl ?_
      refine m_getr (k := 16) okX10 rfl rfl (by decide) w_1285 rfl dX10_oneLine_171 ?_
      refine g_iconst (v := (nI 4)) dX10_oneLine_174 (by decide) ?_
      refine g_aload_n dX10_oneLine_175 rfl 0 rfl ?_
      refine g_ldcS (j := 31) rfl dX10_oneLine_176 ?_
      refine g_iconst (v := (nI 1)) dX10_oneLine_178 (by decide) ?_
      refine g_bipush (v := (nI 20)) dX10_oneLine_179 (by decide) ?_
      obtain ⟨v181_12, M181_11, eM181_11, h⟩ := bd_e h
      refine m_callVi (As := [.ref (1000 + 31), .int (nI 1), .int (nI 20)]) (st := [.int (nI 4), .ref 85]) (s_X10_told (d := d + 0) hA (by decide) eM181_11) rfl okX10 ck_X10_told w_1430 rfl (Nat.le_of_ble_eq_true rfl) dX10_oneLine_181 ?_
      refine m_iastL (k := 4) hA rfl rfl (by decide) dX10_oneLine_184 ?_
      refine g_aload_n dX10_oneLine_185 rfl 0 rfl ?_
      refine m_getr (k := 16) okX10 rfl rfl (by decide) w_1285 rfl dX10_oneLine_186 ?_
      refine g_iconst (v := (nI 5)) dX10_oneLine_189 (by decide) ?_
      refine g_aload_n dX10_oneLine_190 rfl 0 rfl ?_
      refine g_ldcS (j := 32) rfl dX10_oneLine_191 ?_
      refine g_iconst (v := (nI 0)) dX10_oneLine_193 (by decide) ?_
      refine g_bipush (v := (nI 100)) dX10_oneLine_194 (by decide) ?_
      obtain ⟨v196_14, M196_13, eM196_13, h⟩ := bd_e h
      refine m_callVi (As := [.ref (1000 + 32), .int (nI 0), .int (nI 100)]) (st := [.int (nI 5), .ref 85]) (s_X10_told (d := d + 0) hA (by decide) eM196_13) rfl okX10 ck_X10_told w_1430 rfl (Nat.le_of_ble_eq_true rfl) dX10_oneLine_196 ?_
      refine m_iastL (k := 5) hA rfl rfl (by decide) dX10_oneLine_199 ?_
      refine g_aload_n dX10_oneLine_200 rfl 0 rfl ?_
      refine m_geti (k := 13) okX10 rfl rfl (by decide) w_1282 rfl dX10_oneLine_201 ?_
      refine g_if_ne (tgt := 215) dX10_oneLine_204 (by decide) (fun c15 => ?_) (fun c15 => ?_)
      · replace h := ite_n c15 h
        exact g_vret rfl (pv_of h) dX10_oneLine_215
      · replace h := ite_p c15 h
        refine g_aload_n dX10_oneLine_207 rfl 0 rfl ?_
        refine m_getr (k := 16) okX10 rfl rfl (by decide) w_1285 rfl dX10_oneLine_208 ?_
        refine g_bipush (v := (nI 93)) dX10_oneLine_211 (by decide) ?_
        refine g_iconst (v := (nI 1)) dX10_oneLine_213 (by decide) ?_
        refine m_iastL (k := 93) hA rfl rfl (by decide) dX10_oneLine_214 ?_
        exact g_vret rfl (pv_of h) dX10_oneLine_215
    refine g_if_le (tgt := 155) dX10_oneLine_45 (by decide) (fun c43 => ?_) (fun c43 => ?_)
    · replace h := ite_p c43 h
      refine g_sub [1] (lv' := [(0, .ref 81)]) rfl ?_
      exact hj8  _ h
    · replace h := ite_n c43 h
      refine g_aload_n dX10_oneLine_48 rfl 1 rfl ?_
      refine g_ldcS (j := 29) rfl dX10_oneLine_49 ?_
      obtain ⟨M51_16, eM51_16, h⟩ := bv_e h
      refine m_callVv (As := [.ref (1000 + 29)]) (st := []) (s_X10_must (d := d + 1) hA (by decide) eM51_16) rfl okX10 ck_X10_must w_1434 rfl (Nat.le_of_ble_eq_true rfl) dX10_oneLine_51 ?_
      refine g_iconst (v := (nI 0)) dX10_oneLine_54 (by decide) ?_
      refine g_istore_n (lv' := [(2, .int (nI 0)), (1, .int t6), (0, .ref 81)]) dX10_oneLine_55 rfl (by decide) rfl ?_
      refine g_sub [2, 1, 0] (lv' := [(0, .ref 81), (1, .int t6), (2, .int (nI 0))]) rfl ?_
      refine sl_X10_oneLine_56 hA  ?_ _ _ _ h
      · intro  M30 h
        refine g_aload_n dX10_oneLine_110 rfl 0 rfl ?_
        obtain ⟨v111_32, M111_31, eM111_31, h⟩ := bd_e h
        refine m_callVi (As := []) (st := []) (s_X10_comma (d := d + 5) hA  eM111_31) rfl okX10 ck_X10_comma w_1453 rfl (Nat.le_of_ble_eq_true rfl) dX10_oneLine_111 ?_
        refine g_if_eq (tgt := 155) dX10_oneLine_114 (by decide) (fun c42 => ?_) (fun c42 => ?_)
        · replace h := ite_p c42 h
          refine g_sub [0] (lv' := [(0, .ref 81)]) rfl ?_
          exact hj8  _ h
        · replace h := ite_n c42 h
          refine g_aload_n dX10_oneLine_117 rfl 0 rfl ?_
          refine g_aload_n dX10_oneLine_118 rfl 0 rfl ?_
          refine m_geti (k := 6) okX10 rfl rfl (by decide) w_1275 rfl dX10_oneLine_119 ?_
          refine g_iconst (v := (nI 3)) dX10_oneLine_122 (by decide) ?_
          obtain ⟨j35, ej35, h⟩ := jn_e h
          have hj35 : ∀ (s33 : Int32) (M34 : Mm), j35 s33 M34 = some M' → GG l B LY (d + 8) yX10_oneLine cX10_oneLine 3 none 0 0 (PV M') 97 0 0 148 [(0, .ref 81)] [.int s33, .ref 81] M34 := by
            intro s33 M34 h
            rw [ej35] at h
            refine g_aload_n dX10_oneLine_148 rfl 0 rfl ?_
            refine m_geti (k := 4) okX10 rfl rfl (by decide) w_1273 rfl dX10_oneLine_149 ?_
            obtain ⟨M152_36, eM152_36, h⟩ := bv_e h
            refine m_callVv (As := [.int s33, .int (M34 81 4)]) (st := []) (s_X10_wrong (d := d + 7) hA  eM152_36) rfl okX10 ck_X10_wrong w_1425 rfl (Nat.le_of_ble_eq_true rfl) dX10_oneLine_152 ?_
            refine g_sub [0] (lv' := [(0, .ref 81)]) rfl ?_
            exact hj8  _ h
          refine g_icmp_eq (tgt := 130) dX10_oneLine_123 (by decide) (fun c41 => ?_) (fun c41 => ?_)
          · replace h := ite_p c41 h
            refine g_aload_n dX10_oneLine_130 rfl 0 rfl ?_
            refine m_geti (k := 7) okX10 rfl rfl (by decide) w_1276 rfl dX10_oneLine_131 ?_
            refine g_iconst (v := (nI 0)) dX10_oneLine_134 (by decide) ?_
            refine g_bipush (v := (nI 100)) dX10_oneLine_135 (by decide) ?_
            obtain ⟨v137_39, M137_38, eM137_38, h⟩ := bd_e h
            refine m_callSi (As := [.int (M111_31 81 7), .int (nI 0), .int (nI 100)]) (st := [.ref 81]) (s_X10_within (d := d + 7) hA  eM137_38) ck_X10_within w_1385 rfl (Nat.le_of_ble_eq_true rfl) dX10_oneLine_137 ?_
            refine g_if_eq (tgt := 147) dX10_oneLine_140 (by decide) (fun c40 => ?_) (fun c40 => ?_)
            · replace h := ite_p c40 h
              refine g_iconst (v := (nI 4)) dX10_oneLine_147 (by decide) ?_
              refine g_sub [0] (lv' := [(0, .ref 81)]) rfl ?_
              exact hj35 _ _ h
            · replace h := ite_n c40 h
              refine g_iconst (v := (nI 5)) dX10_oneLine_143 (by decide) ?_
              refine g_goto (tgt := 148) dX10_oneLine_144 (by decide) ?_
              refine g_sub [0] (lv' := [(0, .ref 81)]) rfl ?_
              exact hj35 _ _ h
          · replace h := ite_n c41 h
            refine g_iconst (v := (nI 1)) dX10_oneLine_126 (by decide) ?_
            refine g_goto (tgt := 148) dX10_oneLine_127 (by decide) ?_
            refine g_sub [0] (lv' := [(0, .ref 81)]) rfl ?_
            exact hj35 _ _ h
  refine g_if_le (tgt := 15) dX10_oneLine_8 (by decide) (fun c45 => ?_) (fun c45 => ?_)
  · replace h := ite_p c45 h
    refine g_aload_n dX10_oneLine_15 rfl 0 rfl ?_
    refine m_getr (k := 16) okX10 rfl rfl (by decide) w_1285 rfl dX10_oneLine_16 ?_
    refine g_bipush (v := (nI 92)) dX10_oneLine_19 (by decide) ?_
    refine m_ialdL (k := 92) rfl rfl (by decide) dX10_oneLine_21 ?_
    refine g_if_ne (tgt := 30) dX10_oneLine_22 (by decide) (fun c44 => ?_) (fun c44 => ?_)
    · replace h := ite_n c44 h
      refine g_iconst (v := (nI 0)) dX10_oneLine_30 (by decide) ?_
      refine g_sub [0] (lv' := [(0, .ref 81)]) rfl ?_
      exact hj3 _ _ h
    · replace h := ite_p c44 h
      refine g_bipush (v := (nI 6)) dX10_oneLine_25 (by decide) ?_
      refine g_goto (tgt := 31) dX10_oneLine_27 (by decide) ?_
      refine g_sub [0] (lv' := [(0, .ref 81)]) rfl ?_
      exact hj3 _ _ h
  · replace h := ite_n c45 h
    refine g_iconst (v := (nI 3)) dX10_oneLine_11 (by decide) ?_
    refine g_goto (tgt := 31) dX10_oneLine_12 (by decide) ?_
    refine g_sub [0] (lv' := [(0, .ref 81)]) rfl ?_
    exact hj3 _ _ h
theorem ck_X10_oneLine : CKV yX10_oneLine cX10_oneLine 3 none 0 := ⟨⟨by decide, by decide, by decide +kernel⟩, w_1461, w_81, ⟨w_1460, w_25⟩, by decide⟩
theorem dX10_gravelLine_0 : decode cX10_gravelLine 0 = .ok (.aload_n 0, 1) := by decide +kernel
theorem dX10_gravelLine_1 : decode cX10_gravelLine 1 = .ok (.aload_n 0, 1) := by decide +kernel
theorem dX10_gravelLine_2 : decode cX10_gravelLine 2 = .ok (.getfield 23, 3) := by decide +kernel
theorem dX10_gravelLine_5 : decode cX10_gravelLine 5 = .ok (.bipush 94, 2) := by decide +kernel
theorem dX10_gravelLine_7 : decode cX10_gravelLine 7 = .ok (.iaload, 1) := by decide +kernel
theorem dX10_gravelLine_8 : decode cX10_gravelLine 8 = .ok (.iconst 5, 1) := by decide +kernel
theorem dX10_gravelLine_9 : decode cX10_gravelLine 9 = .ok (.if_icmp .ne 7, 3) := by decide +kernel
theorem dX10_gravelLine_12 : decode cX10_gravelLine 12 = .ok (.iconst 5, 1) := by decide +kernel
theorem dX10_gravelLine_13 : decode cX10_gravelLine 13 = .ok (.goto 19, 3) := by decide +kernel
theorem dX10_gravelLine_16 : decode cX10_gravelLine 16 = .ok (.aload_n 0, 1) := by decide +kernel
theorem dX10_gravelLine_17 : decode cX10_gravelLine 17 = .ok (.getfield 23, 3) := by decide +kernel
theorem dX10_gravelLine_20 : decode cX10_gravelLine 20 = .ok (.bipush 91, 2) := by decide +kernel
theorem dX10_gravelLine_22 : decode cX10_gravelLine 22 = .ok (.iaload, 1) := by decide +kernel
theorem dX10_gravelLine_23 : decode cX10_gravelLine 23 = .ok (.ifCond .ne 8, 3) := by decide +kernel
theorem dX10_gravelLine_26 : decode cX10_gravelLine 26 = .ok (.bipush 6, 2) := by decide +kernel
theorem dX10_gravelLine_28 : decode cX10_gravelLine 28 = .ok (.goto 4, 3) := by decide +kernel
theorem dX10_gravelLine_31 : decode cX10_gravelLine 31 = .ok (.iconst 0, 1) := by decide +kernel
theorem dX10_gravelLine_32 : decode cX10_gravelLine 32 = .ok (.invokevirtual 193, 3) := by decide +kernel
theorem dX10_gravelLine_35 : decode cX10_gravelLine 35 = .ok (.aload_n 0, 1) := by decide +kernel
theorem dX10_gravelLine_36 : decode cX10_gravelLine 36 = .ok (.getfield 23, 3) := by decide +kernel
theorem dX10_gravelLine_39 : decode cX10_gravelLine 39 = .ok (.bipush 94, 2) := by decide +kernel
theorem dX10_gravelLine_41 : decode cX10_gravelLine 41 = .ok (.iaload, 1) := by decide +kernel
theorem dX10_gravelLine_42 : decode cX10_gravelLine 42 = .ok (.istore_n 1, 1) := by decide +kernel
theorem dX10_gravelLine_43 : decode cX10_gravelLine 43 = .ok (.aload_n 0, 1) := by decide +kernel
theorem dX10_gravelLine_44 : decode cX10_gravelLine 44 = .ok (.ldc 217, 2) := by decide +kernel
theorem dX10_gravelLine_46 : decode cX10_gravelLine 46 = .ok (.iconst 0, 1) := by decide +kernel
theorem dX10_gravelLine_47 : decode cX10_gravelLine 47 = .ok (.aload_n 0, 1) := by decide +kernel
theorem dX10_gravelLine_48 : decode cX10_gravelLine 48 = .ok (.getfield 23, 3) := by decide +kernel
theorem dX10_gravelLine_51 : decode cX10_gravelLine 51 = .ok (.iconst 1, 1) := by decide +kernel
theorem dX10_gravelLine_52 : decode cX10_gravelLine 52 = .ok (.iaload, 1) := by decide +kernel
theorem dX10_gravelLine_53 : decode cX10_gravelLine 53 = .ok (.iconst 1, 1) := by decide +kernel
theorem dX10_gravelLine_54 : decode cX10_gravelLine 54 = .ok (.isub, 1) := by decide +kernel
theorem dX10_gravelLine_55 : decode cX10_gravelLine 55 = .ok (.invokevirtual 198, 3) := by decide +kernel
theorem dX10_gravelLine_58 : decode cX10_gravelLine 58 = .ok (.istore_n 2, 1) := by decide +kernel
theorem dX10_gravelLine_59 : decode cX10_gravelLine 59 = .ok (.aload_n 0, 1) := by decide +kernel
theorem dX10_gravelLine_60 : decode cX10_gravelLine 60 = .ok (.ldc 219, 2) := by decide +kernel
theorem dX10_gravelLine_62 : decode cX10_gravelLine 62 = .ok (.iconst 1, 1) := by decide +kernel
theorem dX10_gravelLine_63 : decode cX10_gravelLine 63 = .ok (.aload_n 0, 1) := by decide +kernel
theorem dX10_gravelLine_64 : decode cX10_gravelLine 64 = .ok (.getfield 23, 3) := by decide +kernel
theorem dX10_gravelLine_67 : decode cX10_gravelLine 67 = .ok (.iconst 0, 1) := by decide +kernel
theorem dX10_gravelLine_68 : decode cX10_gravelLine 68 = .ok (.iaload, 1) := by decide +kernel
theorem dX10_gravelLine_69 : decode cX10_gravelLine 69 = .ok (.invokevirtual 198, 3) := by decide +kernel
theorem dX10_gravelLine_72 : decode cX10_gravelLine 72 = .ok (.istore_n 3, 1) := by decide +kernel
theorem dX10_gravelLine_73 : decode cX10_gravelLine 73 = .ok (.aload_n 0, 1) := by decide +kernel
theorem dX10_gravelLine_74 : decode cX10_gravelLine 74 = .ok (.ldc 221, 2) := by decide +kernel
theorem dX10_gravelLine_76 : decode cX10_gravelLine 76 = .ok (.iload_n 3, 1) := by decide +kernel
theorem dX10_gravelLine_77 : decode cX10_gravelLine 77 = .ok (.aload_n 0, 1) := by decide +kernel
theorem dX10_gravelLine_78 : decode cX10_gravelLine 78 = .ok (.getfield 23, 3) := by decide +kernel
theorem dX10_gravelLine_81 : decode cX10_gravelLine 81 = .ok (.iconst 0, 1) := by decide +kernel
theorem dX10_gravelLine_82 : decode cX10_gravelLine 82 = .ok (.iaload, 1) := by decide +kernel
theorem dX10_gravelLine_83 : decode cX10_gravelLine 83 = .ok (.invokevirtual 198, 3) := by decide +kernel
theorem dX10_gravelLine_86 : decode cX10_gravelLine 86 = .ok (.istore 4, 2) := by decide +kernel
theorem dX10_gravelLine_88 : decode cX10_gravelLine 88 = .ok (.aload_n 0, 1) := by decide +kernel
theorem dX10_gravelLine_89 : decode cX10_gravelLine 89 = .ok (.ldc 223, 2) := by decide +kernel
theorem dX10_gravelLine_91 : decode cX10_gravelLine 91 = .ok (.iconst 1, 1) := by decide +kernel
theorem dX10_gravelLine_92 : decode cX10_gravelLine 92 = .ok (.bipush 99, 2) := by decide +kernel
theorem dX10_gravelLine_94 : decode cX10_gravelLine 94 = .ok (.invokevirtual 198, 3) := by decide +kernel
theorem dX10_gravelLine_97 : decode cX10_gravelLine 97 = .ok (.istore 5, 2) := by decide +kernel
theorem dX10_gravelLine_99 : decode cX10_gravelLine 99 = .ok (.aload_n 0, 1) := by decide +kernel
theorem dX10_gravelLine_100 : decode cX10_gravelLine 100 = .ok (.getfield 97, 3) := by decide +kernel
theorem dX10_gravelLine_103 : decode cX10_gravelLine 103 = .ok (.ifCond .eq 4, 3) := by decide +kernel
theorem dX10_gravelLine_106 : decode cX10_gravelLine 106 = .ok (.return_, 1) := by decide +kernel
theorem dX10_gravelLine_107 : decode cX10_gravelLine 107 = .ok (.aload_n 0, 1) := by decide +kernel
theorem dX10_gravelLine_108 : decode cX10_gravelLine 108 = .ok (.getfield 23, 3) := by decide +kernel
theorem dX10_gravelLine_111 : decode cX10_gravelLine 111 = .ok (.bipush 36, 2) := by decide +kernel
theorem dX10_gravelLine_113 : decode cX10_gravelLine 113 = .ok (.iload_n 1, 1) := by decide +kernel
theorem dX10_gravelLine_114 : decode cX10_gravelLine 114 = .ok (.iadd, 1) := by decide +kernel
theorem dX10_gravelLine_115 : decode cX10_gravelLine 115 = .ok (.iload_n 2, 1) := by decide +kernel
theorem dX10_gravelLine_116 : decode cX10_gravelLine 116 = .ok (.iastore, 1) := by decide +kernel
theorem dX10_gravelLine_117 : decode cX10_gravelLine 117 = .ok (.aload_n 0, 1) := by decide +kernel
theorem dX10_gravelLine_118 : decode cX10_gravelLine 118 = .ok (.getfield 23, 3) := by decide +kernel
theorem dX10_gravelLine_121 : decode cX10_gravelLine 121 = .ok (.bipush 41, 2) := by decide +kernel
theorem dX10_gravelLine_123 : decode cX10_gravelLine 123 = .ok (.iload_n 1, 1) := by decide +kernel
theorem dX10_gravelLine_124 : decode cX10_gravelLine 124 = .ok (.iadd, 1) := by decide +kernel
theorem dX10_gravelLine_125 : decode cX10_gravelLine 125 = .ok (.iload_n 3, 1) := by decide +kernel
theorem dX10_gravelLine_126 : decode cX10_gravelLine 126 = .ok (.iastore, 1) := by decide +kernel
theorem dX10_gravelLine_127 : decode cX10_gravelLine 127 = .ok (.aload_n 0, 1) := by decide +kernel
theorem dX10_gravelLine_128 : decode cX10_gravelLine 128 = .ok (.getfield 23, 3) := by decide +kernel
theorem dX10_gravelLine_131 : decode cX10_gravelLine 131 = .ok (.bipush 46, 2) := by decide +kernel
theorem dX10_gravelLine_133 : decode cX10_gravelLine 133 = .ok (.iload_n 1, 1) := by decide +kernel
theorem dX10_gravelLine_134 : decode cX10_gravelLine 134 = .ok (.iadd, 1) := by decide +kernel
theorem dX10_gravelLine_135 : decode cX10_gravelLine 135 = .ok (.iload 4, 2) := by decide +kernel
theorem dX10_gravelLine_137 : decode cX10_gravelLine 137 = .ok (.iastore, 1) := by decide +kernel
theorem dX10_gravelLine_138 : decode cX10_gravelLine 138 = .ok (.aload_n 0, 1) := by decide +kernel
theorem dX10_gravelLine_139 : decode cX10_gravelLine 139 = .ok (.getfield 23, 3) := by decide +kernel
theorem dX10_gravelLine_142 : decode cX10_gravelLine 142 = .ok (.bipush 51, 2) := by decide +kernel
theorem dX10_gravelLine_144 : decode cX10_gravelLine 144 = .ok (.iload_n 1, 1) := by decide +kernel
theorem dX10_gravelLine_145 : decode cX10_gravelLine 145 = .ok (.iadd, 1) := by decide +kernel
theorem dX10_gravelLine_146 : decode cX10_gravelLine 146 = .ok (.iload 5, 2) := by decide +kernel
theorem dX10_gravelLine_148 : decode cX10_gravelLine 148 = .ok (.iastore, 1) := by decide +kernel
theorem dX10_gravelLine_149 : decode cX10_gravelLine 149 = .ok (.aload_n 0, 1) := by decide +kernel
theorem dX10_gravelLine_150 : decode cX10_gravelLine 150 = .ok (.getfield 23, 3) := by decide +kernel
theorem dX10_gravelLine_153 : decode cX10_gravelLine 153 = .ok (.bipush 94, 2) := by decide +kernel
theorem dX10_gravelLine_155 : decode cX10_gravelLine 155 = .ok (.dup2, 1) := by decide +kernel
theorem dX10_gravelLine_156 : decode cX10_gravelLine 156 = .ok (.iaload, 1) := by decide +kernel
theorem dX10_gravelLine_157 : decode cX10_gravelLine 157 = .ok (.iconst 1, 1) := by decide +kernel
theorem dX10_gravelLine_158 : decode cX10_gravelLine 158 = .ok (.iadd, 1) := by decide +kernel
theorem dX10_gravelLine_159 : decode cX10_gravelLine 159 = .ok (.iastore, 1) := by decide +kernel
theorem dX10_gravelLine_160 : decode cX10_gravelLine 160 = .ok (.return_, 1) := by decide +kernel
def f_X10_gravelLine  (M : Mm) : Option (Mm) :=
  jn (fun (s1 : Int32) (M2 : Mm) => bv (f_X10_begins s1 M2) fun M32_4 => bd (f_X10_told 34 (nI 0) ((M32_4 85 1) - (nI 1)) M32_4) fun v55_7 M55_6 => bd (f_X10_told 35 (nI 1) (M55_6 85 0) M55_6) fun v69_9 M69_8 => bd (f_X10_told 36 v69_9 (M69_8 85 0) M69_8) fun v83_11 M83_10 => bd (f_X10_told 37 (nI 1) (nI 99) M83_10) fun v94_13 M94_12 => if (M94_12 81 13) = 0 then (gd (inb ((nI 36) + (M32_4 85 94)) 141) <| gd (inb ((nI 41) + (M32_4 85 94)) 141) <| gd (inb ((nI 46) + (M32_4 85 94)) 141) <| gd (inb ((nI 51) + (M32_4 85 94)) 141) <| some ((mset (mset (mset (mset (mset M94_12 85 ((nI 36) + (M32_4 85 94)).toNatClampNeg v55_7) 85 ((nI 41) + (M32_4 85 94)).toNatClampNeg v69_9) 85 ((nI 46) + (M32_4 85 94)).toNatClampNeg v83_11) 85 ((nI 51) + (M32_4 85 94)).toNatClampNeg v94_13) 85 94 (((mset (mset (mset (mset M94_12 85 ((nI 36) + (M32_4 85 94)).toNatClampNeg v55_7) 85 ((nI 41) + (M32_4 85 94)).toNatClampNeg v69_9) 85 ((nI 46) + (M32_4 85 94)).toNatClampNeg v83_11) 85 ((nI 51) + (M32_4 85 94)).toNatClampNeg v94_13) 85 94) + (nI 1))))) else (some M94_12)) fun j3 => if (M 85 94) = (nI 5) then (j3 (nI 5) M) else (if (M 85 91) = 0 then (j3 (nI 6) M) else (j3 (nI 0) M))
set_option maxHeartbeats 4000000 in
set_option maxRecDepth 100000 in
theorem s_X10_gravelLine {l : Launch} {B : BT} (hA : bA B = false) {d : Nat} {M' : Mm}  {M : Mm}  (h : f_X10_gravelLine  M = some M') : Con l B LY (d + 8) yX10_gravelLine cX10_gravelLine 6 none 0 0 [.ref 81] 97 M (PV M') := by
  refine con_of (by decide) (Nat.le_of_ble_eq_true rfl) ?_
  show GG l B LY (d + 8) yX10_gravelLine cX10_gravelLine 6 none 0 0 (PV M') 97 0 0 0 [(0, .ref 81)] [] M
  rw [f_X10_gravelLine] at h
  refine g_aload_n dX10_gravelLine_0 rfl 0 rfl ?_
  refine g_aload_n dX10_gravelLine_1 rfl 0 rfl ?_
  refine m_getr (k := 16) okX10 rfl rfl (by decide) w_1285 rfl dX10_gravelLine_2 ?_
  refine g_bipush (v := (nI 94)) dX10_gravelLine_5 (by decide) ?_
  refine m_ialdL (k := 94) rfl rfl (by decide) dX10_gravelLine_7 ?_
  refine g_iconst (v := (nI 5)) dX10_gravelLine_8 (by decide) ?_
  obtain ⟨j3, ej3, h⟩ := jn_e h
  have hj3 : ∀ (s1 : Int32) (M2 : Mm), j3 s1 M2 = some M' → GG l B LY (d + 8) yX10_gravelLine cX10_gravelLine 6 none 0 0 (PV M') 97 0 0 32 [(0, .ref 81)] [.int s1, .ref 81] M2 := by
    intro s1 M2 h
    rw [ej3] at h
    obtain ⟨M32_4, eM32_4, h⟩ := bv_e h
    refine m_callVv (As := [.int s1]) (st := []) (s_X10_begins (d := d + 5) hA  eM32_4) rfl okX10 ck_X10_begins w_1421 rfl (Nat.le_of_ble_eq_true rfl) dX10_gravelLine_32 ?_
    refine g_aload_n dX10_gravelLine_35 rfl 0 rfl ?_
    refine m_getr (k := 16) okX10 rfl rfl (by decide) w_1285 rfl dX10_gravelLine_36 ?_
    refine g_bipush (v := (nI 94)) dX10_gravelLine_39 (by decide) ?_
    refine m_ialdL (k := 94) rfl rfl (by decide) dX10_gravelLine_41 ?_
    refine g_istore_n (lv' := [(1, .int (M32_4 85 94)), (0, .ref 81)]) dX10_gravelLine_42 rfl (by decide) rfl ?_
    refine g_aload_n dX10_gravelLine_43 rfl 1 rfl ?_
    refine g_ldcS (j := 34) rfl dX10_gravelLine_44 ?_
    refine g_iconst (v := (nI 0)) dX10_gravelLine_46 (by decide) ?_
    refine g_aload_n dX10_gravelLine_47 rfl 1 rfl ?_
    refine m_getr (k := 16) okX10 rfl rfl (by decide) w_1285 rfl dX10_gravelLine_48 ?_
    refine g_iconst (v := (nI 1)) dX10_gravelLine_51 (by decide) ?_
    refine m_ialdL (k := 1) rfl rfl (by decide) dX10_gravelLine_52 ?_
    refine g_iconst (v := (nI 1)) dX10_gravelLine_53 (by decide) ?_
    refine g_isub dX10_gravelLine_54 ?_
    obtain ⟨v55_7, M55_6, eM55_6, h⟩ := bd_e h
    refine m_callVi (As := [.ref (1000 + 34), .int (nI 0), .int ((M32_4 85 1) - (nI 1))]) (st := []) (s_X10_told (d := d + 0) hA (by decide) eM55_6) rfl okX10 ck_X10_told w_1430 rfl (Nat.le_of_ble_eq_true rfl) dX10_gravelLine_55 ?_
    refine g_istore_n (lv' := [(2, .int v55_7), (1, .int (M32_4 85 94)), (0, .ref 81)]) dX10_gravelLine_58 rfl (by decide) rfl ?_
    refine g_aload_n dX10_gravelLine_59 rfl 2 rfl ?_
    refine g_ldcS (j := 35) rfl dX10_gravelLine_60 ?_
    refine g_iconst (v := (nI 1)) dX10_gravelLine_62 (by decide) ?_
    refine g_aload_n dX10_gravelLine_63 rfl 2 rfl ?_
    refine m_getr (k := 16) okX10 rfl rfl (by decide) w_1285 rfl dX10_gravelLine_64 ?_
    refine g_iconst (v := (nI 0)) dX10_gravelLine_67 (by decide) ?_
    refine m_ialdL (k := 0) rfl rfl (by decide) dX10_gravelLine_68 ?_
    obtain ⟨v69_9, M69_8, eM69_8, h⟩ := bd_e h
    refine m_callVi (As := [.ref (1000 + 35), .int (nI 1), .int (M55_6 85 0)]) (st := []) (s_X10_told (d := d + 0) hA (by decide) eM69_8) rfl okX10 ck_X10_told w_1430 rfl (Nat.le_of_ble_eq_true rfl) dX10_gravelLine_69 ?_
    refine g_istore_n (lv' := [(3, .int v69_9), (2, .int v55_7), (1, .int (M32_4 85 94)), (0, .ref 81)]) dX10_gravelLine_72 rfl (by decide) rfl ?_
    refine g_aload_n dX10_gravelLine_73 rfl 3 rfl ?_
    refine g_ldcS (j := 36) rfl dX10_gravelLine_74 ?_
    refine g_iload_n dX10_gravelLine_76 rfl 0 rfl ?_
    refine g_aload_n dX10_gravelLine_77 rfl 3 rfl ?_
    refine m_getr (k := 16) okX10 rfl rfl (by decide) w_1285 rfl dX10_gravelLine_78 ?_
    refine g_iconst (v := (nI 0)) dX10_gravelLine_81 (by decide) ?_
    refine m_ialdL (k := 0) rfl rfl (by decide) dX10_gravelLine_82 ?_
    obtain ⟨v83_11, M83_10, eM83_10, h⟩ := bd_e h
    refine m_callVi (As := [.ref (1000 + 36), .int v69_9, .int (M69_8 85 0)]) (st := []) (s_X10_told (d := d + 0) hA (by decide) eM83_10) rfl okX10 ck_X10_told w_1430 rfl (Nat.le_of_ble_eq_true rfl) dX10_gravelLine_83 ?_
    refine g_istore (lv' := [(4, .int v83_11), (3, .int v69_9), (2, .int v55_7), (1, .int (M32_4 85 94)), (0, .ref 81)]) dX10_gravelLine_86 (by decide) rfl ?_
    refine g_aload_n dX10_gravelLine_88 rfl 4 rfl ?_
    refine g_ldcS (j := 37) rfl dX10_gravelLine_89 ?_
    refine g_iconst (v := (nI 1)) dX10_gravelLine_91 (by decide) ?_
    refine g_bipush (v := (nI 99)) dX10_gravelLine_92 (by decide) ?_
    obtain ⟨v94_13, M94_12, eM94_12, h⟩ := bd_e h
    refine m_callVi (As := [.ref (1000 + 37), .int (nI 1), .int (nI 99)]) (st := []) (s_X10_told (d := d + 0) hA (by decide) eM94_12) rfl okX10 ck_X10_told w_1430 rfl (Nat.le_of_ble_eq_true rfl) dX10_gravelLine_94 ?_
    refine g_istore (lv' := [(5, .int v94_13), (4, .int v83_11), (3, .int v69_9), (2, .int v55_7), (1, .int (M32_4 85 94)), (0, .ref 81)]) dX10_gravelLine_97 (by decide) rfl ?_
    refine g_aload_n dX10_gravelLine_99 rfl 5 rfl ?_
    refine m_geti (k := 13) okX10 rfl rfl (by decide) w_1282 rfl dX10_gravelLine_100 ?_
    refine g_if_eq (tgt := 107) dX10_gravelLine_103 (by decide) (fun c14 => ?_) (fun c14 => ?_)
    · replace h := ite_p c14 h
      refine g_aload_n dX10_gravelLine_107 rfl 5 rfl ?_
      refine m_getr (k := 16) okX10 rfl rfl (by decide) w_1285 rfl dX10_gravelLine_108 ?_
      refine g_bipush (v := (nI 36)) dX10_gravelLine_111 (by decide) ?_
      refine g_iload_n dX10_gravelLine_113 rfl 4 rfl ?_
      refine g_iadd dX10_gravelLine_114 ?_
      refine g_iload_n dX10_gravelLine_115 rfl 3 rfl ?_
      obtain ⟨hz, h⟩ := gd_s h
      refine m_iast hA rfl hz dX10_gravelLine_116 ?_
      refine g_aload_n dX10_gravelLine_117 rfl 5 rfl ?_
      refine m_getr (k := 16) okX10 rfl rfl (by decide) w_1285 rfl dX10_gravelLine_118 ?_
      refine g_bipush (v := (nI 41)) dX10_gravelLine_121 (by decide) ?_
      refine g_iload_n dX10_gravelLine_123 rfl 4 rfl ?_
      refine g_iadd dX10_gravelLine_124 ?_
      refine g_iload_n dX10_gravelLine_125 rfl 2 rfl ?_
      obtain ⟨hz, h⟩ := gd_s h
      refine m_iast hA rfl hz dX10_gravelLine_126 ?_
      refine g_aload_n dX10_gravelLine_127 rfl 5 rfl ?_
      refine m_getr (k := 16) okX10 rfl rfl (by decide) w_1285 rfl dX10_gravelLine_128 ?_
      refine g_bipush (v := (nI 46)) dX10_gravelLine_131 (by decide) ?_
      refine g_iload_n dX10_gravelLine_133 rfl 4 rfl ?_
      refine g_iadd dX10_gravelLine_134 ?_
      refine g_iload dX10_gravelLine_135 1 rfl ?_
      obtain ⟨hz, h⟩ := gd_s h
      refine m_iast hA rfl hz dX10_gravelLine_137 ?_
      refine g_aload_n dX10_gravelLine_138 rfl 5 rfl ?_
      refine m_getr (k := 16) okX10 rfl rfl (by decide) w_1285 rfl dX10_gravelLine_139 ?_
      refine g_bipush (v := (nI 51)) dX10_gravelLine_142 (by decide) ?_
      refine g_iload_n dX10_gravelLine_144 rfl 4 rfl ?_
      refine g_iadd dX10_gravelLine_145 ?_
      refine g_iload dX10_gravelLine_146 0 rfl ?_
      obtain ⟨hz, h⟩ := gd_s h
      refine m_iast hA rfl hz dX10_gravelLine_148 ?_
      refine g_aload_n dX10_gravelLine_149 rfl 5 rfl ?_
      refine m_getr (k := 16) okX10 rfl rfl (by decide) w_1285 rfl dX10_gravelLine_150 ?_
      refine g_bipush (v := (nI 94)) dX10_gravelLine_153 (by decide) ?_
      refine g_dup2 dX10_gravelLine_155 rfl rfl ?_
      refine m_ialdL (k := 94) rfl rfl (by decide) dX10_gravelLine_156 ?_
      refine g_iconst (v := (nI 1)) dX10_gravelLine_157 (by decide) ?_
      refine g_iadd dX10_gravelLine_158 ?_
      refine m_iastL (k := 94) hA rfl rfl (by decide) dX10_gravelLine_159 ?_
      exact g_vret rfl (pv_of h) dX10_gravelLine_160
    · replace h := ite_n c14 h
      exact g_vret rfl (pv_of h) dX10_gravelLine_106
  refine g_icmp_ne (tgt := 16) dX10_gravelLine_9 (by decide) (fun c16 => ?_) (fun c16 => ?_)
  · replace h := ite_n c16 h
    refine g_aload_n dX10_gravelLine_16 rfl 0 rfl ?_
    refine m_getr (k := 16) okX10 rfl rfl (by decide) w_1285 rfl dX10_gravelLine_17 ?_
    refine g_bipush (v := (nI 91)) dX10_gravelLine_20 (by decide) ?_
    refine m_ialdL (k := 91) rfl rfl (by decide) dX10_gravelLine_22 ?_
    refine g_if_ne (tgt := 31) dX10_gravelLine_23 (by decide) (fun c15 => ?_) (fun c15 => ?_)
    · replace h := ite_n c15 h
      refine g_iconst (v := (nI 0)) dX10_gravelLine_31 (by decide) ?_
      refine g_sub [0] (lv' := [(0, .ref 81)]) rfl ?_
      exact hj3 _ _ h
    · replace h := ite_p c15 h
      refine g_bipush (v := (nI 6)) dX10_gravelLine_26 (by decide) ?_
      refine g_goto (tgt := 32) dX10_gravelLine_28 (by decide) ?_
      refine g_sub [0] (lv' := [(0, .ref 81)]) rfl ?_
      exact hj3 _ _ h
  · replace h := ite_p c16 h
    refine g_iconst (v := (nI 5)) dX10_gravelLine_12 (by decide) ?_
    refine g_goto (tgt := 32) dX10_gravelLine_13 (by decide) ?_
    refine g_sub [0] (lv' := [(0, .ref 81)]) rfl ?_
    exact hj3 _ _ h
theorem ck_X10_gravelLine : CKV yX10_gravelLine cX10_gravelLine 6 none 0 := ⟨⟨by decide, by decide, by decide +kernel⟩, w_1470, w_81, ⟨w_1469, w_26⟩, by decide⟩
