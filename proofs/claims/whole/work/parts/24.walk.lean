/-! walks: X10_watch X10_both X10_playWhy X10_plays X10_wins X10_lasts X10_sent X10_looking X10_isFilmed X10_film X10_lawOf X10_law. Written by wip/programs/parts.py. -/
theorem dX10_watch_0 : decode cX10_watch 0 = .ok (.aload_n 0, 1) := by decide +kernel
theorem dX10_watch_1 : decode cX10_watch 1 = .ok (.invokevirtual 156, 3) := by decide +kernel
theorem dX10_watch_4 : decode cX10_watch 4 = .ok (.aload_n 0, 1) := by decide +kernel
theorem dX10_watch_5 : decode cX10_watch 5 = .ok (.getfield 165, 3) := by decide +kernel
theorem dX10_watch_8 : decode cX10_watch 8 = .ok (.ifCond .ne 9, 3) := by decide +kernel
theorem dX10_watch_11 : decode cX10_watch 11 = .ok (.aload_n 0, 1) := by decide +kernel
theorem dX10_watch_12 : decode cX10_watch 12 = .ok (.iconst 1, 1) := by decide +kernel
theorem dX10_watch_13 : decode cX10_watch 13 = .ok (.invokevirtual 159, 3) := by decide +kernel
theorem dX10_watch_16 : decode cX10_watch 16 = .ok (.ireturn, 1) := by decide +kernel
theorem dX10_watch_17 : decode cX10_watch 17 = .ok (.aload_n 0, 1) := by decide +kernel
theorem dX10_watch_18 : decode cX10_watch 18 = .ok (.getfield 20, 3) := by decide +kernel
theorem dX10_watch_21 : decode cX10_watch 21 = .ok (.bipush 95, 2) := by decide +kernel
theorem dX10_watch_23 : decode cX10_watch 23 = .ok (.iaload, 1) := by decide +kernel
theorem dX10_watch_24 : decode cX10_watch 24 = .ok (.aload_n 0, 1) := by decide +kernel
theorem dX10_watch_25 : decode cX10_watch 25 = .ok (.getfield 20, 3) := by decide +kernel
theorem dX10_watch_28 : decode cX10_watch 28 = .ok (.iconst 3, 1) := by decide +kernel
theorem dX10_watch_29 : decode cX10_watch 29 = .ok (.iaload, 1) := by decide +kernel
theorem dX10_watch_30 : decode cX10_watch 30 = .ok (.aload_n 0, 1) := by decide +kernel
theorem dX10_watch_31 : decode cX10_watch 31 = .ok (.getfield 20, 3) := by decide +kernel
theorem dX10_watch_34 : decode cX10_watch 34 = .ok (.iconst 4, 1) := by decide +kernel
theorem dX10_watch_35 : decode cX10_watch 35 = .ok (.iaload, 1) := by decide +kernel
theorem dX10_watch_36 : decode cX10_watch 36 = .ok (.idiv, 1) := by decide +kernel
theorem dX10_watch_37 : decode cX10_watch 37 = .ok (.invokestatic 303, 3) := by decide +kernel
theorem dX10_watch_40 : decode cX10_watch 40 = .ok (.istore_n 1, 1) := by decide +kernel
theorem dX10_watch_41 : decode cX10_watch 41 = .ok (.iconst (-1), 1) := by decide +kernel
theorem dX10_watch_42 : decode cX10_watch 42 = .ok (.istore_n 2, 1) := by decide +kernel
theorem dX10_watch_43 : decode cX10_watch 43 = .ok (.lconst 0, 1) := by decide +kernel
theorem dX10_watch_44 : decode cX10_watch 44 = .ok (.lstore_n 3, 1) := by decide +kernel
theorem dX10_watch_45 : decode cX10_watch 45 = .ok (.iconst 0, 1) := by decide +kernel
theorem dX10_watch_46 : decode cX10_watch 46 = .ok (.istore 5, 2) := by decide +kernel
theorem dX10_watch_48 : decode cX10_watch 48 = .ok (.iload 5, 2) := by decide +kernel
theorem dX10_watch_50 : decode cX10_watch 50 = .ok (.iconst 1, 1) := by decide +kernel
theorem dX10_watch_51 : decode cX10_watch 51 = .ok (.aload_n 0, 1) := by decide +kernel
theorem dX10_watch_52 : decode cX10_watch 52 = .ok (.getfield 20, 3) := by decide +kernel
theorem dX10_watch_55 : decode cX10_watch 55 = .ok (.bipush 95, 2) := by decide +kernel
theorem dX10_watch_57 : decode cX10_watch 57 = .ok (.iaload, 1) := by decide +kernel
theorem dX10_watch_58 : decode cX10_watch 58 = .ok (.ishl, 1) := by decide +kernel
theorem dX10_watch_59 : decode cX10_watch 59 = .ok (.if_icmp .ge 126, 3) := by decide +kernel
theorem dX10_watch_62 : decode cX10_watch 62 = .ok (.iload 5, 2) := by decide +kernel
theorem dX10_watch_64 : decode cX10_watch 64 = .ok (.invokestatic 344, 3) := by decide +kernel
theorem dX10_watch_67 : decode cX10_watch 67 = .ok (.iload_n 1, 1) := by decide +kernel
theorem dX10_watch_68 : decode cX10_watch 68 = .ok (.if_icmp .eq 6, 3) := by decide +kernel
theorem dX10_watch_71 : decode cX10_watch 71 = .ok (.goto 108, 3) := by decide +kernel
theorem dX10_watch_74 : decode cX10_watch 74 = .ok (.lconst 0, 1) := by decide +kernel
theorem dX10_watch_75 : decode cX10_watch 75 = .ok (.lstore 6, 2) := by decide +kernel
theorem dX10_watch_77 : decode cX10_watch 77 = .ok (.iconst 0, 1) := by decide +kernel
theorem dX10_watch_78 : decode cX10_watch 78 = .ok (.istore 8, 2) := by decide +kernel
theorem dX10_watch_80 : decode cX10_watch 80 = .ok (.iload 8, 2) := by decide +kernel
theorem dX10_watch_82 : decode cX10_watch 82 = .ok (.aload_n 0, 1) := by decide +kernel
theorem dX10_watch_83 : decode cX10_watch 83 = .ok (.getfield 20, 3) := by decide +kernel
theorem dX10_watch_86 : decode cX10_watch 86 = .ok (.bipush 95, 2) := by decide +kernel
theorem dX10_watch_88 : decode cX10_watch 88 = .ok (.iaload, 1) := by decide +kernel
theorem dX10_watch_89 : decode cX10_watch 89 = .ok (.if_icmp .ge 70, 3) := by decide +kernel
theorem dX10_watch_92 : decode cX10_watch 92 = .ok (.lload 6, 2) := by decide +kernel
theorem dX10_watch_94 : decode cX10_watch 94 = .ok (.iload 5, 2) := by decide +kernel
theorem dX10_watch_96 : decode cX10_watch 96 = .ok (.iload 8, 2) := by decide +kernel
theorem dX10_watch_98 : decode cX10_watch 98 = .ok (.ishr, 1) := by decide +kernel
theorem dX10_watch_99 : decode cX10_watch 99 = .ok (.iconst 1, 1) := by decide +kernel
theorem dX10_watch_100 : decode cX10_watch 100 = .ok (.iand, 1) := by decide +kernel
theorem dX10_watch_101 : decode cX10_watch 101 = .ok (.iconst 1, 1) := by decide +kernel
theorem dX10_watch_102 : decode cX10_watch 102 = .ok (.if_icmp .ne 47, 3) := by decide +kernel
theorem dX10_watch_105 : decode cX10_watch 105 = .ok (.aload_n 0, 1) := by decide +kernel
theorem dX10_watch_106 : decode cX10_watch 106 = .ok (.getfield 26, 3) := by decide +kernel
theorem dX10_watch_109 : decode cX10_watch 109 = .ok (.bipush 9, 2) := by decide +kernel
theorem dX10_watch_111 : decode cX10_watch 111 = .ok (.iload 8, 2) := by decide +kernel
theorem dX10_watch_113 : decode cX10_watch 113 = .ok (.iadd, 1) := by decide +kernel
theorem dX10_watch_114 : decode cX10_watch 114 = .ok (.iaload, 1) := by decide +kernel
theorem dX10_watch_115 : decode cX10_watch 115 = .ok (.aload_n 0, 1) := by decide +kernel
theorem dX10_watch_116 : decode cX10_watch 116 = .ok (.getfield 20, 3) := by decide +kernel
theorem dX10_watch_119 : decode cX10_watch 119 = .ok (.iconst 0, 1) := by decide +kernel
theorem dX10_watch_120 : decode cX10_watch 120 = .ok (.iaload, 1) := by decide +kernel
theorem dX10_watch_121 : decode cX10_watch 121 = .ok (.if_icmp .ge 28, 3) := by decide +kernel
theorem dX10_watch_124 : decode cX10_watch 124 = .ok (.aload_n 0, 1) := by decide +kernel
theorem dX10_watch_125 : decode cX10_watch 125 = .ok (.iload 8, 2) := by decide +kernel
theorem dX10_watch_127 : decode cX10_watch 127 = .ok (.aload_n 0, 1) := by decide +kernel
theorem dX10_watch_128 : decode cX10_watch 128 = .ok (.getfield 26, 3) := by decide +kernel
theorem dX10_watch_131 : decode cX10_watch 131 = .ok (.bipush 9, 2) := by decide +kernel
theorem dX10_watch_133 : decode cX10_watch 133 = .ok (.iload 8, 2) := by decide +kernel
theorem dX10_watch_135 : decode cX10_watch 135 = .ok (.iadd, 1) := by decide +kernel
theorem dX10_watch_136 : decode cX10_watch 136 = .ok (.iaload, 1) := by decide +kernel
theorem dX10_watch_137 : decode cX10_watch 137 = .ok (.aload_n 0, 1) := by decide +kernel
theorem dX10_watch_138 : decode cX10_watch 138 = .ok (.iload 8, 2) := by decide +kernel
theorem dX10_watch_140 : decode cX10_watch 140 = .ok (.invokevirtual 347, 3) := by decide +kernel
theorem dX10_watch_143 : decode cX10_watch 143 = .ok (.invokevirtual 323, 3) := by decide +kernel
theorem dX10_watch_146 : decode cX10_watch 146 = .ok (.goto 4, 3) := by decide +kernel
theorem dX10_watch_149 : decode cX10_watch 149 = .ok (.lconst 0, 1) := by decide +kernel
theorem dX10_watch_150 : decode cX10_watch 150 = .ok (.ladd, 1) := by decide +kernel
theorem dX10_watch_151 : decode cX10_watch 151 = .ok (.lstore 6, 2) := by decide +kernel
theorem dX10_watch_153 : decode cX10_watch 153 = .ok (.iinc 8 1, 3) := by decide +kernel
theorem dX10_watch_156 : decode cX10_watch 156 = .ok (.goto (-76), 3) := by decide +kernel
theorem dX10_watch_159 : decode cX10_watch 159 = .ok (.iload_n 2, 1) := by decide +kernel
theorem dX10_watch_160 : decode cX10_watch 160 = .ok (.ifCond .lt 13, 3) := by decide +kernel
theorem dX10_watch_163 : decode cX10_watch 163 = .ok (.lload 6, 2) := by decide +kernel
theorem dX10_watch_165 : decode cX10_watch 165 = .ok (.lload_n 3, 1) := by decide +kernel
theorem dX10_watch_166 : decode cX10_watch 166 = .ok (.lcmp, 1) := by decide +kernel
theorem dX10_watch_167 : decode cX10_watch 167 = .ok (.ifCond .gt 6, 3) := by decide +kernel
theorem dX10_watch_170 : decode cX10_watch 170 = .ok (.goto 9, 3) := by decide +kernel
theorem dX10_watch_173 : decode cX10_watch 173 = .ok (.iload 5, 2) := by decide +kernel
theorem dX10_watch_175 : decode cX10_watch 175 = .ok (.istore_n 2, 1) := by decide +kernel
theorem dX10_watch_176 : decode cX10_watch 176 = .ok (.lload 6, 2) := by decide +kernel
theorem dX10_watch_178 : decode cX10_watch 178 = .ok (.lstore_n 3, 1) := by decide +kernel
theorem dX10_watch_179 : decode cX10_watch 179 = .ok (.iinc 5 1, 3) := by decide +kernel
theorem dX10_watch_182 : decode cX10_watch 182 = .ok (.goto (-134), 3) := by decide +kernel
theorem dX10_watch_185 : decode cX10_watch 185 = .ok (.iload_n 2, 1) := by decide +kernel
theorem dX10_watch_186 : decode cX10_watch 186 = .ok (.ireturn, 1) := by decide +kernel
def lp_X10_watch_80 (y1 : Int32) (y2 : Int32) (y3 : Int64) (y5 : Int32) (k159 : Int64 → Mm → Option (Int32 × Mm)) : Nat → Int64 → Int32 → Mm → Option (Int32 × Mm)
  | 0, _, _, _ => none
  | n + 1, y6, y8, M =>
    if (M 84 95) ≤ y8 then (k159 y6 M) else (jn (fun (s11 : Int64) (M12 : Mm) => lp_X10_watch_80 y1 y2 y3 y5 k159 n (y6 + s11) (y8 + (nI 1)) M12) fun j13 => jn (fun (M14 : Mm) => j13 (0 : Int64) M14) fun j15 => if ((y5 >>> (y8 &&& 31)) &&& (nI 1)) = (nI 1) then (gd (inb ((nI 9) + y8) 44) <| if (M 84 0) ≤ (M 86 ((nI 9) + y8).toNatClampNeg) then (j15  M) else (gd (inb ((nI 9) + y8) 44) <| bd (f_X10_means y8 M) fun v140_17 M140_16 => bd (f_X10_risks y8 (M 86 ((nI 9) + y8).toNatClampNeg) v140_17 M140_16) fun v143_19 M143_18 => j13 v143_19 M143_18)) else (j15  M))
def lp_X10_watch_48 (y1 : Int32)  : Nat → Int32 → Int64 → Int32 → Mm → Option (Int32 × Mm)
  | 0, _, _, _, _ => none
  | n + 1, y2, y3, y5, M =>
    if ((nI 1) <<< ((M 84 95) &&& 31)) ≤ y5 then (some (y2, M)) else (bd (f_X10_count y5 M) fun v64_6 M64_5 => jn (fun (u7 : Int32) (u8 : Int64) (M9 : Mm) => lp_X10_watch_48 y1 n u7 u8 (y5 + (nI 1)) M9) fun j10 => if v64_6 = y1 then (lp_X10_watch_80 y1 y2 y3 y5 (fun (u23 : Int64) (M24 : Mm) => jn (fun (M25 : Mm) => j10 y5 u23 M25) fun j26 => if y2 < 0 then (j26  M24) else (if 0 < (lg_cmp u23 y3) then (j26  M24) else (j10 y2 y3 M24))) N0 (0 : Int64) (nI 0) M64_5) else (j10 y2 y3 M64_5))
def f_X10_watch  (M : Mm) : Option (Int32 × Mm) :=
  bv (f_X10_good  M) fun M1_1 => if (M1_1 81 14) = 0 then (bd (f_X10_no (nI 1) M1_1) fun v13_32 M13_31 => some (v13_32, M13_31)) else (gd (nzi (M1_1 84 4)) <| bd (f_X10_less (M1_1 84 95) ((M1_1 84 3) / (M1_1 84 4)) M1_1) fun v37_4 M37_3 => lp_X10_watch_48 v37_4  N0 (-1 : Int32) (0 : Int64) (nI 0) M37_3)
set_option maxHeartbeats 4000000 in
set_option maxRecDepth 100000 in
theorem sl_X10_watch_80 {l : Launch} {B : BT} (hA : bA B = false) {d : Nat} {r : Int32} {M' : Mm} {y1 : Int32} {y2 : Int32} {y3 : Int64} {y5 : Int32}  {k159 : Int64 → Mm → Option (Int32 × Mm)} (hk159 : ∀ (z6 : Int64) (M9 : Mm), k159 z6 M9 = some (r, M') → GG l B LY (d + 4) yX10_watch cX10_watch 9 (some .int) 0 0 (PI r M') 97 0 0 159 [(0, .ref 81), (1, .int y1), (2, .int y2), (3, .long y3), (5, .int y5), (6, .long z6)] [] M9) :
    ∀ (n : Nat) (y6 : Int64) (y8 : Int32) (M : Mm), lp_X10_watch_80 y1 y2 y3 y5 k159 n y6 y8 M = some (r, M') → GG l B LY (d + 4) yX10_watch cX10_watch 9 (some .int) 0 0 (PI r M') 97 0 0 80 [(0, .ref 81), (1, .int y1), (2, .int y2), (3, .long y3), (5, .int y5), (6, .long y6), (8, .int y8)] [] M := by
  intro n
  induction n with
  | zero => intro y6 y8 M h; cases h
  | succ n ih =>
    intro y6 y8 M h
    rw [lp_X10_watch_80] at h
    refine g_iload dX10_watch_80 6 rfl ?_
    refine g_aload_n dX10_watch_82 rfl 0 rfl ?_
    refine m_getr (k := 15) okX10 rfl rfl (by decide) w_1284 rfl dX10_watch_83 ?_
    refine g_bipush (v := (nI 95)) dX10_watch_86 (by decide) ?_
    refine m_ialdL (k := 95) rfl rfl (by decide) dX10_watch_88 ?_
    refine g_icmp_ge (tgt := 159) dX10_watch_89 (by decide) (fun c22 => ?_) (fun c22 => ?_)
    · replace h := ite_p c22 h
      refine g_sub [0, 1, 2, 3, 4, 5] (lv' := [(0, .ref 81), (1, .int y1), (2, .int y2), (3, .long y3), (5, .int y5), (6, .long y6)]) rfl ?_
      exact hk159 _ _ h
    · replace h := ite_n c22 h
      refine g_lload dX10_watch_92 5 rfl ?_
      refine g_iload dX10_watch_94 4 rfl ?_
      refine g_iload dX10_watch_96 6 rfl ?_
      refine g_ishr dX10_watch_98 ?_
      refine g_iconst (v := (nI 1)) dX10_watch_99 (by decide) ?_
      refine g_iand dX10_watch_100 ?_
      refine g_iconst (v := (nI 1)) dX10_watch_101 (by decide) ?_
      obtain ⟨j13, ej13, h⟩ := jn_e h
      have hj13 : ∀ (s11 : Int64) (M12 : Mm), j13 s11 M12 = some (r, M') → GG l B LY (d + 4) yX10_watch cX10_watch 9 (some .int) 0 0 (PI r M') 97 0 0 150 [(0, .ref 81), (1, .int y1), (2, .int y2), (3, .long y3), (5, .int y5), (8, .int y8)] [.long s11, .long y6] M12 := by
        intro s11 M12 h
        rw [ej13] at h
        refine g_ladd dX10_watch_150 ?_
        refine g_lstore (lv' := [(6, .long (y6 + s11)), (0, .ref 81), (1, .int y1), (2, .int y2), (3, .long y3), (5, .int y5), (8, .int y8)]) dX10_watch_151 (by decide) rfl ?_
        refine g_iinc (v := (y8 + (nI 1))) (lv' := [(8, .int (y8 + (nI 1))), (6, .long (y6 + s11)), (0, .ref 81), (1, .int y1), (2, .int y2), (3, .long y3), (5, .int y5)]) dX10_watch_153 6 rfl rfl (by decide) rfl ?_
        refine g_goto (tgt := 80) dX10_watch_156 (by decide) ?_
        refine g_sub [2, 3, 4, 5, 6, 1, 0] (lv' := [(0, .ref 81), (1, .int y1), (2, .int y2), (3, .long y3), (5, .int y5), (6, .long (y6 + s11)), (8, .int (y8 + (nI 1)))]) rfl ?_
        exact ih _ _  _ h
      obtain ⟨j15, ej15, h⟩ := jn_e h
      have hj15 : ∀ (M14 : Mm), j15 M14 = some (r, M') → GG l B LY (d + 4) yX10_watch cX10_watch 9 (some .int) 0 0 (PI r M') 97 0 0 149 [(0, .ref 81), (1, .int y1), (2, .int y2), (3, .long y3), (5, .int y5), (8, .int y8)] [.long y6] M14 := by
        intro M14 h
        rw [ej15] at h
        refine g_lconst (v := 0) dX10_watch_149 (by decide) ?_
        refine g_sub [0, 1, 2, 3, 4, 5] (lv' := [(0, .ref 81), (1, .int y1), (2, .int y2), (3, .long y3), (5, .int y5), (8, .int y8)]) rfl ?_
        exact hj13 _ _ h
      refine g_icmp_ne (tgt := 149) dX10_watch_102 (by decide) (fun c21 => ?_) (fun c21 => ?_)
      · replace h := ite_n c21 h
        refine g_sub [0, 1, 2, 3, 4, 6] (lv' := [(0, .ref 81), (1, .int y1), (2, .int y2), (3, .long y3), (5, .int y5), (8, .int y8)]) rfl ?_
        exact hj15  _ h
      · replace h := ite_p c21 h
        refine g_aload_n dX10_watch_105 rfl 0 rfl ?_
        refine m_getr (k := 17) okX10 rfl rfl (by decide) w_1286 rfl dX10_watch_106 ?_
        refine g_bipush (v := (nI 9)) dX10_watch_109 (by decide) ?_
        refine g_iload dX10_watch_111 6 rfl ?_
        refine g_iadd dX10_watch_113 ?_
        obtain ⟨hz, h⟩ := gd_s h
        refine m_iald rfl hz dX10_watch_114 ?_
        refine g_aload_n dX10_watch_115 rfl 0 rfl ?_
        refine m_getr (k := 15) okX10 rfl rfl (by decide) w_1284 rfl dX10_watch_116 ?_
        refine g_iconst (v := (nI 0)) dX10_watch_119 (by decide) ?_
        refine m_ialdL (k := 0) rfl rfl (by decide) dX10_watch_120 ?_
        refine g_icmp_ge (tgt := 149) dX10_watch_121 (by decide) (fun c20 => ?_) (fun c20 => ?_)
        · replace h := ite_p c20 h
          refine g_sub [0, 1, 2, 3, 4, 6] (lv' := [(0, .ref 81), (1, .int y1), (2, .int y2), (3, .long y3), (5, .int y5), (8, .int y8)]) rfl ?_
          exact hj15  _ h
        · replace h := ite_n c20 h
          refine g_aload_n dX10_watch_124 rfl 0 rfl ?_
          refine g_iload dX10_watch_125 6 rfl ?_
          refine g_aload_n dX10_watch_127 rfl 0 rfl ?_
          refine m_getr (k := 17) okX10 rfl rfl (by decide) w_1286 rfl dX10_watch_128 ?_
          refine g_bipush (v := (nI 9)) dX10_watch_131 (by decide) ?_
          refine g_iload dX10_watch_133 6 rfl ?_
          refine g_iadd dX10_watch_135 ?_
          obtain ⟨hz, h⟩ := gd_s h
          refine m_iald rfl hz dX10_watch_136 ?_
          refine g_aload_n dX10_watch_137 rfl 0 rfl ?_
          refine g_iload dX10_watch_138 6 rfl ?_
          obtain ⟨v140_17, M140_16, eM140_16, h⟩ := bd_e h
          refine m_callVi (As := [.int y8]) (st := [.int (M 86 ((nI 9) + y8).toNatClampNeg), .int y8, .ref 81, .long y6]) (s_X10_means (d := d + 0) hA  eM140_16) rfl okX10 ck_X10_means w_1708 rfl (Nat.le_of_ble_eq_true rfl) dX10_watch_140 ?_
          obtain ⟨v143_19, M143_18, eM143_18, h⟩ := bd_e h
          refine m_callVl (As := [.int y8, .int (M 86 ((nI 9) + y8).toNatClampNeg), .int v140_17]) (st := [.long y6]) (s_X10_risks (d := d + 0) hA  eM143_18) rfl okX10 ck_X10_risks w_1645 rfl (Nat.le_of_ble_eq_true rfl) dX10_watch_143 ?_
          refine g_goto (tgt := 150) dX10_watch_146 (by decide) ?_
          refine g_sub [0, 1, 2, 3, 4, 6] (lv' := [(0, .ref 81), (1, .int y1), (2, .int y2), (3, .long y3), (5, .int y5), (8, .int y8)]) rfl ?_
          exact hj13 _ _ h
set_option maxHeartbeats 4000000 in
set_option maxRecDepth 100000 in
theorem sl_X10_watch_48 {l : Launch} {B : BT} (hA : bA B = false) {d : Nat} {r : Int32} {M' : Mm} {y1 : Int32}    :
    ∀ (n : Nat) (y2 : Int32) (y3 : Int64) (y5 : Int32) (M : Mm), lp_X10_watch_48 y1 n y2 y3 y5 M = some (r, M') → GG l B LY (d + 4) yX10_watch cX10_watch 9 (some .int) 0 0 (PI r M') 97 0 0 48 [(0, .ref 81), (1, .int y1), (2, .int y2), (3, .long y3), (5, .int y5)] [] M := by
  intro n
  induction n with
  | zero => intro y2 y3 y5 M h; cases h
  | succ n ih =>
    intro y2 y3 y5 M h
    rw [lp_X10_watch_48] at h
    refine g_iload dX10_watch_48 4 rfl ?_
    refine g_iconst (v := (nI 1)) dX10_watch_50 (by decide) ?_
    refine g_aload_n dX10_watch_51 rfl 0 rfl ?_
    refine m_getr (k := 15) okX10 rfl rfl (by decide) w_1284 rfl dX10_watch_52 ?_
    refine g_bipush (v := (nI 95)) dX10_watch_55 (by decide) ?_
    refine m_ialdL (k := 95) rfl rfl (by decide) dX10_watch_57 ?_
    refine g_ishl dX10_watch_58 ?_
    refine g_icmp_ge (tgt := 185) dX10_watch_59 (by decide) (fun c30 => ?_) (fun c30 => ?_)
    · replace h := ite_p c30 h
      refine g_iload_n dX10_watch_185 rfl 2 rfl ?_
      exact g_zret rfl rfl (pi_of h) dX10_watch_186
    · replace h := ite_n c30 h
      refine g_iload dX10_watch_62 4 rfl ?_
      obtain ⟨v64_6, M64_5, eM64_5, h⟩ := bd_e h
      refine m_callSi (As := [.int y5]) (st := []) (s_X10_count (d := d + 3) hA  eM64_5) ck_X10_count w_1705 rfl (Nat.le_of_ble_eq_true rfl) dX10_watch_64 ?_
      refine g_iload_n dX10_watch_67 rfl 1 rfl ?_
      obtain ⟨j10, ej10, h⟩ := jn_e h
      have hj10 : ∀ (u7 : Int32) (u8 : Int64) (M9 : Mm), j10 u7 u8 M9 = some (r, M') → GG l B LY (d + 4) yX10_watch cX10_watch 9 (some .int) 0 0 (PI r M') 97 0 0 179 [(0, .ref 81), (1, .int y1), (2, .int u7), (3, .long u8), (5, .int y5)] [] M9 := by
        intro u7 u8 M9 h
        rw [ej10] at h
        refine g_iinc (v := (y5 + (nI 1))) (lv' := [(5, .int (y5 + (nI 1))), (0, .ref 81), (1, .int y1), (2, .int u7), (3, .long u8)]) dX10_watch_179 4 rfl rfl (by decide) rfl ?_
        refine g_goto (tgt := 48) dX10_watch_182 (by decide) ?_
        refine g_sub [1, 2, 3, 4, 0] (lv' := [(0, .ref 81), (1, .int y1), (2, .int u7), (3, .long u8), (5, .int (y5 + (nI 1)))]) rfl ?_
        exact ih _ _ _  _ h
      refine g_icmp_eq (tgt := 74) dX10_watch_68 (by decide) (fun c29 => ?_) (fun c29 => ?_)
      · replace h := ite_p c29 h
        refine g_lconst (v := 0) dX10_watch_74 (by decide) ?_
        refine g_lstore (lv' := [(6, .long (0 : Int64)), (0, .ref 81), (1, .int y1), (2, .int y2), (3, .long y3), (5, .int y5)]) dX10_watch_75 (by decide) rfl ?_
        refine g_iconst (v := (nI 0)) dX10_watch_77 (by decide) ?_
        refine g_istore (lv' := [(8, .int (nI 0)), (6, .long (0 : Int64)), (0, .ref 81), (1, .int y1), (2, .int y2), (3, .long y3), (5, .int y5)]) dX10_watch_78 (by decide) rfl ?_
        refine g_sub [2, 3, 4, 5, 6, 1, 0] (lv' := [(0, .ref 81), (1, .int y1), (2, .int y2), (3, .long y3), (5, .int y5), (6, .long (0 : Int64)), (8, .int (nI 0))]) rfl ?_
        refine sl_X10_watch_80 hA  ?_ _ _ _ _ h
        · intro u23 M24 h
          refine g_iload_n dX10_watch_159 rfl 2 rfl ?_
          obtain ⟨j26, ej26, h⟩ := jn_e h
          have hj26 : ∀ (M25 : Mm), j26 M25 = some (r, M') → GG l B LY (d + 4) yX10_watch cX10_watch 9 (some .int) 0 0 (PI r M') 97 0 0 173 [(0, .ref 81), (1, .int y1), (5, .int y5), (6, .long u23)] [] M25 := by
            intro M25 h
            rw [ej26] at h
            refine g_iload dX10_watch_173 2 rfl ?_
            refine g_istore_n (lv' := [(2, .int y5), (0, .ref 81), (1, .int y1), (5, .int y5), (6, .long u23)]) dX10_watch_175 rfl (by decide) rfl ?_
            refine g_lload dX10_watch_176 4 rfl ?_
            refine g_lstore_n (lv' := [(3, .long u23), (2, .int y5), (0, .ref 81), (1, .int y1), (5, .int y5), (6, .long u23)]) dX10_watch_178 rfl (by decide) rfl ?_
            refine g_sub [2, 3, 1, 0, 4] (lv' := [(0, .ref 81), (1, .int y1), (2, .int y5), (3, .long u23), (5, .int y5)]) rfl ?_
            exact hj10 _ _ _ h
          refine g_if_lt (tgt := 173) dX10_watch_160 (by decide) (fun c28 => ?_) (fun c28 => ?_)
          · replace h := ite_p c28 h
            refine g_sub [0, 1, 4, 5] (lv' := [(0, .ref 81), (1, .int y1), (5, .int y5), (6, .long u23)]) rfl ?_
            exact hj26  _ h
          · replace h := ite_n c28 h
            refine g_lload dX10_watch_163 5 rfl ?_
            refine g_lload_n dX10_watch_165 rfl 3 rfl ?_
            refine g_lcmp dX10_watch_166 ?_
            refine g_if_gt (tgt := 173) dX10_watch_167 (by decide) (fun c27 => ?_) (fun c27 => ?_)
            · replace h := ite_p c27 h
              refine g_sub [0, 1, 4, 5] (lv' := [(0, .ref 81), (1, .int y1), (5, .int y5), (6, .long u23)]) rfl ?_
              exact hj26  _ h
            · replace h := ite_n c27 h
              refine g_goto (tgt := 179) dX10_watch_170 (by decide) ?_
              refine g_sub [0, 1, 2, 3, 4] (lv' := [(0, .ref 81), (1, .int y1), (2, .int y2), (3, .long y3), (5, .int y5)]) rfl ?_
              exact hj10 _ _ _ h
      · replace h := ite_n c29 h
        refine g_goto (tgt := 179) dX10_watch_71 (by decide) ?_
        refine g_sub [0, 1, 2, 3, 4] (lv' := [(0, .ref 81), (1, .int y1), (2, .int y2), (3, .long y3), (5, .int y5)]) rfl ?_
        exact hj10 _ _ _ h
set_option maxHeartbeats 4000000 in
set_option maxRecDepth 100000 in
theorem s_X10_watch {l : Launch} {B : BT} (hA : bA B = false) {d : Nat} {r : Int32} {M' : Mm}  {M : Mm}  (h : f_X10_watch  M = some (r, M')) : Con l B LY (d + 4) yX10_watch cX10_watch 9 (some .int) 0 0 [.ref 81] 97 M (PI r M') := by
  refine con_of (by decide) (Nat.le_of_ble_eq_true rfl) ?_
  show GG l B LY (d + 4) yX10_watch cX10_watch 9 (some .int) 0 0 (PI r M') 97 0 0 0 [(0, .ref 81)] [] M
  rw [f_X10_watch] at h
  refine g_aload_n dX10_watch_0 rfl 0 rfl ?_
  obtain ⟨M1_1, eM1_1, h⟩ := bv_e h
  refine m_callVv (As := []) (st := []) (s_X10_good (d := d + 3) hA  eM1_1) rfl okX10 ck_X10_good w_1381 rfl (Nat.le_of_ble_eq_true rfl) dX10_watch_1 ?_
  refine g_aload_n dX10_watch_4 rfl 0 rfl ?_
  refine m_geti (k := 14) okX10 rfl rfl (by decide) w_1283 rfl dX10_watch_5 ?_
  refine g_if_ne (tgt := 17) dX10_watch_8 (by decide) (fun c33 => ?_) (fun c33 => ?_)
  · replace h := ite_n c33 h
    refine g_aload_n dX10_watch_17 rfl 0 rfl ?_
    refine m_getr (k := 15) okX10 rfl rfl (by decide) w_1284 rfl dX10_watch_18 ?_
    refine g_bipush (v := (nI 95)) dX10_watch_21 (by decide) ?_
    refine m_ialdL (k := 95) rfl rfl (by decide) dX10_watch_23 ?_
    refine g_aload_n dX10_watch_24 rfl 0 rfl ?_
    refine m_getr (k := 15) okX10 rfl rfl (by decide) w_1284 rfl dX10_watch_25 ?_
    refine g_iconst (v := (nI 3)) dX10_watch_28 (by decide) ?_
    refine m_ialdL (k := 3) rfl rfl (by decide) dX10_watch_29 ?_
    refine g_aload_n dX10_watch_30 rfl 0 rfl ?_
    refine m_getr (k := 15) okX10 rfl rfl (by decide) w_1284 rfl dX10_watch_31 ?_
    refine g_iconst (v := (nI 4)) dX10_watch_34 (by decide) ?_
    refine m_ialdL (k := 4) rfl rfl (by decide) dX10_watch_35 ?_
    obtain ⟨hz, h⟩ := gd_s h
    refine g_idiv dX10_watch_36 (nzi_s hz) ?_
    obtain ⟨v37_4, M37_3, eM37_3, h⟩ := bd_e h
    refine m_callSi (As := [.int (M1_1 84 95), .int ((M1_1 84 3) / (M1_1 84 4))]) (st := []) (s_X10_less (d := d + 3) hA  eM37_3) ck_X10_less w_1657 rfl (Nat.le_of_ble_eq_true rfl) dX10_watch_37 ?_
    refine g_istore_n (lv' := [(1, .int v37_4), (0, .ref 81)]) dX10_watch_40 rfl (by decide) rfl ?_
    refine g_iconst (v := (-1 : Int32)) dX10_watch_41 (by decide) ?_
    refine g_istore_n (lv' := [(2, .int (-1 : Int32)), (1, .int v37_4), (0, .ref 81)]) dX10_watch_42 rfl (by decide) rfl ?_
    refine g_lconst (v := 0) dX10_watch_43 (by decide) ?_
    refine g_lstore_n (lv' := [(3, .long (0 : Int64)), (2, .int (-1 : Int32)), (1, .int v37_4), (0, .ref 81)]) dX10_watch_44 rfl (by decide) rfl ?_
    refine g_iconst (v := (nI 0)) dX10_watch_45 (by decide) ?_
    refine g_istore (lv' := [(5, .int (nI 0)), (3, .long (0 : Int64)), (2, .int (-1 : Int32)), (1, .int v37_4), (0, .ref 81)]) dX10_watch_46 (by decide) rfl ?_
    refine g_sub [4, 3, 2, 1, 0] (lv' := [(0, .ref 81), (1, .int v37_4), (2, .int (-1 : Int32)), (3, .long (0 : Int64)), (5, .int (nI 0))]) rfl ?_
    refine sl_X10_watch_48 hA   _ _ _ _ _ h
  · replace h := ite_p c33 h
    refine g_aload_n dX10_watch_11 rfl 0 rfl ?_
    refine g_iconst (v := (nI 1)) dX10_watch_12 (by decide) ?_
    obtain ⟨v13_32, M13_31, eM13_31, h⟩ := bd_e h
    refine m_callVi (As := [.int (nI 1)]) (st := []) (s_X10_no (d := d + 3) hA  eM13_31) rfl okX10 ck_X10_no w_1388 rfl (Nat.le_of_ble_eq_true rfl) dX10_watch_13 ?_
    exact g_zret rfl rfl (pi_of h) dX10_watch_16
theorem ck_X10_watch : CKV yX10_watch cX10_watch 9 (some .int) 0 := ⟨⟨by decide, by decide, by decide +kernel⟩, w_1704, w_81, ⟨w_1702, w_1703⟩, by decide⟩
theorem dX10_both_0 : decode cX10_both 0 = .ok (.aload_n 0, 1) := by decide +kernel
theorem dX10_both_1 : decode cX10_both 1 = .ok (.invokevirtual 156, 3) := by decide +kernel
theorem dX10_both_4 : decode cX10_both 4 = .ok (.aload_n 0, 1) := by decide +kernel
theorem dX10_both_5 : decode cX10_both 5 = .ok (.getfield 165, 3) := by decide +kernel
theorem dX10_both_8 : decode cX10_both 8 = .ok (.ifCond .ne 10, 3) := by decide +kernel
theorem dX10_both_11 : decode cX10_both 11 = .ok (.aload_n 0, 1) := by decide +kernel
theorem dX10_both_12 : decode cX10_both 12 = .ok (.iconst 1, 1) := by decide +kernel
theorem dX10_both_13 : decode cX10_both 13 = .ok (.invokevirtual 159, 3) := by decide +kernel
theorem dX10_both_16 : decode cX10_both 16 = .ok (.i2l, 1) := by decide +kernel
theorem dX10_both_17 : decode cX10_both 17 = .ok (.lreturn, 1) := by decide +kernel
theorem dX10_both_18 : decode cX10_both 18 = .ok (.iload_n 1, 1) := by decide +kernel
theorem dX10_both_19 : decode cX10_both 19 = .ok (.iconst 0, 1) := by decide +kernel
theorem dX10_both_20 : decode cX10_both 20 = .ok (.aload_n 0, 1) := by decide +kernel
theorem dX10_both_21 : decode cX10_both 21 = .ok (.getfield 20, 3) := by decide +kernel
theorem dX10_both_24 : decode cX10_both 24 = .ok (.bipush 92, 2) := by decide +kernel
theorem dX10_both_26 : decode cX10_both 26 = .ok (.iaload, 1) := by decide +kernel
theorem dX10_both_27 : decode cX10_both 27 = .ok (.invokestatic 144, 3) := by decide +kernel
theorem dX10_both_30 : decode cX10_both 30 = .ok (.ifCond .ne 10, 3) := by decide +kernel
theorem dX10_both_33 : decode cX10_both 33 = .ok (.aload_n 0, 1) := by decide +kernel
theorem dX10_both_34 : decode cX10_both 34 = .ok (.iconst 2, 1) := by decide +kernel
theorem dX10_both_35 : decode cX10_both 35 = .ok (.invokevirtual 159, 3) := by decide +kernel
theorem dX10_both_38 : decode cX10_both 38 = .ok (.i2l, 1) := by decide +kernel
theorem dX10_both_39 : decode cX10_both 39 = .ok (.lreturn, 1) := by decide +kernel
theorem dX10_both_40 : decode cX10_both 40 = .ok (.iload_n 1, 1) := by decide +kernel
theorem dX10_both_41 : decode cX10_both 41 = .ok (.aload_n 0, 1) := by decide +kernel
theorem dX10_both_42 : decode cX10_both 42 = .ok (.getfield 20, 3) := by decide +kernel
theorem dX10_both_45 : decode cX10_both 45 = .ok (.bipush 92, 2) := by decide +kernel
theorem dX10_both_47 : decode cX10_both 47 = .ok (.iaload, 1) := by decide +kernel
theorem dX10_both_48 : decode cX10_both 48 = .ok (.if_icmp .ne 7, 3) := by decide +kernel
theorem dX10_both_51 : decode cX10_both 51 = .ok (.lconst 0, 1) := by decide +kernel
theorem dX10_both_52 : decode cX10_both 52 = .ok (.goto 4, 3) := by decide +kernel
theorem dX10_both_55 : decode cX10_both 55 = .ok (.lconst 1, 1) := by decide +kernel
theorem dX10_both_56 : decode cX10_both 56 = .ok (.lstore_n 2, 1) := by decide +kernel
theorem dX10_both_57 : decode cX10_both 57 = .ok (.iconst 0, 1) := by decide +kernel
theorem dX10_both_58 : decode cX10_both 58 = .ok (.istore 4, 2) := by decide +kernel
theorem dX10_both_60 : decode cX10_both 60 = .ok (.iload 4, 2) := by decide +kernel
theorem dX10_both_62 : decode cX10_both 62 = .ok (.aload_n 0, 1) := by decide +kernel
theorem dX10_both_63 : decode cX10_both 63 = .ok (.getfield 20, 3) := by decide +kernel
theorem dX10_both_66 : decode cX10_both 66 = .ok (.bipush 92, 2) := by decide +kernel
theorem dX10_both_68 : decode cX10_both 68 = .ok (.iaload, 1) := by decide +kernel
theorem dX10_both_69 : decode cX10_both 69 = .ok (.iconst 1, 1) := by decide +kernel
theorem dX10_both_70 : decode cX10_both 70 = .ok (.isub, 1) := by decide +kernel
theorem dX10_both_71 : decode cX10_both 71 = .ok (.if_icmp .ge 38, 3) := by decide +kernel
theorem dX10_both_74 : decode cX10_both 74 = .ok (.lload_n 2, 1) := by decide +kernel
theorem dX10_both_75 : decode cX10_both 75 = .ok (.iload 4, 2) := by decide +kernel
theorem dX10_both_77 : decode cX10_both 77 = .ok (.iload_n 1, 1) := by decide +kernel
theorem dX10_both_78 : decode cX10_both 78 = .ok (.if_icmp .ge 20, 3) := by decide +kernel
theorem dX10_both_81 : decode cX10_both 81 = .ok (.bipush 100, 2) := by decide +kernel
theorem dX10_both_83 : decode cX10_both 83 = .ok (.aload_n 0, 1) := by decide +kernel
theorem dX10_both_84 : decode cX10_both 84 = .ok (.getfield 20, 3) := by decide +kernel
theorem dX10_both_87 : decode cX10_both 87 = .ok (.bipush 6, 2) := by decide +kernel
theorem dX10_both_89 : decode cX10_both 89 = .ok (.iload 4, 2) := by decide +kernel
theorem dX10_both_91 : decode cX10_both 91 = .ok (.iadd, 1) := by decide +kernel
theorem dX10_both_92 : decode cX10_both 92 = .ok (.iaload, 1) := by decide +kernel
theorem dX10_both_93 : decode cX10_both 93 = .ok (.isub, 1) := by decide +kernel
theorem dX10_both_94 : decode cX10_both 94 = .ok (.i2l, 1) := by decide +kernel
theorem dX10_both_95 : decode cX10_both 95 = .ok (.goto 6, 3) := by decide +kernel
theorem dX10_both_98 : decode cX10_both 98 = .ok (.ldc2_w 290, 3) := by decide +kernel
theorem dX10_both_101 : decode cX10_both 101 = .ok (.lmul, 1) := by decide +kernel
theorem dX10_both_102 : decode cX10_both 102 = .ok (.lstore_n 2, 1) := by decide +kernel
theorem dX10_both_103 : decode cX10_both 103 = .ok (.iinc 4 1, 3) := by decide +kernel
theorem dX10_both_106 : decode cX10_both 106 = .ok (.goto (-46), 3) := by decide +kernel
theorem dX10_both_109 : decode cX10_both 109 = .ok (.lload_n 2, 1) := by decide +kernel
theorem dX10_both_110 : decode cX10_both 110 = .ok (.lload_n 2, 1) := by decide +kernel
theorem dX10_both_111 : decode cX10_both 111 = .ok (.lmul, 1) := by decide +kernel
theorem dX10_both_112 : decode cX10_both 112 = .ok (.lreturn, 1) := by decide +kernel
def lp_X10_both_60 (y1 : Int32) (k109 : Int64 → Mm → Option (Int64 × Mm)) : Nat → Int64 → Int32 → Mm → Option (Int64 × Mm)
  | 0, _, _, _ => none
  | n + 1, y2, y4, M =>
    if ((M 84 92) - (nI 1)) ≤ y4 then (k109 y2 M) else (jn (fun (s8 : Int64) (M9 : Mm) => lp_X10_both_60 y1 k109 n (y2 * s8) (y4 + (nI 1)) M9) fun j10 => if y1 ≤ y4 then (j10 (100 : Int64) M) else (gd (inb ((nI 6) + y4) 141) <| j10 ((nI 100) - (M 84 ((nI 6) + y4).toNatClampNeg)).toInt64 M))
def f_X10_both (x1 : Int32) (M : Mm) : Option (Int64 × Mm) :=
  bv (f_X10_good  M) fun M1_1 => if (M1_1 81 14) = 0 then (bd (f_X10_no (nI 1) M1_1) fun v13_20 M13_19 => some (v13_20.toInt64, M13_19)) else (bd (f_X10_within x1 (nI 0) (M1_1 84 92) M1_1) fun v27_4 M27_3 => if v27_4 = 0 then (bd (f_X10_no (nI 2) M27_3) fun v35_17 M35_16 => some (v35_17.toInt64, M35_16)) else (jn (fun (s5 : Int64) (M6 : Mm) => lp_X10_both_60 x1 (fun (u13 : Int64) (M14 : Mm) => some ((u13 * u13), M14)) N0 s5 (nI 0) M6) fun j7 => if x1 = (M27_3 84 92) then (j7 (0 : Int64) M27_3) else (j7 (1 : Int64) M27_3)))
set_option maxHeartbeats 4000000 in
set_option maxRecDepth 100000 in
theorem sl_X10_both_60 {l : Launch} {B : BT} (hA : bA B = false) {d : Nat} {r : Int64} {M' : Mm} {y1 : Int32}  {k109 : Int64 → Mm → Option (Int64 × Mm)} (hk109 : ∀ (z2 : Int64) (M9 : Mm), k109 z2 M9 = some (r, M') → GG l B LY (d + 1) yX10_both cX10_both 5 (some .long) 0 0 (PL r M') 97 0 0 109 [(2, .long z2)] [] M9) :
    ∀ (n : Nat) (y2 : Int64) (y4 : Int32) (M : Mm), lp_X10_both_60 y1 k109 n y2 y4 M = some (r, M') → GG l B LY (d + 1) yX10_both cX10_both 5 (some .long) 0 0 (PL r M') 97 0 0 60 [(0, .ref 81), (1, .int y1), (2, .long y2), (4, .int y4)] [] M := by
  intro n
  induction n with
  | zero => intro y2 y4 M h; cases h
  | succ n ih =>
    intro y2 y4 M h
    rw [lp_X10_both_60] at h
    refine g_iload dX10_both_60 3 rfl ?_
    refine g_aload_n dX10_both_62 rfl 0 rfl ?_
    refine m_getr (k := 15) okX10 rfl rfl (by decide) w_1284 rfl dX10_both_63 ?_
    refine g_bipush (v := (nI 92)) dX10_both_66 (by decide) ?_
    refine m_ialdL (k := 92) rfl rfl (by decide) dX10_both_68 ?_
    refine g_iconst (v := (nI 1)) dX10_both_69 (by decide) ?_
    refine g_isub dX10_both_70 ?_
    refine g_icmp_ge (tgt := 109) dX10_both_71 (by decide) (fun c12 => ?_) (fun c12 => ?_)
    · replace h := ite_p c12 h
      refine g_sub [2] (lv' := [(2, .long y2)]) rfl ?_
      exact hk109 _ _ h
    · replace h := ite_n c12 h
      refine g_lload_n dX10_both_74 rfl 2 rfl ?_
      refine g_iload dX10_both_75 3 rfl ?_
      refine g_iload_n dX10_both_77 rfl 1 rfl ?_
      obtain ⟨j10, ej10, h⟩ := jn_e h
      have hj10 : ∀ (s8 : Int64) (M9 : Mm), j10 s8 M9 = some (r, M') → GG l B LY (d + 1) yX10_both cX10_both 5 (some .long) 0 0 (PL r M') 97 0 0 101 [(0, .ref 81), (1, .int y1), (4, .int y4)] [.long s8, .long y2] M9 := by
        intro s8 M9 h
        rw [ej10] at h
        refine g_lmul dX10_both_101 ?_
        refine g_lstore_n (lv' := [(2, .long (y2 * s8)), (0, .ref 81), (1, .int y1), (4, .int y4)]) dX10_both_102 rfl (by decide) rfl ?_
        refine g_iinc (v := (y4 + (nI 1))) (lv' := [(4, .int (y4 + (nI 1))), (2, .long (y2 * s8)), (0, .ref 81), (1, .int y1)]) dX10_both_103 3 rfl rfl (by decide) rfl ?_
        refine g_goto (tgt := 60) dX10_both_106 (by decide) ?_
        refine g_sub [2, 3, 1, 0] (lv' := [(0, .ref 81), (1, .int y1), (2, .long (y2 * s8)), (4, .int (y4 + (nI 1)))]) rfl ?_
        exact ih _ _  _ h
      refine g_icmp_ge (tgt := 98) dX10_both_78 (by decide) (fun c11 => ?_) (fun c11 => ?_)
      · replace h := ite_p c11 h
        refine g_ldc2 (v := 100) w_1620 dX10_both_98 ?_
        refine g_sub [0, 1, 3] (lv' := [(0, .ref 81), (1, .int y1), (4, .int y4)]) rfl ?_
        exact hj10 _ _ h
      · replace h := ite_n c11 h
        refine g_bipush (v := (nI 100)) dX10_both_81 (by decide) ?_
        refine g_aload_n dX10_both_83 rfl 0 rfl ?_
        refine m_getr (k := 15) okX10 rfl rfl (by decide) w_1284 rfl dX10_both_84 ?_
        refine g_bipush (v := (nI 6)) dX10_both_87 (by decide) ?_
        refine g_iload dX10_both_89 3 rfl ?_
        refine g_iadd dX10_both_91 ?_
        obtain ⟨hz, h⟩ := gd_s h
        refine m_iald rfl hz dX10_both_92 ?_
        refine g_isub dX10_both_93 ?_
        refine g_i2l dX10_both_94 ?_
        refine g_goto (tgt := 101) dX10_both_95 (by decide) ?_
        refine g_sub [0, 1, 3] (lv' := [(0, .ref 81), (1, .int y1), (4, .int y4)]) rfl ?_
        exact hj10 _ _ h
set_option maxHeartbeats 4000000 in
set_option maxRecDepth 100000 in
theorem s_X10_both {l : Launch} {B : BT} (hA : bA B = false) {d : Nat} {r : Int64} {M' : Mm} {x1 : Int32} {M : Mm}  (h : f_X10_both x1 M = some (r, M')) : Con l B LY (d + 1) yX10_both cX10_both 5 (some .long) 0 0 [.ref 81, .int x1] 97 M (PL r M') := by
  refine con_of (by decide) (Nat.le_of_ble_eq_true rfl) ?_
  show GG l B LY (d + 1) yX10_both cX10_both 5 (some .long) 0 0 (PL r M') 97 0 0 0 [(0, .ref 81), (1, .int x1)] [] M
  rw [f_X10_both] at h
  refine g_aload_n dX10_both_0 rfl 0 rfl ?_
  obtain ⟨M1_1, eM1_1, h⟩ := bv_e h
  refine m_callVv (As := []) (st := []) (s_X10_good (d := d + 0) hA  eM1_1) rfl okX10 ck_X10_good w_1381 rfl (Nat.le_of_ble_eq_true rfl) dX10_both_1 ?_
  refine g_aload_n dX10_both_4 rfl 0 rfl ?_
  refine m_geti (k := 14) okX10 rfl rfl (by decide) w_1283 rfl dX10_both_5 ?_
  refine g_if_ne (tgt := 18) dX10_both_8 (by decide) (fun c21 => ?_) (fun c21 => ?_)
  · replace h := ite_n c21 h
    refine g_iload_n dX10_both_18 rfl 1 rfl ?_
    refine g_iconst (v := (nI 0)) dX10_both_19 (by decide) ?_
    refine g_aload_n dX10_both_20 rfl 0 rfl ?_
    refine m_getr (k := 15) okX10 rfl rfl (by decide) w_1284 rfl dX10_both_21 ?_
    refine g_bipush (v := (nI 92)) dX10_both_24 (by decide) ?_
    refine m_ialdL (k := 92) rfl rfl (by decide) dX10_both_26 ?_
    obtain ⟨v27_4, M27_3, eM27_3, h⟩ := bd_e h
    refine m_callSi (As := [.int x1, .int (nI 0), .int (M1_1 84 92)]) (st := []) (s_X10_within (d := d + 0) hA  eM27_3) ck_X10_within w_1385 rfl (Nat.le_of_ble_eq_true rfl) dX10_both_27 ?_
    refine g_if_ne (tgt := 40) dX10_both_30 (by decide) (fun c18 => ?_) (fun c18 => ?_)
    · replace h := ite_n c18 h
      refine g_iload_n dX10_both_40 rfl 1 rfl ?_
      refine g_aload_n dX10_both_41 rfl 0 rfl ?_
      refine m_getr (k := 15) okX10 rfl rfl (by decide) w_1284 rfl dX10_both_42 ?_
      refine g_bipush (v := (nI 92)) dX10_both_45 (by decide) ?_
      refine m_ialdL (k := 92) rfl rfl (by decide) dX10_both_47 ?_
      obtain ⟨j7, ej7, h⟩ := jn_e h
      have hj7 : ∀ (s5 : Int64) (M6 : Mm), j7 s5 M6 = some (r, M') → GG l B LY (d + 1) yX10_both cX10_both 5 (some .long) 0 0 (PL r M') 97 0 0 56 [(0, .ref 81), (1, .int x1)] [.long s5] M6 := by
        intro s5 M6 h
        rw [ej7] at h
        refine g_lstore_n (lv' := [(2, .long s5), (0, .ref 81), (1, .int x1)]) dX10_both_56 rfl (by decide) rfl ?_
        refine g_iconst (v := (nI 0)) dX10_both_57 (by decide) ?_
        refine g_istore (lv' := [(4, .int (nI 0)), (2, .long s5), (0, .ref 81), (1, .int x1)]) dX10_both_58 (by decide) rfl ?_
        refine g_sub [2, 3, 1, 0] (lv' := [(0, .ref 81), (1, .int x1), (2, .long s5), (4, .int (nI 0))]) rfl ?_
        refine sl_X10_both_60 hA  ?_ _ _ _ _ h
        · intro u13 M14 h
          refine g_lload_n dX10_both_109 rfl 0 rfl ?_
          refine g_lload_n dX10_both_110 rfl 0 rfl ?_
          refine g_lmul dX10_both_111 ?_
          exact g_lret rfl (pl_of h) dX10_both_112
      refine g_icmp_ne (tgt := 55) dX10_both_48 (by decide) (fun c15 => ?_) (fun c15 => ?_)
      · replace h := ite_n c15 h
        refine g_lconst (v := 1) dX10_both_55 (by decide) ?_
        refine g_sub [0, 1] (lv' := [(0, .ref 81), (1, .int x1)]) rfl ?_
        exact hj7 _ _ h
      · replace h := ite_p c15 h
        refine g_lconst (v := 0) dX10_both_51 (by decide) ?_
        refine g_goto (tgt := 56) dX10_both_52 (by decide) ?_
        refine g_sub [0, 1] (lv' := [(0, .ref 81), (1, .int x1)]) rfl ?_
        exact hj7 _ _ h
    · replace h := ite_p c18 h
      refine g_aload_n dX10_both_33 rfl 0 rfl ?_
      refine g_iconst (v := (nI 2)) dX10_both_34 (by decide) ?_
      obtain ⟨v35_17, M35_16, eM35_16, h⟩ := bd_e h
      refine m_callVi (As := [.int (nI 2)]) (st := []) (s_X10_no (d := d + 0) hA  eM35_16) rfl okX10 ck_X10_no w_1388 rfl (Nat.le_of_ble_eq_true rfl) dX10_both_35 ?_
      refine g_i2l dX10_both_38 ?_
      exact g_lret rfl (pl_of h) dX10_both_39
  · replace h := ite_p c21 h
    refine g_aload_n dX10_both_11 rfl 0 rfl ?_
    refine g_iconst (v := (nI 1)) dX10_both_12 (by decide) ?_
    obtain ⟨v13_20, M13_19, eM13_19, h⟩ := bd_e h
    refine m_callVi (As := [.int (nI 1)]) (st := []) (s_X10_no (d := d + 0) hA  eM13_19) rfl okX10 ck_X10_no w_1388 rfl (Nat.le_of_ble_eq_true rfl) dX10_both_13 ?_
    refine g_i2l dX10_both_16 ?_
    exact g_lret rfl (pl_of h) dX10_both_17
theorem ck_X10_both : CKV yX10_both cX10_both 5 (some .long) 1 := ⟨⟨by decide, by decide, by decide +kernel⟩, w_1715, w_81, ⟨w_1713, w_1714⟩, by decide⟩
theorem dX10_playWhy_0 : decode cX10_playWhy 0 = .ok (.aload_n 0, 1) := by decide +kernel
theorem dX10_playWhy_1 : decode cX10_playWhy 1 = .ok (.getfield 165, 3) := by decide +kernel
theorem dX10_playWhy_4 : decode cX10_playWhy 4 = .ok (.ifCond .ne 7, 3) := by decide +kernel
theorem dX10_playWhy_7 : decode cX10_playWhy 7 = .ok (.iconst 1, 1) := by decide +kernel
theorem dX10_playWhy_8 : decode cX10_playWhy 8 = .ok (.goto 29, 3) := by decide +kernel
theorem dX10_playWhy_11 : decode cX10_playWhy 11 = .ok (.iload_n 1, 1) := by decide +kernel
theorem dX10_playWhy_12 : decode cX10_playWhy 12 = .ok (.iconst 1, 1) := by decide +kernel
theorem dX10_playWhy_13 : decode cX10_playWhy 13 = .ok (.bipush 20, 2) := by decide +kernel
theorem dX10_playWhy_15 : decode cX10_playWhy 15 = .ok (.invokestatic 144, 3) := by decide +kernel
theorem dX10_playWhy_18 : decode cX10_playWhy 18 = .ok (.ifCond .eq 18, 3) := by decide +kernel
theorem dX10_playWhy_21 : decode cX10_playWhy 21 = .ok (.iload_n 2, 1) := by decide +kernel
theorem dX10_playWhy_22 : decode cX10_playWhy 22 = .ok (.iconst 1, 1) := by decide +kernel
theorem dX10_playWhy_23 : decode cX10_playWhy 23 = .ok (.sipush 999, 3) := by decide +kernel
theorem dX10_playWhy_26 : decode cX10_playWhy 26 = .ok (.invokestatic 144, 3) := by decide +kernel
theorem dX10_playWhy_29 : decode cX10_playWhy 29 = .ok (.ifCond .eq 7, 3) := by decide +kernel
theorem dX10_playWhy_32 : decode cX10_playWhy 32 = .ok (.iconst 0, 1) := by decide +kernel
theorem dX10_playWhy_33 : decode cX10_playWhy 33 = .ok (.goto 4, 3) := by decide +kernel
theorem dX10_playWhy_36 : decode cX10_playWhy 36 = .ok (.iconst 2, 1) := by decide +kernel
theorem dX10_playWhy_37 : decode cX10_playWhy 37 = .ok (.ireturn, 1) := by decide +kernel
def f_X10_playWhy (x1 : Int32) (x2 : Int32) (M : Mm) : Option (Int32 × Mm) :=
  if (M 81 14) = 0 then (some ((nI 1), M)) else (bd (f_X10_within x1 (nI 1) (nI 20) M) fun v15_2 M15_1 => jn (fun (M3 : Mm) => some ((nI 2), M3)) fun j4 => if v15_2 = 0 then (j4  M15_1) else (bd (f_X10_within x2 (nI 1) (nI 999) M15_1) fun v26_6 M26_5 => if v26_6 = 0 then (j4  M26_5) else (some ((nI 0), M26_5))))
set_option maxHeartbeats 4000000 in
set_option maxRecDepth 100000 in
theorem s_X10_playWhy {l : Launch} {B : BT} (hA : bA B = false) {d : Nat} {r : Int32} {M' : Mm} {x1 : Int32} {x2 : Int32} {M : Mm}  (h : f_X10_playWhy x1 x2 M = some (r, M')) : Con l B LY (d + 1) yX10_playWhy cX10_playWhy 3 (some .int) 0 0 [.ref 81, .int x1, .int x2] 97 M (PI r M') := by
  refine con_of (by decide) (Nat.le_of_ble_eq_true rfl) ?_
  show GG l B LY (d + 1) yX10_playWhy cX10_playWhy 3 (some .int) 0 0 (PI r M') 97 0 0 0 [(0, .ref 81), (1, .int x1), (2, .int x2)] [] M
  rw [f_X10_playWhy] at h
  refine g_aload_n dX10_playWhy_0 rfl 0 rfl ?_
  refine m_geti (k := 14) okX10 rfl rfl (by decide) w_1283 rfl dX10_playWhy_1 ?_
  refine g_if_ne (tgt := 11) dX10_playWhy_4 (by decide) (fun c9 => ?_) (fun c9 => ?_)
  · replace h := ite_n c9 h
    refine g_iload_n dX10_playWhy_11 rfl 1 rfl ?_
    refine g_iconst (v := (nI 1)) dX10_playWhy_12 (by decide) ?_
    refine g_bipush (v := (nI 20)) dX10_playWhy_13 (by decide) ?_
    obtain ⟨v15_2, M15_1, eM15_1, h⟩ := bd_e h
    refine m_callSi (As := [.int x1, .int (nI 1), .int (nI 20)]) (st := []) (s_X10_within (d := d + 0) hA  eM15_1) ck_X10_within w_1385 rfl (Nat.le_of_ble_eq_true rfl) dX10_playWhy_15 ?_
    obtain ⟨j4, ej4, h⟩ := jn_e h
    have hj4 : ∀ (M3 : Mm), j4 M3 = some (r, M') → GG l B LY (d + 1) yX10_playWhy cX10_playWhy 3 (some .int) 0 0 (PI r M') 97 0 0 36 [] [] M3 := by
      intro M3 h
      rw [ej4] at h
      refine g_iconst (v := (nI 2)) dX10_playWhy_36 (by decide) ?_
      exact g_zret rfl rfl (pi_of h) dX10_playWhy_37
    refine g_if_eq (tgt := 36) dX10_playWhy_18 (by decide) (fun c8 => ?_) (fun c8 => ?_)
    · replace h := ite_p c8 h
      refine g_sub [] (lv' := []) rfl ?_
      exact hj4  _ h
    · replace h := ite_n c8 h
      refine g_iload_n dX10_playWhy_21 rfl 2 rfl ?_
      refine g_iconst (v := (nI 1)) dX10_playWhy_22 (by decide) ?_
      refine g_sipush (v := (nI 999)) dX10_playWhy_23 (by decide) ?_
      obtain ⟨v26_6, M26_5, eM26_5, h⟩ := bd_e h
      refine m_callSi (As := [.int x2, .int (nI 1), .int (nI 999)]) (st := []) (s_X10_within (d := d + 0) hA  eM26_5) ck_X10_within w_1385 rfl (Nat.le_of_ble_eq_true rfl) dX10_playWhy_26 ?_
      refine g_if_eq (tgt := 36) dX10_playWhy_29 (by decide) (fun c7 => ?_) (fun c7 => ?_)
      · replace h := ite_p c7 h
        refine g_sub [] (lv' := []) rfl ?_
        exact hj4  _ h
      · replace h := ite_n c7 h
        refine g_iconst (v := (nI 0)) dX10_playWhy_32 (by decide) ?_
        refine g_goto (tgt := 37) dX10_playWhy_33 (by decide) ?_
        exact g_zret rfl rfl (pi_of h) dX10_playWhy_37
  · replace h := ite_p c9 h
    refine g_iconst (v := (nI 1)) dX10_playWhy_7 (by decide) ?_
    refine g_goto (tgt := 37) dX10_playWhy_8 (by decide) ?_
    exact g_zret rfl rfl (pi_of h) dX10_playWhy_37
theorem ck_X10_playWhy : CKV yX10_playWhy cX10_playWhy 3 (some .int) 2 := ⟨⟨by decide, by decide, by decide +kernel⟩, w_1723, w_81, ⟨w_1722, w_60⟩, by decide⟩
theorem dX10_plays_0 : decode cX10_plays 0 = .ok (.aload_n 0, 1) := by decide +kernel
theorem dX10_plays_1 : decode cX10_plays 1 = .ok (.iconst 3, 1) := by decide +kernel
theorem dX10_plays_2 : decode cX10_plays 2 = .ok (.invokevirtual 284, 3) := by decide +kernel
theorem dX10_plays_5 : decode cX10_plays 5 = .ok (.aload_n 0, 1) := by decide +kernel
theorem dX10_plays_6 : decode cX10_plays 6 = .ok (.getfield 26, 3) := by decide +kernel
theorem dX10_plays_9 : decode cX10_plays 9 = .ok (.bipush 6, 2) := by decide +kernel
theorem dX10_plays_11 : decode cX10_plays 11 = .ok (.iaload, 1) := by decide +kernel
theorem dX10_plays_12 : decode cX10_plays 12 = .ok (.istore_n 3, 1) := by decide +kernel
theorem dX10_plays_13 : decode cX10_plays 13 = .ok (.aload_n 0, 1) := by decide +kernel
theorem dX10_plays_14 : decode cX10_plays 14 = .ok (.iconst 0, 1) := by decide +kernel
theorem dX10_plays_15 : decode cX10_plays 15 = .ok (.putfield 350, 3) := by decide +kernel
theorem dX10_plays_18 : decode cX10_plays 18 = .ok (.aload_n 0, 1) := by decide +kernel
theorem dX10_plays_19 : decode cX10_plays 19 = .ok (.iconst 0, 1) := by decide +kernel
theorem dX10_plays_20 : decode cX10_plays 20 = .ok (.putfield 353, 3) := by decide +kernel
theorem dX10_plays_23 : decode cX10_plays 23 = .ok (.iconst 0, 1) := by decide +kernel
theorem dX10_plays_24 : decode cX10_plays 24 = .ok (.istore 4, 2) := by decide +kernel
theorem dX10_plays_26 : decode cX10_plays 26 = .ok (.iload 4, 2) := by decide +kernel
theorem dX10_plays_28 : decode cX10_plays 28 = .ok (.iload_n 1, 1) := by decide +kernel
theorem dX10_plays_29 : decode cX10_plays 29 = .ok (.if_icmp .ge 148, 3) := by decide +kernel
theorem dX10_plays_32 : decode cX10_plays 32 = .ok (.aload_n 0, 1) := by decide +kernel
theorem dX10_plays_33 : decode cX10_plays 33 = .ok (.iload_n 3, 1) := by decide +kernel
theorem dX10_plays_34 : decode cX10_plays 34 = .ok (.iload 4, 2) := by decide +kernel
theorem dX10_plays_36 : decode cX10_plays 36 = .ok (.iadd, 1) := by decide +kernel
theorem dX10_plays_37 : decode cX10_plays 37 = .ok (.ldc 236, 2) := by decide +kernel
theorem dX10_plays_39 : decode cX10_plays 39 = .ok (.irem, 1) := by decide +kernel
theorem dX10_plays_40 : decode cX10_plays 40 = .ok (.invokevirtual 168, 3) := by decide +kernel
theorem dX10_plays_43 : decode cX10_plays 43 = .ok (.iconst 1, 1) := by decide +kernel
theorem dX10_plays_44 : decode cX10_plays 44 = .ok (.istore 5, 2) := by decide +kernel
theorem dX10_plays_46 : decode cX10_plays 46 = .ok (.iload 5, 2) := by decide +kernel
theorem dX10_plays_48 : decode cX10_plays 48 = .ok (.ifCond .eq 44, 3) := by decide +kernel
theorem dX10_plays_51 : decode cX10_plays 51 = .ok (.aload_n 0, 1) := by decide +kernel
theorem dX10_plays_52 : decode cX10_plays 52 = .ok (.invokevirtual 275, 3) := by decide +kernel
theorem dX10_plays_55 : decode cX10_plays 55 = .ok (.istore 6, 2) := by decide +kernel
theorem dX10_plays_57 : decode cX10_plays 57 = .ok (.iload 6, 2) := by decide +kernel
theorem dX10_plays_59 : decode cX10_plays 59 = .ok (.ifCond .ne 13, 3) := by decide +kernel
theorem dX10_plays_62 : decode cX10_plays 62 = .ok (.aload_n 0, 1) := by decide +kernel
theorem dX10_plays_63 : decode cX10_plays 63 = .ok (.getfield 26, 3) := by decide +kernel
theorem dX10_plays_66 : decode cX10_plays 66 = .ok (.bipush 8, 2) := by decide +kernel
theorem dX10_plays_68 : decode cX10_plays 68 = .ok (.iaload, 1) := by decide +kernel
theorem dX10_plays_69 : decode cX10_plays 69 = .ok (.ifCond .ne 17, 3) := by decide +kernel
theorem dX10_plays_72 : decode cX10_plays 72 = .ok (.aload_n 0, 1) := by decide +kernel
theorem dX10_plays_73 : decode cX10_plays 73 = .ok (.getfield 26, 3) := by decide +kernel
theorem dX10_plays_76 : decode cX10_plays 76 = .ok (.iconst 4, 1) := by decide +kernel
theorem dX10_plays_77 : decode cX10_plays 77 = .ok (.iaload, 1) := by decide +kernel
theorem dX10_plays_78 : decode cX10_plays 78 = .ok (.iload_n 2, 1) := by decide +kernel
theorem dX10_plays_79 : decode cX10_plays 79 = .ok (.if_icmp .ge 7, 3) := by decide +kernel
theorem dX10_plays_82 : decode cX10_plays 82 = .ok (.iconst 1, 1) := by decide +kernel
theorem dX10_plays_83 : decode cX10_plays 83 = .ok (.goto 4, 3) := by decide +kernel
theorem dX10_plays_86 : decode cX10_plays 86 = .ok (.iconst 0, 1) := by decide +kernel
theorem dX10_plays_87 : decode cX10_plays 87 = .ok (.istore 5, 2) := by decide +kernel
theorem dX10_plays_89 : decode cX10_plays 89 = .ok (.goto (-43), 3) := by decide +kernel
theorem dX10_plays_92 : decode cX10_plays 92 = .ok (.aload_n 0, 1) := by decide +kernel
theorem dX10_plays_93 : decode cX10_plays 93 = .ok (.getfield 53, 3) := by decide +kernel
theorem dX10_plays_96 : decode cX10_plays 96 = .ok (.iload 4, 2) := by decide +kernel
theorem dX10_plays_98 : decode cX10_plays 98 = .ok (.aload_n 0, 1) := by decide +kernel
theorem dX10_plays_99 : decode cX10_plays 99 = .ok (.getfield 26, 3) := by decide +kernel
theorem dX10_plays_102 : decode cX10_plays 102 = .ok (.iconst 5, 1) := by decide +kernel
theorem dX10_plays_103 : decode cX10_plays 103 = .ok (.iaload, 1) := by decide +kernel
theorem dX10_plays_104 : decode cX10_plays 104 = .ok (.iastore, 1) := by decide +kernel
theorem dX10_plays_105 : decode cX10_plays 105 = .ok (.aload_n 0, 1) := by decide +kernel
theorem dX10_plays_106 : decode cX10_plays 106 = .ok (.dup, 1) := by decide +kernel
theorem dX10_plays_107 : decode cX10_plays 107 = .ok (.getfield 350, 3) := by decide +kernel
theorem dX10_plays_110 : decode cX10_plays 110 = .ok (.aload_n 0, 1) := by decide +kernel
theorem dX10_plays_111 : decode cX10_plays 111 = .ok (.getfield 26, 3) := by decide +kernel
theorem dX10_plays_114 : decode cX10_plays 114 = .ok (.iconst 4, 1) := by decide +kernel
theorem dX10_plays_115 : decode cX10_plays 115 = .ok (.iaload, 1) := by decide +kernel
theorem dX10_plays_116 : decode cX10_plays 116 = .ok (.iadd, 1) := by decide +kernel
theorem dX10_plays_117 : decode cX10_plays 117 = .ok (.putfield 350, 3) := by decide +kernel
theorem dX10_plays_120 : decode cX10_plays 120 = .ok (.iconst 0, 1) := by decide +kernel
theorem dX10_plays_121 : decode cX10_plays 121 = .ok (.istore 6, 2) := by decide +kernel
theorem dX10_plays_123 : decode cX10_plays 123 = .ok (.iload 6, 2) := by decide +kernel
theorem dX10_plays_125 : decode cX10_plays 125 = .ok (.aload_n 0, 1) := by decide +kernel
theorem dX10_plays_126 : decode cX10_plays 126 = .ok (.getfield 20, 3) := by decide +kernel
theorem dX10_plays_129 : decode cX10_plays 129 = .ok (.bipush 95, 2) := by decide +kernel
theorem dX10_plays_131 : decode cX10_plays 131 = .ok (.iaload, 1) := by decide +kernel
theorem dX10_plays_132 : decode cX10_plays 132 = .ok (.if_icmp .ge 39, 3) := by decide +kernel
theorem dX10_plays_135 : decode cX10_plays 135 = .ok (.aload_n 0, 1) := by decide +kernel
theorem dX10_plays_136 : decode cX10_plays 136 = .ok (.dup, 1) := by decide +kernel
theorem dX10_plays_137 : decode cX10_plays 137 = .ok (.getfield 353, 3) := by decide +kernel
theorem dX10_plays_140 : decode cX10_plays 140 = .ok (.aload_n 0, 1) := by decide +kernel
theorem dX10_plays_141 : decode cX10_plays 141 = .ok (.getfield 26, 3) := by decide +kernel
theorem dX10_plays_144 : decode cX10_plays 144 = .ok (.bipush 24, 2) := by decide +kernel
theorem dX10_plays_146 : decode cX10_plays 146 = .ok (.iload 6, 2) := by decide +kernel
theorem dX10_plays_148 : decode cX10_plays 148 = .ok (.iadd, 1) := by decide +kernel
theorem dX10_plays_149 : decode cX10_plays 149 = .ok (.iaload, 1) := by decide +kernel
theorem dX10_plays_150 : decode cX10_plays 150 = .ok (.aload_n 0, 1) := by decide +kernel
theorem dX10_plays_151 : decode cX10_plays 151 = .ok (.getfield 26, 3) := by decide +kernel
theorem dX10_plays_154 : decode cX10_plays 154 = .ok (.bipush 29, 2) := by decide +kernel
theorem dX10_plays_156 : decode cX10_plays 156 = .ok (.iload 6, 2) := by decide +kernel
theorem dX10_plays_158 : decode cX10_plays 158 = .ok (.iadd, 1) := by decide +kernel
theorem dX10_plays_159 : decode cX10_plays 159 = .ok (.iaload, 1) := by decide +kernel
theorem dX10_plays_160 : decode cX10_plays 160 = .ok (.iadd, 1) := by decide +kernel
theorem dX10_plays_161 : decode cX10_plays 161 = .ok (.iadd, 1) := by decide +kernel
theorem dX10_plays_162 : decode cX10_plays 162 = .ok (.putfield 353, 3) := by decide +kernel
theorem dX10_plays_165 : decode cX10_plays 165 = .ok (.iinc 6 1, 3) := by decide +kernel
theorem dX10_plays_168 : decode cX10_plays 168 = .ok (.goto (-45), 3) := by decide +kernel
theorem dX10_plays_171 : decode cX10_plays 171 = .ok (.iinc 4 1, 3) := by decide +kernel
theorem dX10_plays_174 : decode cX10_plays 174 = .ok (.goto (-148), 3) := by decide +kernel
theorem dX10_plays_177 : decode cX10_plays 177 = .ok (.aload_n 0, 1) := by decide +kernel
theorem dX10_plays_178 : decode cX10_plays 178 = .ok (.iconst 3, 1) := by decide +kernel
theorem dX10_plays_179 : decode cX10_plays 179 = .ok (.invokevirtual 287, 3) := by decide +kernel
theorem dX10_plays_182 : decode cX10_plays 182 = .ok (.return_, 1) := by decide +kernel
def lp_X10_plays_46 (y1 : Int32) (y2 : Int32) (y3 : Int32) (y4 : Int32) (k92 : Mm → Option (Mm)) : Nat → Int32 → Mm → Option (Mm)
  | 0, _, _ => none
  | n + 1, y5, M =>
    if y5 = 0 then (k92  M) else (bd (f_X10_tenth  M) fun v52_6 M52_5 => jn (fun (s7 : Int32) (M8 : Mm) => lp_X10_plays_46 y1 y2 y3 y4 k92 n s7 M8) fun j9 => jn (fun (M10 : Mm) => j9 (nI 0) M10) fun j11 => jn (fun (M12 : Mm) => if y2 ≤ (M12 86 4) then (j11  M12) else (j9 (nI 1) M12)) fun j13 => if v52_6 = 0 then (if (M52_5 86 8) = 0 then (j13  M52_5) else (j11  M52_5)) else (j13  M52_5))
def lp_X10_plays_123 (y1 : Int32) (y2 : Int32) (y3 : Int32) (y4 : Int32) (k171 : Mm → Option (Mm)) : Nat → Int32 → Mm → Option (Mm)
  | 0, _, _ => none
  | n + 1, y6, M =>
    if (M 84 95) ≤ y6 then (k171  M) else (gd (inb ((nI 24) + y6) 44) <| gd (inb ((nI 29) + y6) 44) <| lp_X10_plays_123 y1 y2 y3 y4 k171 n (y6 + (nI 1)) (mset M 81 30 ((M 81 30) + ((M 86 ((nI 24) + y6).toNatClampNeg) + (M 86 ((nI 29) + y6).toNatClampNeg)))))
def lp_X10_plays_26 (y1 : Int32) (y2 : Int32) (y3 : Int32) (k177 : Mm → Option (Mm)) : Nat → Int32 → Mm → Option (Mm)
  | 0, _, _ => none
  | n + 1, y4, M =>
    if y1 ≤ y4 then (k177  M) else (bv (f_X10_begin ((y3 + y4) - (y3 + y4) / (nI 65537) * (nI 65537)) M) fun M40_3 => lp_X10_plays_46 y1 y2 y3 y4 (fun  (M18 : Mm) => gd (inb y4 20) <| lp_X10_plays_123 y1 y2 y3 y4 (fun  (M20 : Mm) => lp_X10_plays_26 y1 y2 y3 k177 n (y4 + (nI 1)) M20) N0 (nI 0) (mset (mset M18 94 y4.toNatClampNeg (M18 86 5)) 81 29 (((mset M18 94 y4.toNatClampNeg (M18 86 5)) 81 29) + ((mset M18 94 y4.toNatClampNeg (M18 86 5)) 86 4)))) N0 (nI 1) M40_3)
def f_X10_plays (x1 : Int32) (x2 : Int32) (M : Mm) : Option (Mm) :=
  bv (f_X10_keep (nI 3) M) fun M2_1 => lp_X10_plays_26 x1 x2 (M2_1 86 6) (fun  (M22 : Mm) => bv (f_X10_bringBack (nI 3) M22) fun M179_23 => some M179_23) N0 (nI 0) (mset (mset M2_1 81 29 (nI 0)) 81 30 (nI 0))
set_option maxHeartbeats 4000000 in
set_option maxRecDepth 100000 in
theorem sl_X10_plays_46 {l : Launch} {B : BT} (hA : bA B = false) {d : Nat} {M' : Mm} {y1 : Int32} {y2 : Int32} {y3 : Int32} {y4 : Int32}  {k92 : Mm → Option (Mm)} (hk92 : ∀  (M9 : Mm), k92  M9 = some M' → GG l B LY (d + 4) yX10_plays cX10_plays 7 none 0 0 (PV M') 97 0 0 92 [(0, .ref 81), (1, .int y1), (2, .int y2), (3, .int y3), (4, .int y4)] [] M9) :
    ∀ (n : Nat) (y5 : Int32) (M : Mm), lp_X10_plays_46 y1 y2 y3 y4 k92 n y5 M = some M' → GG l B LY (d + 4) yX10_plays cX10_plays 7 none 0 0 (PV M') 97 0 0 46 [(0, .ref 81), (1, .int y1), (2, .int y2), (3, .int y3), (4, .int y4), (5, .int y5)] [] M := by
  intro n
  induction n with
  | zero => intro y5 M h; cases h
  | succ n ih =>
    intro y5 M h
    rw [lp_X10_plays_46] at h
    refine g_iload dX10_plays_46 5 rfl ?_
    refine g_if_eq (tgt := 92) dX10_plays_48 (by decide) (fun c17 => ?_) (fun c17 => ?_)
    · replace h := ite_p c17 h
      refine g_sub [0, 1, 2, 3, 4] (lv' := [(0, .ref 81), (1, .int y1), (2, .int y2), (3, .int y3), (4, .int y4)]) rfl ?_
      exact hk92  _ h
    · replace h := ite_n c17 h
      refine g_aload_n dX10_plays_51 rfl 0 rfl ?_
      obtain ⟨v52_6, M52_5, eM52_5, h⟩ := bd_e h
      refine m_callVi (As := []) (st := []) (s_X10_tenth (d := d + 0) hA  eM52_5) rfl okX10 ck_X10_tenth w_1516 rfl (Nat.le_of_ble_eq_true rfl) dX10_plays_52 ?_
      refine g_istore (lv' := [(6, .int v52_6), (0, .ref 81), (1, .int y1), (2, .int y2), (3, .int y3), (4, .int y4), (5, .int y5)]) dX10_plays_55 (by decide) rfl ?_
      refine g_iload dX10_plays_57 0 rfl ?_
      obtain ⟨j9, ej9, h⟩ := jn_e h
      have hj9 : ∀ (s7 : Int32) (M8 : Mm), j9 s7 M8 = some M' → GG l B LY (d + 4) yX10_plays cX10_plays 7 none 0 0 (PV M') 97 0 0 87 [(0, .ref 81), (1, .int y1), (2, .int y2), (3, .int y3), (4, .int y4)] [.int s7] M8 := by
        intro s7 M8 h
        rw [ej9] at h
        refine g_istore (lv' := [(5, .int s7), (0, .ref 81), (1, .int y1), (2, .int y2), (3, .int y3), (4, .int y4)]) dX10_plays_87 (by decide) rfl ?_
        refine g_goto (tgt := 46) dX10_plays_89 (by decide) ?_
        refine g_sub [1, 2, 3, 4, 5, 0] (lv' := [(0, .ref 81), (1, .int y1), (2, .int y2), (3, .int y3), (4, .int y4), (5, .int s7)]) rfl ?_
        exact ih _  _ h
      obtain ⟨j11, ej11, h⟩ := jn_e h
      have hj11 : ∀ (M10 : Mm), j11 M10 = some M' → GG l B LY (d + 4) yX10_plays cX10_plays 7 none 0 0 (PV M') 97 0 0 86 [(0, .ref 81), (1, .int y1), (2, .int y2), (3, .int y3), (4, .int y4)] [] M10 := by
        intro M10 h
        rw [ej11] at h
        refine g_iconst (v := (nI 0)) dX10_plays_86 (by decide) ?_
        refine g_sub [0, 1, 2, 3, 4] (lv' := [(0, .ref 81), (1, .int y1), (2, .int y2), (3, .int y3), (4, .int y4)]) rfl ?_
        exact hj9 _ _ h
      obtain ⟨j13, ej13, h⟩ := jn_e h
      have hj13 : ∀ (M12 : Mm), j13 M12 = some M' → GG l B LY (d + 4) yX10_plays cX10_plays 7 none 0 0 (PV M') 97 0 0 72 [(0, .ref 81), (1, .int y1), (2, .int y2), (3, .int y3), (4, .int y4)] [] M12 := by
        intro M12 h
        rw [ej13] at h
        refine g_aload_n dX10_plays_72 rfl 0 rfl ?_
        refine m_getr (k := 17) okX10 rfl rfl (by decide) w_1286 rfl dX10_plays_73 ?_
        refine g_iconst (v := (nI 4)) dX10_plays_76 (by decide) ?_
        refine m_ialdL (k := 4) rfl rfl (by decide) dX10_plays_77 ?_
        refine g_iload_n dX10_plays_78 rfl 2 rfl ?_
        refine g_icmp_ge (tgt := 86) dX10_plays_79 (by decide) (fun c14 => ?_) (fun c14 => ?_)
        · replace h := ite_p c14 h
          refine g_sub [0, 1, 2, 3, 4] (lv' := [(0, .ref 81), (1, .int y1), (2, .int y2), (3, .int y3), (4, .int y4)]) rfl ?_
          exact hj11  _ h
        · replace h := ite_n c14 h
          refine g_iconst (v := (nI 1)) dX10_plays_82 (by decide) ?_
          refine g_goto (tgt := 87) dX10_plays_83 (by decide) ?_
          refine g_sub [0, 1, 2, 3, 4] (lv' := [(0, .ref 81), (1, .int y1), (2, .int y2), (3, .int y3), (4, .int y4)]) rfl ?_
          exact hj9 _ _ h
      refine g_if_ne (tgt := 72) dX10_plays_59 (by decide) (fun c16 => ?_) (fun c16 => ?_)
      · replace h := ite_n c16 h
        refine g_sub [1, 2, 3, 4, 5] (lv' := [(0, .ref 81), (1, .int y1), (2, .int y2), (3, .int y3), (4, .int y4)]) rfl ?_
        exact hj13  _ h
      · replace h := ite_p c16 h
        refine g_aload_n dX10_plays_62 rfl 1 rfl ?_
        refine m_getr (k := 17) okX10 rfl rfl (by decide) w_1286 rfl dX10_plays_63 ?_
        refine g_bipush (v := (nI 8)) dX10_plays_66 (by decide) ?_
        refine m_ialdL (k := 8) rfl rfl (by decide) dX10_plays_68 ?_
        refine g_if_ne (tgt := 86) dX10_plays_69 (by decide) (fun c15 => ?_) (fun c15 => ?_)
        · replace h := ite_n c15 h
          refine g_sub [1, 2, 3, 4, 5] (lv' := [(0, .ref 81), (1, .int y1), (2, .int y2), (3, .int y3), (4, .int y4)]) rfl ?_
          exact hj11  _ h
        · replace h := ite_p c15 h
          refine g_sub [1, 2, 3, 4, 5] (lv' := [(0, .ref 81), (1, .int y1), (2, .int y2), (3, .int y3), (4, .int y4)]) rfl ?_
          exact hj13  _ h
set_option maxHeartbeats 4000000 in
set_option maxRecDepth 100000 in
theorem sl_X10_plays_123 {l : Launch} {B : BT} (hA : bA B = false) {d : Nat} {M' : Mm} {y1 : Int32} {y2 : Int32} {y3 : Int32} {y4 : Int32}  {k171 : Mm → Option (Mm)} (hk171 : ∀  (M9 : Mm), k171  M9 = some M' → GG l B LY (d + 4) yX10_plays cX10_plays 7 none 0 0 (PV M') 97 0 0 171 [(0, .ref 81), (1, .int y1), (2, .int y2), (3, .int y3), (4, .int y4)] [] M9) :
    ∀ (n : Nat) (y6 : Int32) (M : Mm), lp_X10_plays_123 y1 y2 y3 y4 k171 n y6 M = some M' → GG l B LY (d + 4) yX10_plays cX10_plays 7 none 0 0 (PV M') 97 0 0 123 [(0, .ref 81), (1, .int y1), (2, .int y2), (3, .int y3), (4, .int y4), (6, .int y6)] [] M := by
  intro n
  induction n with
  | zero => intro y6 M h; cases h
  | succ n ih =>
    intro y6 M h
    rw [lp_X10_plays_123] at h
    refine g_iload dX10_plays_123 5 rfl ?_
    refine g_aload_n dX10_plays_125 rfl 0 rfl ?_
    refine m_getr (k := 15) okX10 rfl rfl (by decide) w_1284 rfl dX10_plays_126 ?_
    refine g_bipush (v := (nI 95)) dX10_plays_129 (by decide) ?_
    refine m_ialdL (k := 95) rfl rfl (by decide) dX10_plays_131 ?_
    refine g_icmp_ge (tgt := 171) dX10_plays_132 (by decide) (fun c19 => ?_) (fun c19 => ?_)
    · replace h := ite_p c19 h
      refine g_sub [0, 1, 2, 3, 4] (lv' := [(0, .ref 81), (1, .int y1), (2, .int y2), (3, .int y3), (4, .int y4)]) rfl ?_
      exact hk171  _ h
    · replace h := ite_n c19 h
      refine g_aload_n dX10_plays_135 rfl 0 rfl ?_
      refine g_dup dX10_plays_136 rfl ?_
      refine m_geti (k := 30) okX10 rfl rfl (by decide) w_1299 rfl dX10_plays_137 ?_
      refine g_aload_n dX10_plays_140 rfl 0 rfl ?_
      refine m_getr (k := 17) okX10 rfl rfl (by decide) w_1286 rfl dX10_plays_141 ?_
      refine g_bipush (v := (nI 24)) dX10_plays_144 (by decide) ?_
      refine g_iload dX10_plays_146 5 rfl ?_
      refine g_iadd dX10_plays_148 ?_
      obtain ⟨hz, h⟩ := gd_s h
      refine m_iald rfl hz dX10_plays_149 ?_
      refine g_aload_n dX10_plays_150 rfl 0 rfl ?_
      refine m_getr (k := 17) okX10 rfl rfl (by decide) w_1286 rfl dX10_plays_151 ?_
      refine g_bipush (v := (nI 29)) dX10_plays_154 (by decide) ?_
      refine g_iload dX10_plays_156 5 rfl ?_
      refine g_iadd dX10_plays_158 ?_
      obtain ⟨hz, h⟩ := gd_s h
      refine m_iald rfl hz dX10_plays_159 ?_
      refine g_iadd dX10_plays_160 ?_
      refine g_iadd dX10_plays_161 ?_
      refine m_puti (k := 30) okX10 rfl rfl (by decide) w_1299 rfl rfl rfl dX10_plays_162 ?_
      refine g_iinc (v := (y6 + (nI 1))) (lv' := [(6, .int (y6 + (nI 1))), (0, .ref 81), (1, .int y1), (2, .int y2), (3, .int y3), (4, .int y4)]) dX10_plays_165 5 rfl rfl (by decide) rfl ?_
      refine g_goto (tgt := 123) dX10_plays_168 (by decide) ?_
      refine g_sub [1, 2, 3, 4, 5, 0] (lv' := [(0, .ref 81), (1, .int y1), (2, .int y2), (3, .int y3), (4, .int y4), (6, .int (y6 + (nI 1)))]) rfl ?_
      exact ih _  _ h
set_option maxHeartbeats 4000000 in
set_option maxRecDepth 100000 in
theorem sl_X10_plays_26 {l : Launch} {B : BT} (hA : bA B = false) {d : Nat} {M' : Mm} {y1 : Int32} {y2 : Int32} {y3 : Int32}  {k177 : Mm → Option (Mm)} (hk177 : ∀  (M9 : Mm), k177  M9 = some M' → GG l B LY (d + 4) yX10_plays cX10_plays 7 none 0 0 (PV M') 97 0 0 177 [(0, .ref 81)] [] M9) :
    ∀ (n : Nat) (y4 : Int32) (M : Mm), lp_X10_plays_26 y1 y2 y3 k177 n y4 M = some M' → GG l B LY (d + 4) yX10_plays cX10_plays 7 none 0 0 (PV M') 97 0 0 26 [(0, .ref 81), (1, .int y1), (2, .int y2), (3, .int y3), (4, .int y4)] [] M := by
  intro n
  induction n with
  | zero => intro y4 M h; cases h
  | succ n ih =>
    intro y4 M h
    rw [lp_X10_plays_26] at h
    refine g_iload dX10_plays_26 4 rfl ?_
    refine g_iload_n dX10_plays_28 rfl 1 rfl ?_
    refine g_icmp_ge (tgt := 177) dX10_plays_29 (by decide) (fun c21 => ?_) (fun c21 => ?_)
    · replace h := ite_p c21 h
      refine g_sub [0] (lv' := [(0, .ref 81)]) rfl ?_
      exact hk177  _ h
    · replace h := ite_n c21 h
      refine g_aload_n dX10_plays_32 rfl 0 rfl ?_
      refine g_iload_n dX10_plays_33 rfl 3 rfl ?_
      refine g_iload dX10_plays_34 4 rfl ?_
      refine g_iadd dX10_plays_36 ?_
      refine g_ldc (v := (nI 65537)) w_1547 dX10_plays_37 ?_
      refine g_irem dX10_plays_39 (by decide) ?_
      obtain ⟨M40_3, eM40_3, h⟩ := bv_e h
      refine m_callVv (As := [.int ((y3 + y4) - (y3 + y4) / (nI 65537) * (nI 65537))]) (st := []) (s_X10_begin (d := d + 3) hA  eM40_3) rfl okX10 ck_X10_begin w_1491 rfl (Nat.le_of_ble_eq_true rfl) dX10_plays_40 ?_
      refine g_iconst (v := (nI 1)) dX10_plays_43 (by decide) ?_
      refine g_istore (lv' := [(5, .int (nI 1)), (0, .ref 81), (1, .int y1), (2, .int y2), (3, .int y3), (4, .int y4)]) dX10_plays_44 (by decide) rfl ?_
      refine g_sub [1, 2, 3, 4, 5, 0] (lv' := [(0, .ref 81), (1, .int y1), (2, .int y2), (3, .int y3), (4, .int y4), (5, .int (nI 1))]) rfl ?_
      refine sl_X10_plays_46 hA  ?_ _ _ _ h
      · intro  M18 h
        refine g_aload_n dX10_plays_92 rfl 0 rfl ?_
        refine m_getr (k := 28) okX10 rfl rfl (by decide) w_1297 rfl dX10_plays_93 ?_
        refine g_iload dX10_plays_96 4 rfl ?_
        refine g_aload_n dX10_plays_98 rfl 0 rfl ?_
        refine m_getr (k := 17) okX10 rfl rfl (by decide) w_1286 rfl dX10_plays_99 ?_
        refine g_iconst (v := (nI 5)) dX10_plays_102 (by decide) ?_
        refine m_ialdL (k := 5) rfl rfl (by decide) dX10_plays_103 ?_
        obtain ⟨hz, h⟩ := gd_s h
        refine m_iast hA rfl hz dX10_plays_104 ?_
        refine g_aload_n dX10_plays_105 rfl 0 rfl ?_
        refine g_dup dX10_plays_106 rfl ?_
        refine m_geti (k := 29) okX10 rfl rfl (by decide) w_1298 rfl dX10_plays_107 ?_
        refine g_aload_n dX10_plays_110 rfl 0 rfl ?_
        refine m_getr (k := 17) okX10 rfl rfl (by decide) w_1286 rfl dX10_plays_111 ?_
        refine g_iconst (v := (nI 4)) dX10_plays_114 (by decide) ?_
        refine m_ialdL (k := 4) rfl rfl (by decide) dX10_plays_115 ?_
        refine g_iadd dX10_plays_116 ?_
        refine m_puti (k := 29) okX10 rfl rfl (by decide) w_1298 rfl rfl rfl dX10_plays_117 ?_
        refine g_iconst (v := (nI 0)) dX10_plays_120 (by decide) ?_
        refine g_istore (lv' := [(6, .int (nI 0)), (0, .ref 81), (1, .int y1), (2, .int y2), (3, .int y3), (4, .int y4)]) dX10_plays_121 (by decide) rfl ?_
        refine g_sub [1, 2, 3, 4, 5, 0] (lv' := [(0, .ref 81), (1, .int y1), (2, .int y2), (3, .int y3), (4, .int y4), (6, .int (nI 0))]) rfl ?_
        refine sl_X10_plays_123 hA  ?_ _ _ _ h
        · intro  M20 h
          refine g_iinc (v := (y4 + (nI 1))) (lv' := [(4, .int (y4 + (nI 1))), (0, .ref 81), (1, .int y1), (2, .int y2), (3, .int y3)]) dX10_plays_171 4 rfl rfl (by decide) rfl ?_
          refine g_goto (tgt := 26) dX10_plays_174 (by decide) ?_
          refine g_sub [1, 2, 3, 4, 0] (lv' := [(0, .ref 81), (1, .int y1), (2, .int y2), (3, .int y3), (4, .int (y4 + (nI 1)))]) rfl ?_
          exact ih _  _ h
set_option maxHeartbeats 4000000 in
set_option maxRecDepth 100000 in
theorem s_X10_plays {l : Launch} {B : BT} (hA : bA B = false) {d : Nat} {M' : Mm} {x1 : Int32} {x2 : Int32} {M : Mm}  (h : f_X10_plays x1 x2 M = some M') : Con l B LY (d + 4) yX10_plays cX10_plays 7 none 0 0 [.ref 81, .int x1, .int x2] 97 M (PV M') := by
  refine con_of (by decide) (Nat.le_of_ble_eq_true rfl) ?_
  show GG l B LY (d + 4) yX10_plays cX10_plays 7 none 0 0 (PV M') 97 0 0 0 [(0, .ref 81), (1, .int x1), (2, .int x2)] [] M
  rw [f_X10_plays] at h
  refine g_aload_n dX10_plays_0 rfl 0 rfl ?_
  refine g_iconst (v := (nI 3)) dX10_plays_1 (by decide) ?_
  obtain ⟨M2_1, eM2_1, h⟩ := bv_e h
  refine m_callVv (As := [.int (nI 3)]) (st := []) (s_X10_keep (d := d + 3) hA  eM2_1) rfl okX10 ck_X10_keep w_1600 rfl (Nat.le_of_ble_eq_true rfl) dX10_plays_2 ?_
  refine g_aload_n dX10_plays_5 rfl 0 rfl ?_
  refine m_getr (k := 17) okX10 rfl rfl (by decide) w_1286 rfl dX10_plays_6 ?_
  refine g_bipush (v := (nI 6)) dX10_plays_9 (by decide) ?_
  refine m_ialdL (k := 6) rfl rfl (by decide) dX10_plays_11 ?_
  refine g_istore_n (lv' := [(3, .int (M2_1 86 6)), (0, .ref 81), (1, .int x1), (2, .int x2)]) dX10_plays_12 rfl (by decide) rfl ?_
  refine g_aload_n dX10_plays_13 rfl 1 rfl ?_
  refine g_iconst (v := (nI 0)) dX10_plays_14 (by decide) ?_
  refine m_puti (k := 29) okX10 rfl rfl (by decide) w_1298 rfl rfl rfl dX10_plays_15 ?_
  refine g_aload_n dX10_plays_18 rfl 1 rfl ?_
  refine g_iconst (v := (nI 0)) dX10_plays_19 (by decide) ?_
  refine m_puti (k := 30) okX10 rfl rfl (by decide) w_1299 rfl rfl rfl dX10_plays_20 ?_
  refine g_iconst (v := (nI 0)) dX10_plays_23 (by decide) ?_
  refine g_istore (lv' := [(4, .int (nI 0)), (3, .int (M2_1 86 6)), (0, .ref 81), (1, .int x1), (2, .int x2)]) dX10_plays_24 (by decide) rfl ?_
  refine g_sub [2, 3, 4, 1, 0] (lv' := [(0, .ref 81), (1, .int x1), (2, .int x2), (3, .int (M2_1 86 6)), (4, .int (nI 0))]) rfl ?_
  refine sl_X10_plays_26 hA  ?_ _ _ _ h
  · intro  M22 h
    refine g_aload_n dX10_plays_177 rfl 0 rfl ?_
    refine g_iconst (v := (nI 3)) dX10_plays_178 (by decide) ?_
    obtain ⟨M179_23, eM179_23, h⟩ := bv_e h
    refine m_callVv (As := [.int (nI 3)]) (st := []) (s_X10_bringBack (d := d + 3) hA  eM179_23) rfl okX10 ck_X10_bringBack w_1608 rfl (Nat.le_of_ble_eq_true rfl) dX10_plays_179 ?_
    exact g_vret rfl (pv_of h) dX10_plays_182
theorem ck_X10_plays : CKV yX10_plays cX10_plays 7 none 2 := ⟨⟨by decide, by decide, by decide +kernel⟩, w_1727, w_81, ⟨w_1726, w_61⟩, by decide⟩
theorem dX10_wins_0 : decode cX10_wins 0 = .ok (.aload_n 0, 1) := by decide +kernel
theorem dX10_wins_1 : decode cX10_wins 1 = .ok (.invokevirtual 156, 3) := by decide +kernel
theorem dX10_wins_4 : decode cX10_wins 4 = .ok (.aload_n 0, 1) := by decide +kernel
theorem dX10_wins_5 : decode cX10_wins 5 = .ok (.iload_n 1, 1) := by decide +kernel
theorem dX10_wins_6 : decode cX10_wins 6 = .ok (.invokevirtual 278, 3) := by decide +kernel
theorem dX10_wins_9 : decode cX10_wins 9 = .ok (.ifCond .ne 7, 3) := by decide +kernel
theorem dX10_wins_12 : decode cX10_wins 12 = .ok (.iconst 1, 1) := by decide +kernel
theorem dX10_wins_13 : decode cX10_wins 13 = .ok (.goto 9, 3) := by decide +kernel
theorem dX10_wins_16 : decode cX10_wins 16 = .ok (.aload_n 0, 1) := by decide +kernel
theorem dX10_wins_17 : decode cX10_wins 17 = .ok (.iload_n 2, 1) := by decide +kernel
theorem dX10_wins_18 : decode cX10_wins 18 = .ok (.iload_n 3, 1) := by decide +kernel
theorem dX10_wins_19 : decode cX10_wins 19 = .ok (.invokevirtual 356, 3) := by decide +kernel
theorem dX10_wins_22 : decode cX10_wins 22 = .ok (.istore 4, 2) := by decide +kernel
theorem dX10_wins_24 : decode cX10_wins 24 = .ok (.iload 4, 2) := by decide +kernel
theorem dX10_wins_26 : decode cX10_wins 26 = .ok (.ifCond .eq 10, 3) := by decide +kernel
theorem dX10_wins_29 : decode cX10_wins 29 = .ok (.aload_n 0, 1) := by decide +kernel
theorem dX10_wins_30 : decode cX10_wins 30 = .ok (.iload 4, 2) := by decide +kernel
theorem dX10_wins_32 : decode cX10_wins 32 = .ok (.invokevirtual 159, 3) := by decide +kernel
theorem dX10_wins_35 : decode cX10_wins 35 = .ok (.ireturn, 1) := by decide +kernel
theorem dX10_wins_36 : decode cX10_wins 36 = .ok (.aload_n 0, 1) := by decide +kernel
theorem dX10_wins_37 : decode cX10_wins 37 = .ok (.iload_n 2, 1) := by decide +kernel
theorem dX10_wins_38 : decode cX10_wins 38 = .ok (.iload_n 3, 1) := by decide +kernel
theorem dX10_wins_39 : decode cX10_wins 39 = .ok (.invokevirtual 359, 3) := by decide +kernel
theorem dX10_wins_42 : decode cX10_wins 42 = .ok (.iconst 0, 1) := by decide +kernel
theorem dX10_wins_43 : decode cX10_wins 43 = .ok (.istore 5, 2) := by decide +kernel
theorem dX10_wins_45 : decode cX10_wins 45 = .ok (.iconst 0, 1) := by decide +kernel
theorem dX10_wins_46 : decode cX10_wins 46 = .ok (.istore 6, 2) := by decide +kernel
theorem dX10_wins_48 : decode cX10_wins 48 = .ok (.iload 6, 2) := by decide +kernel
theorem dX10_wins_50 : decode cX10_wins 50 = .ok (.iload_n 2, 1) := by decide +kernel
theorem dX10_wins_51 : decode cX10_wins 51 = .ok (.if_icmp .ge 30, 3) := by decide +kernel
theorem dX10_wins_54 : decode cX10_wins 54 = .ok (.iload 5, 2) := by decide +kernel
theorem dX10_wins_56 : decode cX10_wins 56 = .ok (.aload_n 0, 1) := by decide +kernel
theorem dX10_wins_57 : decode cX10_wins 57 = .ok (.getfield 53, 3) := by decide +kernel
theorem dX10_wins_60 : decode cX10_wins 60 = .ok (.iload 6, 2) := by decide +kernel
theorem dX10_wins_62 : decode cX10_wins 62 = .ok (.iaload, 1) := by decide +kernel
theorem dX10_wins_63 : decode cX10_wins 63 = .ok (.iload_n 1, 1) := by decide +kernel
theorem dX10_wins_64 : decode cX10_wins 64 = .ok (.if_icmp .ne 7, 3) := by decide +kernel
theorem dX10_wins_67 : decode cX10_wins 67 = .ok (.iconst 1, 1) := by decide +kernel
theorem dX10_wins_68 : decode cX10_wins 68 = .ok (.goto 4, 3) := by decide +kernel
theorem dX10_wins_71 : decode cX10_wins 71 = .ok (.iconst 0, 1) := by decide +kernel
theorem dX10_wins_72 : decode cX10_wins 72 = .ok (.iadd, 1) := by decide +kernel
theorem dX10_wins_73 : decode cX10_wins 73 = .ok (.istore 5, 2) := by decide +kernel
theorem dX10_wins_75 : decode cX10_wins 75 = .ok (.iinc 6 1, 3) := by decide +kernel
theorem dX10_wins_78 : decode cX10_wins 78 = .ok (.goto (-30), 3) := by decide +kernel
theorem dX10_wins_81 : decode cX10_wins 81 = .ok (.iload 5, 2) := by decide +kernel
theorem dX10_wins_83 : decode cX10_wins 83 = .ok (.ireturn, 1) := by decide +kernel
def lp_X10_wins_48 (y1 : Int32) (y2 : Int32)  : Nat → Int32 → Int32 → Mm → Option (Int32 × Mm)
  | 0, _, _, _ => none
  | n + 1, y5, y6, M =>
    if y2 ≤ y6 then (some (y5, M)) else (gd (inb y6 20) <| jn (fun (s10 : Int32) (M11 : Mm) => lp_X10_wins_48 y1 y2 n (y5 + s10) (y6 + (nI 1)) M11) fun j12 => if (M 94 y6.toNatClampNeg) = y1 then (j12 (nI 1) M) else (j12 (nI 0) M))
def f_X10_wins (x1 : Int32) (x2 : Int32) (x3 : Int32) (M : Mm) : Option (Int32 × Mm) :=
  bv (f_X10_good  M) fun M1_1 => bd (f_X10_isCreeper x1 M1_1) fun v6_4 M6_3 => jn (fun (s5 : Int32) (M6 : Mm) => if s5 = 0 then (bv (f_X10_plays x2 x3 M6) fun M39_8 => lp_X10_wins_48 x1 x2  N0 (nI 0) (nI 0) M39_8) else (bd (f_X10_no s5 M6) fun v32_16 M32_15 => some (v32_16, M32_15))) fun j7 => if v6_4 = 0 then (j7 (nI 1) M6_3) else (bd (f_X10_playWhy x2 x3 M6_3) fun v19_19 M19_18 => j7 v19_19 M19_18)
set_option maxHeartbeats 4000000 in
set_option maxRecDepth 100000 in
theorem sl_X10_wins_48 {l : Launch} {B : BT} (hA : bA B = false) {d : Nat} {r : Int32} {M' : Mm} {y1 : Int32} {y2 : Int32}    :
    ∀ (n : Nat) (y5 : Int32) (y6 : Int32) (M : Mm), lp_X10_wins_48 y1 y2 n y5 y6 M = some (r, M') → GG l B LY (d + 5) yX10_wins cX10_wins 7 (some .int) 0 0 (PI r M') 97 0 0 48 [(0, .ref 81), (1, .int y1), (2, .int y2), (5, .int y5), (6, .int y6)] [] M := by
  intro n
  induction n with
  | zero => intro y5 y6 M h; cases h
  | succ n ih =>
    intro y5 y6 M h
    rw [lp_X10_wins_48] at h
    refine g_iload dX10_wins_48 4 rfl ?_
    refine g_iload_n dX10_wins_50 rfl 2 rfl ?_
    refine g_icmp_ge (tgt := 81) dX10_wins_51 (by decide) (fun c14 => ?_) (fun c14 => ?_)
    · replace h := ite_p c14 h
      refine g_iload dX10_wins_81 3 rfl ?_
      exact g_zret rfl rfl (pi_of h) dX10_wins_83
    · replace h := ite_n c14 h
      refine g_iload dX10_wins_54 3 rfl ?_
      refine g_aload_n dX10_wins_56 rfl 0 rfl ?_
      refine m_getr (k := 28) okX10 rfl rfl (by decide) w_1297 rfl dX10_wins_57 ?_
      refine g_iload dX10_wins_60 4 rfl ?_
      obtain ⟨hz, h⟩ := gd_s h
      refine m_iald rfl hz dX10_wins_62 ?_
      refine g_iload_n dX10_wins_63 rfl 1 rfl ?_
      obtain ⟨j12, ej12, h⟩ := jn_e h
      have hj12 : ∀ (s10 : Int32) (M11 : Mm), j12 s10 M11 = some (r, M') → GG l B LY (d + 5) yX10_wins cX10_wins 7 (some .int) 0 0 (PI r M') 97 0 0 72 [(0, .ref 81), (1, .int y1), (2, .int y2), (6, .int y6)] [.int s10, .int y5] M11 := by
        intro s10 M11 h
        rw [ej12] at h
        refine g_iadd dX10_wins_72 ?_
        refine g_istore (lv' := [(5, .int (y5 + s10)), (0, .ref 81), (1, .int y1), (2, .int y2), (6, .int y6)]) dX10_wins_73 (by decide) rfl ?_
        refine g_iinc (v := (y6 + (nI 1))) (lv' := [(6, .int (y6 + (nI 1))), (5, .int (y5 + s10)), (0, .ref 81), (1, .int y1), (2, .int y2)]) dX10_wins_75 4 rfl rfl (by decide) rfl ?_
        refine g_goto (tgt := 48) dX10_wins_78 (by decide) ?_
        refine g_sub [2, 3, 4, 1, 0] (lv' := [(0, .ref 81), (1, .int y1), (2, .int y2), (5, .int (y5 + s10)), (6, .int (y6 + (nI 1)))]) rfl ?_
        exact ih _ _  _ h
      refine g_icmp_ne (tgt := 71) dX10_wins_64 (by decide) (fun c13 => ?_) (fun c13 => ?_)
      · replace h := ite_n c13 h
        refine g_iconst (v := (nI 0)) dX10_wins_71 (by decide) ?_
        refine g_sub [0, 1, 2, 4] (lv' := [(0, .ref 81), (1, .int y1), (2, .int y2), (6, .int y6)]) rfl ?_
        exact hj12 _ _ h
      · replace h := ite_p c13 h
        refine g_iconst (v := (nI 1)) dX10_wins_67 (by decide) ?_
        refine g_goto (tgt := 72) dX10_wins_68 (by decide) ?_
        refine g_sub [0, 1, 2, 4] (lv' := [(0, .ref 81), (1, .int y1), (2, .int y2), (6, .int y6)]) rfl ?_
        exact hj12 _ _ h
set_option maxHeartbeats 4000000 in
set_option maxRecDepth 100000 in
theorem s_X10_wins {l : Launch} {B : BT} (hA : bA B = false) {d : Nat} {r : Int32} {M' : Mm} {x1 : Int32} {x2 : Int32} {x3 : Int32} {M : Mm}  (h : f_X10_wins x1 x2 x3 M = some (r, M')) : Con l B LY (d + 5) yX10_wins cX10_wins 7 (some .int) 0 0 [.ref 81, .int x1, .int x2, .int x3] 97 M (PI r M') := by
  refine con_of (by decide) (Nat.le_of_ble_eq_true rfl) ?_
  show GG l B LY (d + 5) yX10_wins cX10_wins 7 (some .int) 0 0 (PI r M') 97 0 0 0 [(0, .ref 81), (1, .int x1), (2, .int x2), (3, .int x3)] [] M
  rw [f_X10_wins] at h
  refine g_aload_n dX10_wins_0 rfl 0 rfl ?_
  obtain ⟨M1_1, eM1_1, h⟩ := bv_e h
  refine m_callVv (As := []) (st := []) (s_X10_good (d := d + 4) hA  eM1_1) rfl okX10 ck_X10_good w_1381 rfl (Nat.le_of_ble_eq_true rfl) dX10_wins_1 ?_
  refine g_aload_n dX10_wins_4 rfl 0 rfl ?_
  refine g_iload_n dX10_wins_5 rfl 1 rfl ?_
  obtain ⟨v6_4, M6_3, eM6_3, h⟩ := bd_e h
  refine m_callVi (As := [.int x1]) (st := []) (s_X10_isCreeper (d := d + 3) hA  eM6_3) rfl okX10 ck_X10_isCreeper w_1572 rfl (Nat.le_of_ble_eq_true rfl) dX10_wins_6 ?_
  obtain ⟨j7, ej7, h⟩ := jn_e h
  have hj7 : ∀ (s5 : Int32) (M6 : Mm), j7 s5 M6 = some (r, M') → GG l B LY (d + 5) yX10_wins cX10_wins 7 (some .int) 0 0 (PI r M') 97 0 0 22 [(0, .ref 81), (1, .int x1), (2, .int x2), (3, .int x3)] [.int s5] M6 := by
    intro s5 M6 h
    rw [ej7] at h
    refine g_istore (lv' := [(4, .int s5), (0, .ref 81), (1, .int x1), (2, .int x2), (3, .int x3)]) dX10_wins_22 (by decide) rfl ?_
    refine g_iload dX10_wins_24 0 rfl ?_
    refine g_if_eq (tgt := 36) dX10_wins_26 (by decide) (fun c17 => ?_) (fun c17 => ?_)
    · replace h := ite_p c17 h
      refine g_aload_n dX10_wins_36 rfl 1 rfl ?_
      refine g_iload_n dX10_wins_37 rfl 3 rfl ?_
      refine g_iload_n dX10_wins_38 rfl 4 rfl ?_
      obtain ⟨M39_8, eM39_8, h⟩ := bv_e h
      refine m_callVv (As := [.int x2, .int x3]) (st := []) (s_X10_plays (d := d + 0) hA  eM39_8) rfl okX10 ck_X10_plays w_1724 rfl (Nat.le_of_ble_eq_true rfl) dX10_wins_39 ?_
      refine g_iconst (v := (nI 0)) dX10_wins_42 (by decide) ?_
      refine g_istore (lv' := [(5, .int (nI 0)), (4, .int s5), (0, .ref 81), (1, .int x1), (2, .int x2), (3, .int x3)]) dX10_wins_43 (by decide) rfl ?_
      refine g_iconst (v := (nI 0)) dX10_wins_45 (by decide) ?_
      refine g_istore (lv' := [(6, .int (nI 0)), (5, .int (nI 0)), (4, .int s5), (0, .ref 81), (1, .int x1), (2, .int x2), (3, .int x3)]) dX10_wins_46 (by decide) rfl ?_
      refine g_sub [3, 4, 5, 1, 0] (lv' := [(0, .ref 81), (1, .int x1), (2, .int x2), (5, .int (nI 0)), (6, .int (nI 0))]) rfl ?_
      refine sl_X10_wins_48 hA   _ _ _ _ h
    · replace h := ite_n c17 h
      refine g_aload_n dX10_wins_29 rfl 1 rfl ?_
      refine g_iload dX10_wins_30 0 rfl ?_
      obtain ⟨v32_16, M32_15, eM32_15, h⟩ := bd_e h
      refine m_callVi (As := [.int s5]) (st := []) (s_X10_no (d := d + 4) hA  eM32_15) rfl okX10 ck_X10_no w_1388 rfl (Nat.le_of_ble_eq_true rfl) dX10_wins_32 ?_
      exact g_zret rfl rfl (pi_of h) dX10_wins_35
  refine g_if_ne (tgt := 16) dX10_wins_9 (by decide) (fun c20 => ?_) (fun c20 => ?_)
  · replace h := ite_n c20 h
    refine g_aload_n dX10_wins_16 rfl 0 rfl ?_
    refine g_iload_n dX10_wins_17 rfl 2 rfl ?_
    refine g_iload_n dX10_wins_18 rfl 3 rfl ?_
    obtain ⟨v19_19, M19_18, eM19_18, h⟩ := bd_e h
    refine m_callVi (As := [.int x2, .int x3]) (st := []) (s_X10_playWhy (d := d + 3) hA  eM19_18) rfl okX10 ck_X10_playWhy w_1720 rfl (Nat.le_of_ble_eq_true rfl) dX10_wins_19 ?_
    refine g_sub [0, 1, 2, 3] (lv' := [(0, .ref 81), (1, .int x1), (2, .int x2), (3, .int x3)]) rfl ?_
    exact hj7 _ _ h
  · replace h := ite_p c20 h
    refine g_iconst (v := (nI 1)) dX10_wins_12 (by decide) ?_
    refine g_goto (tgt := 22) dX10_wins_13 (by decide) ?_
    refine g_sub [0, 1, 2, 3] (lv' := [(0, .ref 81), (1, .int x1), (2, .int x2), (3, .int x3)]) rfl ?_
    exact hj7 _ _ h
theorem ck_X10_wins : CKV yX10_wins cX10_wins 7 (some .int) 3 := ⟨⟨by decide, by decide, by decide +kernel⟩, w_1719, w_81, ⟨w_1717, w_1718⟩, by decide⟩
theorem dX10_lasts_0 : decode cX10_lasts 0 = .ok (.aload_n 0, 1) := by decide +kernel
theorem dX10_lasts_1 : decode cX10_lasts 1 = .ok (.invokevirtual 156, 3) := by decide +kernel
theorem dX10_lasts_4 : decode cX10_lasts 4 = .ok (.aload_n 0, 1) := by decide +kernel
theorem dX10_lasts_5 : decode cX10_lasts 5 = .ok (.iload_n 1, 1) := by decide +kernel
theorem dX10_lasts_6 : decode cX10_lasts 6 = .ok (.iload_n 2, 1) := by decide +kernel
theorem dX10_lasts_7 : decode cX10_lasts 7 = .ok (.invokevirtual 356, 3) := by decide +kernel
theorem dX10_lasts_10 : decode cX10_lasts 10 = .ok (.istore_n 3, 1) := by decide +kernel
theorem dX10_lasts_11 : decode cX10_lasts 11 = .ok (.iload_n 3, 1) := by decide +kernel
theorem dX10_lasts_12 : decode cX10_lasts 12 = .ok (.ifCond .eq 9, 3) := by decide +kernel
theorem dX10_lasts_15 : decode cX10_lasts 15 = .ok (.aload_n 0, 1) := by decide +kernel
theorem dX10_lasts_16 : decode cX10_lasts 16 = .ok (.iload_n 3, 1) := by decide +kernel
theorem dX10_lasts_17 : decode cX10_lasts 17 = .ok (.invokevirtual 159, 3) := by decide +kernel
theorem dX10_lasts_20 : decode cX10_lasts 20 = .ok (.ireturn, 1) := by decide +kernel
theorem dX10_lasts_21 : decode cX10_lasts 21 = .ok (.aload_n 0, 1) := by decide +kernel
theorem dX10_lasts_22 : decode cX10_lasts 22 = .ok (.iload_n 1, 1) := by decide +kernel
theorem dX10_lasts_23 : decode cX10_lasts 23 = .ok (.iload_n 2, 1) := by decide +kernel
theorem dX10_lasts_24 : decode cX10_lasts 24 = .ok (.invokevirtual 359, 3) := by decide +kernel
theorem dX10_lasts_27 : decode cX10_lasts 27 = .ok (.aload_n 0, 1) := by decide +kernel
theorem dX10_lasts_28 : decode cX10_lasts 28 = .ok (.getfield 350, 3) := by decide +kernel
theorem dX10_lasts_31 : decode cX10_lasts 31 = .ok (.ireturn, 1) := by decide +kernel
def f_X10_lasts (x1 : Int32) (x2 : Int32) (M : Mm) : Option (Int32 × Mm) :=
  bv (f_X10_good  M) fun M1_1 => bd (f_X10_playWhy x1 x2 M1_1) fun v7_4 M7_3 => if v7_4 = 0 then (bv (f_X10_plays x1 x2 M7_3) fun M24_5 => some ((M24_5 81 29), M24_5)) else (bd (f_X10_no v7_4 M7_3) fun v17_8 M17_7 => some (v17_8, M17_7))
set_option maxHeartbeats 4000000 in
set_option maxRecDepth 100000 in
theorem s_X10_lasts {l : Launch} {B : BT} (hA : bA B = false) {d : Nat} {r : Int32} {M' : Mm} {x1 : Int32} {x2 : Int32} {M : Mm}  (h : f_X10_lasts x1 x2 M = some (r, M')) : Con l B LY (d + 5) yX10_lasts cX10_lasts 4 (some .int) 0 0 [.ref 81, .int x1, .int x2] 97 M (PI r M') := by
  refine con_of (by decide) (Nat.le_of_ble_eq_true rfl) ?_
  show GG l B LY (d + 5) yX10_lasts cX10_lasts 4 (some .int) 0 0 (PI r M') 97 0 0 0 [(0, .ref 81), (1, .int x1), (2, .int x2)] [] M
  rw [f_X10_lasts] at h
  refine g_aload_n dX10_lasts_0 rfl 0 rfl ?_
  obtain ⟨M1_1, eM1_1, h⟩ := bv_e h
  refine m_callVv (As := []) (st := []) (s_X10_good (d := d + 4) hA  eM1_1) rfl okX10 ck_X10_good w_1381 rfl (Nat.le_of_ble_eq_true rfl) dX10_lasts_1 ?_
  refine g_aload_n dX10_lasts_4 rfl 0 rfl ?_
  refine g_iload_n dX10_lasts_5 rfl 1 rfl ?_
  refine g_iload_n dX10_lasts_6 rfl 2 rfl ?_
  obtain ⟨v7_4, M7_3, eM7_3, h⟩ := bd_e h
  refine m_callVi (As := [.int x1, .int x2]) (st := []) (s_X10_playWhy (d := d + 3) hA  eM7_3) rfl okX10 ck_X10_playWhy w_1720 rfl (Nat.le_of_ble_eq_true rfl) dX10_lasts_7 ?_
  refine g_istore_n (lv' := [(3, .int v7_4), (0, .ref 81), (1, .int x1), (2, .int x2)]) dX10_lasts_10 rfl (by decide) rfl ?_
  refine g_iload_n dX10_lasts_11 rfl 0 rfl ?_
  refine g_if_eq (tgt := 21) dX10_lasts_12 (by decide) (fun c9 => ?_) (fun c9 => ?_)
  · replace h := ite_p c9 h
    refine g_aload_n dX10_lasts_21 rfl 1 rfl ?_
    refine g_iload_n dX10_lasts_22 rfl 2 rfl ?_
    refine g_iload_n dX10_lasts_23 rfl 3 rfl ?_
    obtain ⟨M24_5, eM24_5, h⟩ := bv_e h
    refine m_callVv (As := [.int x1, .int x2]) (st := []) (s_X10_plays (d := d + 0) hA  eM24_5) rfl okX10 ck_X10_plays w_1724 rfl (Nat.le_of_ble_eq_true rfl) dX10_lasts_24 ?_
    refine g_aload_n dX10_lasts_27 rfl 1 rfl ?_
    refine m_geti (k := 29) okX10 rfl rfl (by decide) w_1298 rfl dX10_lasts_28 ?_
    exact g_zret rfl rfl (pi_of h) dX10_lasts_31
  · replace h := ite_n c9 h
    refine g_aload_n dX10_lasts_15 rfl 1 rfl ?_
    refine g_iload_n dX10_lasts_16 rfl 0 rfl ?_
    obtain ⟨v17_8, M17_7, eM17_7, h⟩ := bd_e h
    refine m_callVi (As := [.int v7_4]) (st := []) (s_X10_no (d := d + 4) hA  eM17_7) rfl okX10 ck_X10_no w_1388 rfl (Nat.le_of_ble_eq_true rfl) dX10_lasts_17 ?_
    exact g_zret rfl rfl (pi_of h) dX10_lasts_20
theorem ck_X10_lasts : CKV yX10_lasts cX10_lasts 4 (some .int) 2 := ⟨⟨by decide, by decide, by decide +kernel⟩, w_1731, w_81, ⟨w_1729, w_1730⟩, by decide⟩
theorem dX10_sent_0 : decode cX10_sent 0 = .ok (.aload_n 0, 1) := by decide +kernel
theorem dX10_sent_1 : decode cX10_sent 1 = .ok (.invokevirtual 156, 3) := by decide +kernel
theorem dX10_sent_4 : decode cX10_sent 4 = .ok (.aload_n 0, 1) := by decide +kernel
theorem dX10_sent_5 : decode cX10_sent 5 = .ok (.iload_n 1, 1) := by decide +kernel
theorem dX10_sent_6 : decode cX10_sent 6 = .ok (.iload_n 2, 1) := by decide +kernel
theorem dX10_sent_7 : decode cX10_sent 7 = .ok (.invokevirtual 356, 3) := by decide +kernel
theorem dX10_sent_10 : decode cX10_sent 10 = .ok (.istore_n 3, 1) := by decide +kernel
theorem dX10_sent_11 : decode cX10_sent 11 = .ok (.iload_n 3, 1) := by decide +kernel
theorem dX10_sent_12 : decode cX10_sent 12 = .ok (.ifCond .eq 9, 3) := by decide +kernel
theorem dX10_sent_15 : decode cX10_sent 15 = .ok (.aload_n 0, 1) := by decide +kernel
theorem dX10_sent_16 : decode cX10_sent 16 = .ok (.iload_n 3, 1) := by decide +kernel
theorem dX10_sent_17 : decode cX10_sent 17 = .ok (.invokevirtual 159, 3) := by decide +kernel
theorem dX10_sent_20 : decode cX10_sent 20 = .ok (.ireturn, 1) := by decide +kernel
theorem dX10_sent_21 : decode cX10_sent 21 = .ok (.aload_n 0, 1) := by decide +kernel
theorem dX10_sent_22 : decode cX10_sent 22 = .ok (.iload_n 1, 1) := by decide +kernel
theorem dX10_sent_23 : decode cX10_sent 23 = .ok (.iload_n 2, 1) := by decide +kernel
theorem dX10_sent_24 : decode cX10_sent 24 = .ok (.invokevirtual 359, 3) := by decide +kernel
theorem dX10_sent_27 : decode cX10_sent 27 = .ok (.aload_n 0, 1) := by decide +kernel
theorem dX10_sent_28 : decode cX10_sent 28 = .ok (.getfield 353, 3) := by decide +kernel
theorem dX10_sent_31 : decode cX10_sent 31 = .ok (.ireturn, 1) := by decide +kernel
def f_X10_sent (x1 : Int32) (x2 : Int32) (M : Mm) : Option (Int32 × Mm) :=
  bv (f_X10_good  M) fun M1_1 => bd (f_X10_playWhy x1 x2 M1_1) fun v7_4 M7_3 => if v7_4 = 0 then (bv (f_X10_plays x1 x2 M7_3) fun M24_5 => some ((M24_5 81 30), M24_5)) else (bd (f_X10_no v7_4 M7_3) fun v17_8 M17_7 => some (v17_8, M17_7))
set_option maxHeartbeats 4000000 in
set_option maxRecDepth 100000 in
theorem s_X10_sent {l : Launch} {B : BT} (hA : bA B = false) {d : Nat} {r : Int32} {M' : Mm} {x1 : Int32} {x2 : Int32} {M : Mm}  (h : f_X10_sent x1 x2 M = some (r, M')) : Con l B LY (d + 5) yX10_sent cX10_sent 4 (some .int) 0 0 [.ref 81, .int x1, .int x2] 97 M (PI r M') := by
  refine con_of (by decide) (Nat.le_of_ble_eq_true rfl) ?_
  show GG l B LY (d + 5) yX10_sent cX10_sent 4 (some .int) 0 0 (PI r M') 97 0 0 0 [(0, .ref 81), (1, .int x1), (2, .int x2)] [] M
  rw [f_X10_sent] at h
  refine g_aload_n dX10_sent_0 rfl 0 rfl ?_
  obtain ⟨M1_1, eM1_1, h⟩ := bv_e h
  refine m_callVv (As := []) (st := []) (s_X10_good (d := d + 4) hA  eM1_1) rfl okX10 ck_X10_good w_1381 rfl (Nat.le_of_ble_eq_true rfl) dX10_sent_1 ?_
  refine g_aload_n dX10_sent_4 rfl 0 rfl ?_
  refine g_iload_n dX10_sent_5 rfl 1 rfl ?_
  refine g_iload_n dX10_sent_6 rfl 2 rfl ?_
  obtain ⟨v7_4, M7_3, eM7_3, h⟩ := bd_e h
  refine m_callVi (As := [.int x1, .int x2]) (st := []) (s_X10_playWhy (d := d + 3) hA  eM7_3) rfl okX10 ck_X10_playWhy w_1720 rfl (Nat.le_of_ble_eq_true rfl) dX10_sent_7 ?_
  refine g_istore_n (lv' := [(3, .int v7_4), (0, .ref 81), (1, .int x1), (2, .int x2)]) dX10_sent_10 rfl (by decide) rfl ?_
  refine g_iload_n dX10_sent_11 rfl 0 rfl ?_
  refine g_if_eq (tgt := 21) dX10_sent_12 (by decide) (fun c9 => ?_) (fun c9 => ?_)
  · replace h := ite_p c9 h
    refine g_aload_n dX10_sent_21 rfl 1 rfl ?_
    refine g_iload_n dX10_sent_22 rfl 2 rfl ?_
    refine g_iload_n dX10_sent_23 rfl 3 rfl ?_
    obtain ⟨M24_5, eM24_5, h⟩ := bv_e h
    refine m_callVv (As := [.int x1, .int x2]) (st := []) (s_X10_plays (d := d + 0) hA  eM24_5) rfl okX10 ck_X10_plays w_1724 rfl (Nat.le_of_ble_eq_true rfl) dX10_sent_24 ?_
    refine g_aload_n dX10_sent_27 rfl 1 rfl ?_
    refine m_geti (k := 30) okX10 rfl rfl (by decide) w_1299 rfl dX10_sent_28 ?_
    exact g_zret rfl rfl (pi_of h) dX10_sent_31
  · replace h := ite_n c9 h
    refine g_aload_n dX10_sent_15 rfl 1 rfl ?_
    refine g_iload_n dX10_sent_16 rfl 0 rfl ?_
    obtain ⟨v17_8, M17_7, eM17_7, h⟩ := bd_e h
    refine m_callVi (As := [.int v7_4]) (st := []) (s_X10_no (d := d + 4) hA  eM17_7) rfl okX10 ck_X10_no w_1388 rfl (Nat.le_of_ble_eq_true rfl) dX10_sent_17 ?_
    exact g_zret rfl rfl (pi_of h) dX10_sent_20
theorem ck_X10_sent : CKV yX10_sent cX10_sent 4 (some .int) 2 := ⟨⟨by decide, by decide, by decide +kernel⟩, w_1735, w_81, ⟨w_1733, w_1734⟩, by decide⟩
theorem dX10_looking_0 : decode cX10_looking 0 = .ok (.aload_n 0, 1) := by decide +kernel
theorem dX10_looking_1 : decode cX10_looking 1 = .ok (.invokevirtual 156, 3) := by decide +kernel
theorem dX10_looking_4 : decode cX10_looking 4 = .ok (.aload_n 0, 1) := by decide +kernel
theorem dX10_looking_5 : decode cX10_looking 5 = .ok (.iload_n 1, 1) := by decide +kernel
theorem dX10_looking_6 : decode cX10_looking 6 = .ok (.iload_n 2, 1) := by decide +kernel
theorem dX10_looking_7 : decode cX10_looking 7 = .ok (.invokevirtual 356, 3) := by decide +kernel
theorem dX10_looking_10 : decode cX10_looking 10 = .ok (.istore_n 3, 1) := by decide +kernel
theorem dX10_looking_11 : decode cX10_looking 11 = .ok (.iload_n 3, 1) := by decide +kernel
theorem dX10_looking_12 : decode cX10_looking 12 = .ok (.ifCond .eq 9, 3) := by decide +kernel
theorem dX10_looking_15 : decode cX10_looking 15 = .ok (.aload_n 0, 1) := by decide +kernel
theorem dX10_looking_16 : decode cX10_looking 16 = .ok (.iload_n 3, 1) := by decide +kernel
theorem dX10_looking_17 : decode cX10_looking 17 = .ok (.invokevirtual 159, 3) := by decide +kernel
theorem dX10_looking_20 : decode cX10_looking 20 = .ok (.ireturn, 1) := by decide +kernel
theorem dX10_looking_21 : decode cX10_looking 21 = .ok (.iconst 0, 1) := by decide +kernel
theorem dX10_looking_22 : decode cX10_looking 22 = .ok (.istore 4, 2) := by decide +kernel
theorem dX10_looking_24 : decode cX10_looking 24 = .ok (.iload_n 1, 1) := by decide +kernel
theorem dX10_looking_25 : decode cX10_looking 25 = .ok (.iconst 1, 1) := by decide +kernel
theorem dX10_looking_26 : decode cX10_looking 26 = .ok (.iadd, 1) := by decide +kernel
theorem dX10_looking_27 : decode cX10_looking 27 = .ok (.istore 5, 2) := by decide +kernel
theorem dX10_looking_29 : decode cX10_looking 29 = .ok (.iconst 0, 1) := by decide +kernel
theorem dX10_looking_30 : decode cX10_looking 30 = .ok (.istore 6, 2) := by decide +kernel
theorem dX10_looking_32 : decode cX10_looking 32 = .ok (.iload 6, 2) := by decide +kernel
theorem dX10_looking_34 : decode cX10_looking 34 = .ok (.aload_n 0, 1) := by decide +kernel
theorem dX10_looking_35 : decode cX10_looking 35 = .ok (.getfield 20, 3) := by decide +kernel
theorem dX10_looking_38 : decode cX10_looking 38 = .ok (.bipush 95, 2) := by decide +kernel
theorem dX10_looking_40 : decode cX10_looking 40 = .ok (.iaload, 1) := by decide +kernel
theorem dX10_looking_41 : decode cX10_looking 41 = .ok (.if_icmp .gt 77, 3) := by decide +kernel
theorem dX10_looking_44 : decode cX10_looking 44 = .ok (.aload_n 0, 1) := by decide +kernel
theorem dX10_looking_45 : decode cX10_looking 45 = .ok (.iload 6, 2) := by decide +kernel
theorem dX10_looking_47 : decode cX10_looking 47 = .ok (.putfield 32, 3) := by decide +kernel
theorem dX10_looking_50 : decode cX10_looking 50 = .ok (.aload_n 0, 1) := by decide +kernel
theorem dX10_looking_51 : decode cX10_looking 51 = .ok (.iload_n 1, 1) := by decide +kernel
theorem dX10_looking_52 : decode cX10_looking 52 = .ok (.iload_n 2, 1) := by decide +kernel
theorem dX10_looking_53 : decode cX10_looking 53 = .ok (.invokevirtual 359, 3) := by decide +kernel
theorem dX10_looking_56 : decode cX10_looking 56 = .ok (.iconst 0, 1) := by decide +kernel
theorem dX10_looking_57 : decode cX10_looking 57 = .ok (.istore 7, 2) := by decide +kernel
theorem dX10_looking_59 : decode cX10_looking 59 = .ok (.iconst 0, 1) := by decide +kernel
theorem dX10_looking_60 : decode cX10_looking 60 = .ok (.istore 8, 2) := by decide +kernel
theorem dX10_looking_62 : decode cX10_looking 62 = .ok (.iload 8, 2) := by decide +kernel
theorem dX10_looking_64 : decode cX10_looking 64 = .ok (.iload_n 1, 1) := by decide +kernel
theorem dX10_looking_65 : decode cX10_looking 65 = .ok (.if_icmp .ge 29, 3) := by decide +kernel
theorem dX10_looking_68 : decode cX10_looking 68 = .ok (.iload 7, 2) := by decide +kernel
theorem dX10_looking_70 : decode cX10_looking 70 = .ok (.aload_n 0, 1) := by decide +kernel
theorem dX10_looking_71 : decode cX10_looking 71 = .ok (.getfield 53, 3) := by decide +kernel
theorem dX10_looking_74 : decode cX10_looking 74 = .ok (.iload 8, 2) := by decide +kernel
theorem dX10_looking_76 : decode cX10_looking 76 = .ok (.iaload, 1) := by decide +kernel
theorem dX10_looking_77 : decode cX10_looking 77 = .ok (.ifCond .lt 7, 3) := by decide +kernel
theorem dX10_looking_80 : decode cX10_looking 80 = .ok (.iconst 1, 1) := by decide +kernel
theorem dX10_looking_81 : decode cX10_looking 81 = .ok (.goto 4, 3) := by decide +kernel
theorem dX10_looking_84 : decode cX10_looking 84 = .ok (.iconst 0, 1) := by decide +kernel
theorem dX10_looking_85 : decode cX10_looking 85 = .ok (.iadd, 1) := by decide +kernel
theorem dX10_looking_86 : decode cX10_looking 86 = .ok (.istore 7, 2) := by decide +kernel
theorem dX10_looking_88 : decode cX10_looking 88 = .ok (.iinc 8 1, 3) := by decide +kernel
theorem dX10_looking_91 : decode cX10_looking 91 = .ok (.goto (-29), 3) := by decide +kernel
theorem dX10_looking_94 : decode cX10_looking 94 = .ok (.iload 7, 2) := by decide +kernel
theorem dX10_looking_96 : decode cX10_looking 96 = .ok (.iload 5, 2) := by decide +kernel
theorem dX10_looking_98 : decode cX10_looking 98 = .ok (.if_icmp .lt 6, 3) := by decide +kernel
theorem dX10_looking_101 : decode cX10_looking 101 = .ok (.goto 11, 3) := by decide +kernel
theorem dX10_looking_104 : decode cX10_looking 104 = .ok (.iload 7, 2) := by decide +kernel
theorem dX10_looking_106 : decode cX10_looking 106 = .ok (.istore 5, 2) := by decide +kernel
theorem dX10_looking_108 : decode cX10_looking 108 = .ok (.iload 6, 2) := by decide +kernel
theorem dX10_looking_110 : decode cX10_looking 110 = .ok (.istore 4, 2) := by decide +kernel
theorem dX10_looking_112 : decode cX10_looking 112 = .ok (.iinc 6 1, 3) := by decide +kernel
theorem dX10_looking_115 : decode cX10_looking 115 = .ok (.goto (-83), 3) := by decide +kernel
theorem dX10_looking_118 : decode cX10_looking 118 = .ok (.aload_n 0, 1) := by decide +kernel
theorem dX10_looking_119 : decode cX10_looking 119 = .ok (.iconst (-1), 1) := by decide +kernel
theorem dX10_looking_120 : decode cX10_looking 120 = .ok (.putfield 32, 3) := by decide +kernel
theorem dX10_looking_123 : decode cX10_looking 123 = .ok (.iload 4, 2) := by decide +kernel
theorem dX10_looking_125 : decode cX10_looking 125 = .ok (.ireturn, 1) := by decide +kernel
def lp_X10_looking_62 (y1 : Int32) (y2 : Int32) (y4 : Int32) (y5 : Int32) (y6 : Int32) (k94 : Int32 → Mm → Option (Int32 × Mm)) : Nat → Int32 → Int32 → Mm → Option (Int32 × Mm)
  | 0, _, _, _ => none
  | n + 1, y7, y8, M =>
    if y1 ≤ y8 then (k94 y7 M) else (gd (inb y8 20) <| jn (fun (s7 : Int32) (M8 : Mm) => lp_X10_looking_62 y1 y2 y4 y5 y6 k94 n (y7 + s7) (y8 + (nI 1)) M8) fun j9 => if (M 94 y8.toNatClampNeg) < 0 then (j9 (nI 0) M) else (j9 (nI 1) M))
def lp_X10_looking_32 (y1 : Int32) (y2 : Int32) (k118 : Int32 → Mm → Option (Int32 × Mm)) : Nat → Int32 → Int32 → Int32 → Mm → Option (Int32 × Mm)
  | 0, _, _, _, _ => none
  | n + 1, y4, y5, y6, M =>
    if (M 84 95) < y6 then (k118 y4 M) else (bv (f_X10_plays y1 y2 (mset M 81 20 y6)) fun M53_5 => lp_X10_looking_62 y1 y2 y4 y5 y6 (fun (u12 : Int32) (M13 : Mm) => jn (fun (u14 : Int32) (u15 : Int32) (M16 : Mm) => lp_X10_looking_32 y1 y2 k118 n u14 u15 (y6 + (nI 1)) M16) fun j17 => if u12 < y5 then (j17 y6 u12 M13) else (j17 y4 y5 M13)) N0 (nI 0) (nI 0) M53_5)
def f_X10_looking (x1 : Int32) (x2 : Int32) (M : Mm) : Option (Int32 × Mm) :=
  bv (f_X10_good  M) fun M1_1 => bd (f_X10_playWhy x1 x2 M1_1) fun v7_4 M7_3 => if v7_4 = 0 then (lp_X10_looking_32 x1 x2 (fun (u20 : Int32) (M21 : Mm) => some (u20, (mset M21 81 20 (-1 : Int32)))) N0 (nI 0) (x1 + (nI 1)) (nI 0) M7_3) else (bd (f_X10_no v7_4 M7_3) fun v17_23 M17_22 => some (v17_23, M17_22))
set_option maxHeartbeats 4000000 in
set_option maxRecDepth 100000 in
theorem sl_X10_looking_62 {l : Launch} {B : BT} (hA : bA B = false) {d : Nat} {r : Int32} {M' : Mm} {y1 : Int32} {y2 : Int32} {y4 : Int32} {y5 : Int32} {y6 : Int32}  {k94 : Int32 → Mm → Option (Int32 × Mm)} (hk94 : ∀ (z7 : Int32) (M9 : Mm), k94 z7 M9 = some (r, M') → GG l B LY (d + 5) yX10_looking cX10_looking 9 (some .int) 0 0 (PI r M') 97 0 0 94 [(0, .ref 81), (1, .int y1), (2, .int y2), (4, .int y4), (5, .int y5), (6, .int y6), (7, .int z7)] [] M9) :
    ∀ (n : Nat) (y7 : Int32) (y8 : Int32) (M : Mm), lp_X10_looking_62 y1 y2 y4 y5 y6 k94 n y7 y8 M = some (r, M') → GG l B LY (d + 5) yX10_looking cX10_looking 9 (some .int) 0 0 (PI r M') 97 0 0 62 [(0, .ref 81), (1, .int y1), (2, .int y2), (4, .int y4), (5, .int y5), (6, .int y6), (7, .int y7), (8, .int y8)] [] M := by
  intro n
  induction n with
  | zero => intro y7 y8 M h; cases h
  | succ n ih =>
    intro y7 y8 M h
    rw [lp_X10_looking_62] at h
    refine g_iload dX10_looking_62 7 rfl ?_
    refine g_iload_n dX10_looking_64 rfl 1 rfl ?_
    refine g_icmp_ge (tgt := 94) dX10_looking_65 (by decide) (fun c11 => ?_) (fun c11 => ?_)
    · replace h := ite_p c11 h
      refine g_sub [0, 1, 2, 3, 4, 5, 6] (lv' := [(0, .ref 81), (1, .int y1), (2, .int y2), (4, .int y4), (5, .int y5), (6, .int y6), (7, .int y7)]) rfl ?_
      exact hk94 _ _ h
    · replace h := ite_n c11 h
      refine g_iload dX10_looking_68 6 rfl ?_
      refine g_aload_n dX10_looking_70 rfl 0 rfl ?_
      refine m_getr (k := 28) okX10 rfl rfl (by decide) w_1297 rfl dX10_looking_71 ?_
      refine g_iload dX10_looking_74 7 rfl ?_
      obtain ⟨hz, h⟩ := gd_s h
      refine m_iald rfl hz dX10_looking_76 ?_
      obtain ⟨j9, ej9, h⟩ := jn_e h
      have hj9 : ∀ (s7 : Int32) (M8 : Mm), j9 s7 M8 = some (r, M') → GG l B LY (d + 5) yX10_looking cX10_looking 9 (some .int) 0 0 (PI r M') 97 0 0 85 [(0, .ref 81), (1, .int y1), (2, .int y2), (4, .int y4), (5, .int y5), (6, .int y6), (8, .int y8)] [.int s7, .int y7] M8 := by
        intro s7 M8 h
        rw [ej9] at h
        refine g_iadd dX10_looking_85 ?_
        refine g_istore (lv' := [(7, .int (y7 + s7)), (0, .ref 81), (1, .int y1), (2, .int y2), (4, .int y4), (5, .int y5), (6, .int y6), (8, .int y8)]) dX10_looking_86 (by decide) rfl ?_
        refine g_iinc (v := (y8 + (nI 1))) (lv' := [(8, .int (y8 + (nI 1))), (7, .int (y7 + s7)), (0, .ref 81), (1, .int y1), (2, .int y2), (4, .int y4), (5, .int y5), (6, .int y6)]) dX10_looking_88 7 rfl rfl (by decide) rfl ?_
        refine g_goto (tgt := 62) dX10_looking_91 (by decide) ?_
        refine g_sub [2, 3, 4, 5, 6, 7, 1, 0] (lv' := [(0, .ref 81), (1, .int y1), (2, .int y2), (4, .int y4), (5, .int y5), (6, .int y6), (7, .int (y7 + s7)), (8, .int (y8 + (nI 1)))]) rfl ?_
        exact ih _ _  _ h
      refine g_if_lt (tgt := 84) dX10_looking_77 (by decide) (fun c10 => ?_) (fun c10 => ?_)
      · replace h := ite_p c10 h
        refine g_iconst (v := (nI 0)) dX10_looking_84 (by decide) ?_
        refine g_sub [0, 1, 2, 3, 4, 5, 7] (lv' := [(0, .ref 81), (1, .int y1), (2, .int y2), (4, .int y4), (5, .int y5), (6, .int y6), (8, .int y8)]) rfl ?_
        exact hj9 _ _ h
      · replace h := ite_n c10 h
        refine g_iconst (v := (nI 1)) dX10_looking_80 (by decide) ?_
        refine g_goto (tgt := 85) dX10_looking_81 (by decide) ?_
        refine g_sub [0, 1, 2, 3, 4, 5, 7] (lv' := [(0, .ref 81), (1, .int y1), (2, .int y2), (4, .int y4), (5, .int y5), (6, .int y6), (8, .int y8)]) rfl ?_
        exact hj9 _ _ h
set_option maxHeartbeats 4000000 in
set_option maxRecDepth 100000 in
theorem sl_X10_looking_32 {l : Launch} {B : BT} (hA : bA B = false) {d : Nat} {r : Int32} {M' : Mm} {y1 : Int32} {y2 : Int32}  {k118 : Int32 → Mm → Option (Int32 × Mm)} (hk118 : ∀ (z4 : Int32) (M9 : Mm), k118 z4 M9 = some (r, M') → GG l B LY (d + 5) yX10_looking cX10_looking 9 (some .int) 0 0 (PI r M') 97 0 0 118 [(0, .ref 81), (4, .int z4)] [] M9) :
    ∀ (n : Nat) (y4 : Int32) (y5 : Int32) (y6 : Int32) (M : Mm), lp_X10_looking_32 y1 y2 k118 n y4 y5 y6 M = some (r, M') → GG l B LY (d + 5) yX10_looking cX10_looking 9 (some .int) 0 0 (PI r M') 97 0 0 32 [(0, .ref 81), (1, .int y1), (2, .int y2), (4, .int y4), (5, .int y5), (6, .int y6)] [] M := by
  intro n
  induction n with
  | zero => intro y4 y5 y6 M h; cases h
  | succ n ih =>
    intro y4 y5 y6 M h
    rw [lp_X10_looking_32] at h
    refine g_iload dX10_looking_32 5 rfl ?_
    refine g_aload_n dX10_looking_34 rfl 0 rfl ?_
    refine m_getr (k := 15) okX10 rfl rfl (by decide) w_1284 rfl dX10_looking_35 ?_
    refine g_bipush (v := (nI 95)) dX10_looking_38 (by decide) ?_
    refine m_ialdL (k := 95) rfl rfl (by decide) dX10_looking_40 ?_
    refine g_icmp_gt (tgt := 118) dX10_looking_41 (by decide) (fun c19 => ?_) (fun c19 => ?_)
    · replace h := ite_p c19 h
      refine g_sub [0, 3] (lv' := [(0, .ref 81), (4, .int y4)]) rfl ?_
      exact hk118 _ _ h
    · replace h := ite_n c19 h
      refine g_aload_n dX10_looking_44 rfl 0 rfl ?_
      refine g_iload dX10_looking_45 5 rfl ?_
      refine m_puti (k := 20) okX10 rfl rfl (by decide) w_1289 rfl rfl rfl dX10_looking_47 ?_
      refine g_aload_n dX10_looking_50 rfl 0 rfl ?_
      refine g_iload_n dX10_looking_51 rfl 1 rfl ?_
      refine g_iload_n dX10_looking_52 rfl 2 rfl ?_
      obtain ⟨M53_5, eM53_5, h⟩ := bv_e h
      refine m_callVv (As := [.int y1, .int y2]) (st := []) (s_X10_plays (d := d + 0) hA  eM53_5) rfl okX10 ck_X10_plays w_1724 rfl (Nat.le_of_ble_eq_true rfl) dX10_looking_53 ?_
      refine g_iconst (v := (nI 0)) dX10_looking_56 (by decide) ?_
      refine g_istore (lv' := [(7, .int (nI 0)), (0, .ref 81), (1, .int y1), (2, .int y2), (4, .int y4), (5, .int y5), (6, .int y6)]) dX10_looking_57 (by decide) rfl ?_
      refine g_iconst (v := (nI 0)) dX10_looking_59 (by decide) ?_
      refine g_istore (lv' := [(8, .int (nI 0)), (7, .int (nI 0)), (0, .ref 81), (1, .int y1), (2, .int y2), (4, .int y4), (5, .int y5), (6, .int y6)]) dX10_looking_60 (by decide) rfl ?_
      refine g_sub [2, 3, 4, 5, 6, 7, 1, 0] (lv' := [(0, .ref 81), (1, .int y1), (2, .int y2), (4, .int y4), (5, .int y5), (6, .int y6), (7, .int (nI 0)), (8, .int (nI 0))]) rfl ?_
      refine sl_X10_looking_62 hA  ?_ _ _ _ _ h
      · intro u12 M13 h
        refine g_iload dX10_looking_94 6 rfl ?_
        refine g_iload dX10_looking_96 4 rfl ?_
        obtain ⟨j17, ej17, h⟩ := jn_e h
        have hj17 : ∀ (u14 : Int32) (u15 : Int32) (M16 : Mm), j17 u14 u15 M16 = some (r, M') → GG l B LY (d + 5) yX10_looking cX10_looking 9 (some .int) 0 0 (PI r M') 97 0 0 112 [(0, .ref 81), (1, .int y1), (2, .int y2), (4, .int u14), (5, .int u15), (6, .int y6)] [] M16 := by
          intro u14 u15 M16 h
          rw [ej17] at h
          refine g_iinc (v := (y6 + (nI 1))) (lv' := [(6, .int (y6 + (nI 1))), (0, .ref 81), (1, .int y1), (2, .int y2), (4, .int u14), (5, .int u15)]) dX10_looking_112 5 rfl rfl (by decide) rfl ?_
          refine g_goto (tgt := 32) dX10_looking_115 (by decide) ?_
          refine g_sub [1, 2, 3, 4, 5, 0] (lv' := [(0, .ref 81), (1, .int y1), (2, .int y2), (4, .int u14), (5, .int u15), (6, .int (y6 + (nI 1)))]) rfl ?_
          exact ih _ _ _  _ h
        refine g_icmp_lt (tgt := 104) dX10_looking_98 (by decide) (fun c18 => ?_) (fun c18 => ?_)
        · replace h := ite_p c18 h
          refine g_iload dX10_looking_104 6 rfl ?_
          refine g_istore (lv' := [(5, .int u12), (0, .ref 81), (1, .int y1), (2, .int y2), (4, .int y4), (6, .int y6), (7, .int u12)]) dX10_looking_106 (by decide) rfl ?_
          refine g_iload dX10_looking_108 5 rfl ?_
          refine g_istore (lv' := [(4, .int y6), (5, .int u12), (0, .ref 81), (1, .int y1), (2, .int y2), (6, .int y6), (7, .int u12)]) dX10_looking_110 (by decide) rfl ?_
          refine g_sub [2, 3, 4, 0, 1, 5] (lv' := [(0, .ref 81), (1, .int y1), (2, .int y2), (4, .int y6), (5, .int u12), (6, .int y6)]) rfl ?_
          exact hj17 _ _ _ h
        · replace h := ite_n c18 h
          refine g_goto (tgt := 112) dX10_looking_101 (by decide) ?_
          refine g_sub [0, 1, 2, 3, 4, 5] (lv' := [(0, .ref 81), (1, .int y1), (2, .int y2), (4, .int y4), (5, .int y5), (6, .int y6)]) rfl ?_
          exact hj17 _ _ _ h
set_option maxHeartbeats 4000000 in
set_option maxRecDepth 100000 in
theorem s_X10_looking {l : Launch} {B : BT} (hA : bA B = false) {d : Nat} {r : Int32} {M' : Mm} {x1 : Int32} {x2 : Int32} {M : Mm}  (h : f_X10_looking x1 x2 M = some (r, M')) : Con l B LY (d + 5) yX10_looking cX10_looking 9 (some .int) 0 0 [.ref 81, .int x1, .int x2] 97 M (PI r M') := by
  refine con_of (by decide) (Nat.le_of_ble_eq_true rfl) ?_
  show GG l B LY (d + 5) yX10_looking cX10_looking 9 (some .int) 0 0 (PI r M') 97 0 0 0 [(0, .ref 81), (1, .int x1), (2, .int x2)] [] M
  rw [f_X10_looking] at h
  refine g_aload_n dX10_looking_0 rfl 0 rfl ?_
  obtain ⟨M1_1, eM1_1, h⟩ := bv_e h
  refine m_callVv (As := []) (st := []) (s_X10_good (d := d + 4) hA  eM1_1) rfl okX10 ck_X10_good w_1381 rfl (Nat.le_of_ble_eq_true rfl) dX10_looking_1 ?_
  refine g_aload_n dX10_looking_4 rfl 0 rfl ?_
  refine g_iload_n dX10_looking_5 rfl 1 rfl ?_
  refine g_iload_n dX10_looking_6 rfl 2 rfl ?_
  obtain ⟨v7_4, M7_3, eM7_3, h⟩ := bd_e h
  refine m_callVi (As := [.int x1, .int x2]) (st := []) (s_X10_playWhy (d := d + 3) hA  eM7_3) rfl okX10 ck_X10_playWhy w_1720 rfl (Nat.le_of_ble_eq_true rfl) dX10_looking_7 ?_
  refine g_istore_n (lv' := [(3, .int v7_4), (0, .ref 81), (1, .int x1), (2, .int x2)]) dX10_looking_10 rfl (by decide) rfl ?_
  refine g_iload_n dX10_looking_11 rfl 0 rfl ?_
  refine g_if_eq (tgt := 21) dX10_looking_12 (by decide) (fun c24 => ?_) (fun c24 => ?_)
  · replace h := ite_p c24 h
    refine g_iconst (v := (nI 0)) dX10_looking_21 (by decide) ?_
    refine g_istore (lv' := [(4, .int (nI 0)), (3, .int v7_4), (0, .ref 81), (1, .int x1), (2, .int x2)]) dX10_looking_22 (by decide) rfl ?_
    refine g_iload_n dX10_looking_24 rfl 3 rfl ?_
    refine g_iconst (v := (nI 1)) dX10_looking_25 (by decide) ?_
    refine g_iadd dX10_looking_26 ?_
    refine g_istore (lv' := [(5, .int (x1 + (nI 1))), (4, .int (nI 0)), (3, .int v7_4), (0, .ref 81), (1, .int x1), (2, .int x2)]) dX10_looking_27 (by decide) rfl ?_
    refine g_iconst (v := (nI 0)) dX10_looking_29 (by decide) ?_
    refine g_istore (lv' := [(6, .int (nI 0)), (5, .int (x1 + (nI 1))), (4, .int (nI 0)), (3, .int v7_4), (0, .ref 81), (1, .int x1), (2, .int x2)]) dX10_looking_30 (by decide) rfl ?_
    refine g_sub [4, 5, 6, 2, 1, 0] (lv' := [(0, .ref 81), (1, .int x1), (2, .int x2), (4, .int (nI 0)), (5, .int (x1 + (nI 1))), (6, .int (nI 0))]) rfl ?_
    refine sl_X10_looking_32 hA  ?_ _ _ _ _ _ h
    · intro u20 M21 h
      refine g_aload_n dX10_looking_118 rfl 0 rfl ?_
      refine g_iconst (v := (-1 : Int32)) dX10_looking_119 (by decide) ?_
      refine m_puti (k := 20) okX10 rfl rfl (by decide) w_1289 rfl rfl rfl dX10_looking_120 ?_
      refine g_iload dX10_looking_123 1 rfl ?_
      exact g_zret rfl rfl (pi_of h) dX10_looking_125
  · replace h := ite_n c24 h
    refine g_aload_n dX10_looking_15 rfl 1 rfl ?_
    refine g_iload_n dX10_looking_16 rfl 0 rfl ?_
    obtain ⟨v17_23, M17_22, eM17_22, h⟩ := bd_e h
    refine m_callVi (As := [.int v7_4]) (st := []) (s_X10_no (d := d + 4) hA  eM17_22) rfl okX10 ck_X10_no w_1388 rfl (Nat.le_of_ble_eq_true rfl) dX10_looking_17 ?_
    exact g_zret rfl rfl (pi_of h) dX10_looking_20
theorem ck_X10_looking : CKV yX10_looking cX10_looking 9 (some .int) 2 := ⟨⟨by decide, by decide, by decide +kernel⟩, w_1739, w_81, ⟨w_1737, w_1738⟩, by decide⟩
theorem dX10_isFilmed_0 : decode cX10_isFilmed 0 = .ok (.aload_n 0, 1) := by decide +kernel
theorem dX10_isFilmed_1 : decode cX10_isFilmed 1 = .ok (.getfield 165, 3) := by decide +kernel
theorem dX10_isFilmed_4 : decode cX10_isFilmed 4 = .ok (.ifCond .eq 24, 3) := by decide +kernel
theorem dX10_isFilmed_7 : decode cX10_isFilmed 7 = .ok (.iload_n 1, 1) := by decide +kernel
theorem dX10_isFilmed_8 : decode cX10_isFilmed 8 = .ok (.iconst 0, 1) := by decide +kernel
theorem dX10_isFilmed_9 : decode cX10_isFilmed 9 = .ok (.aload_n 0, 1) := by decide +kernel
theorem dX10_isFilmed_10 : decode cX10_isFilmed 10 = .ok (.getfield 20, 3) := by decide +kernel
theorem dX10_isFilmed_13 : decode cX10_isFilmed 13 = .ok (.bipush 92, 2) := by decide +kernel
theorem dX10_isFilmed_15 : decode cX10_isFilmed 15 = .ok (.iaload, 1) := by decide +kernel
theorem dX10_isFilmed_16 : decode cX10_isFilmed 16 = .ok (.iconst 2, 1) := by decide +kernel
theorem dX10_isFilmed_17 : decode cX10_isFilmed 17 = .ok (.isub, 1) := by decide +kernel
theorem dX10_isFilmed_18 : decode cX10_isFilmed 18 = .ok (.invokestatic 144, 3) := by decide +kernel
theorem dX10_isFilmed_21 : decode cX10_isFilmed 21 = .ok (.ifCond .eq 7, 3) := by decide +kernel
theorem dX10_isFilmed_24 : decode cX10_isFilmed 24 = .ok (.iconst 1, 1) := by decide +kernel
theorem dX10_isFilmed_25 : decode cX10_isFilmed 25 = .ok (.goto 4, 3) := by decide +kernel
theorem dX10_isFilmed_28 : decode cX10_isFilmed 28 = .ok (.iconst 0, 1) := by decide +kernel
theorem dX10_isFilmed_29 : decode cX10_isFilmed 29 = .ok (.ireturn, 1) := by decide +kernel
def f_X10_isFilmed (x1 : Int32) (M : Mm) : Option (Int32 × Mm) :=
  jn (fun (M1 : Mm) => some ((nI 0), M1)) fun j2 => if (M 81 14) = 0 then (j2  M) else (bd (f_X10_within x1 (nI 0) ((M 84 92) - (nI 2)) M) fun v18_4 M18_3 => if v18_4 = 0 then (j2  M18_3) else (some ((nI 1), M18_3)))
set_option maxHeartbeats 4000000 in
set_option maxRecDepth 100000 in
theorem s_X10_isFilmed {l : Launch} {B : BT} (hA : bA B = false) {d : Nat} {r : Int32} {M' : Mm} {x1 : Int32} {M : Mm}  (h : f_X10_isFilmed x1 M = some (r, M')) : Con l B LY (d + 1) yX10_isFilmed cX10_isFilmed 2 (some .boolean) 0 0 [.ref 81, .int x1] 97 M (PI r M') := by
  refine con_of (by decide) (Nat.le_of_ble_eq_true rfl) ?_
  show GG l B LY (d + 1) yX10_isFilmed cX10_isFilmed 2 (some .boolean) 0 0 (PI r M') 97 0 0 0 [(0, .ref 81), (1, .int x1)] [] M
  rw [f_X10_isFilmed] at h
  refine g_aload_n dX10_isFilmed_0 rfl 0 rfl ?_
  refine m_geti (k := 14) okX10 rfl rfl (by decide) w_1283 rfl dX10_isFilmed_1 ?_
  obtain ⟨j2, ej2, h⟩ := jn_e h
  have hj2 : ∀ (M1 : Mm), j2 M1 = some (r, M') → GG l B LY (d + 1) yX10_isFilmed cX10_isFilmed 2 (some .boolean) 0 0 (PI r M') 97 0 0 28 [] [] M1 := by
    intro M1 h
    rw [ej2] at h
    refine g_iconst (v := (nI 0)) dX10_isFilmed_28 (by decide) ?_
    exact g_zret rfl rfl (pi_of h) dX10_isFilmed_29
  refine g_if_eq (tgt := 28) dX10_isFilmed_4 (by decide) (fun c6 => ?_) (fun c6 => ?_)
  · replace h := ite_p c6 h
    refine g_sub [] (lv' := []) rfl ?_
    exact hj2  _ h
  · replace h := ite_n c6 h
    refine g_iload_n dX10_isFilmed_7 rfl 1 rfl ?_
    refine g_iconst (v := (nI 0)) dX10_isFilmed_8 (by decide) ?_
    refine g_aload_n dX10_isFilmed_9 rfl 0 rfl ?_
    refine m_getr (k := 15) okX10 rfl rfl (by decide) w_1284 rfl dX10_isFilmed_10 ?_
    refine g_bipush (v := (nI 92)) dX10_isFilmed_13 (by decide) ?_
    refine m_ialdL (k := 92) rfl rfl (by decide) dX10_isFilmed_15 ?_
    refine g_iconst (v := (nI 2)) dX10_isFilmed_16 (by decide) ?_
    refine g_isub dX10_isFilmed_17 ?_
    obtain ⟨v18_4, M18_3, eM18_3, h⟩ := bd_e h
    refine m_callSi (As := [.int x1, .int (nI 0), .int ((M 84 92) - (nI 2))]) (st := []) (s_X10_within (d := d + 0) hA  eM18_3) ck_X10_within w_1385 rfl (Nat.le_of_ble_eq_true rfl) dX10_isFilmed_18 ?_
    refine g_if_eq (tgt := 28) dX10_isFilmed_21 (by decide) (fun c5 => ?_) (fun c5 => ?_)
    · replace h := ite_p c5 h
      refine g_sub [] (lv' := []) rfl ?_
      exact hj2  _ h
    · replace h := ite_n c5 h
      refine g_iconst (v := (nI 1)) dX10_isFilmed_24 (by decide) ?_
      refine g_goto (tgt := 29) dX10_isFilmed_25 (by decide) ?_
      exact g_zret rfl rfl (pi_of h) dX10_isFilmed_29
theorem ck_X10_isFilmed : CKV yX10_isFilmed cX10_isFilmed 2 (some .boolean) 1 := ⟨⟨by decide, by decide, by decide +kernel⟩, w_1747, w_81, ⟨w_1746, w_62⟩, by decide⟩
theorem dX10_film_0 : decode cX10_film 0 = .ok (.aload_n 0, 1) := by decide +kernel
theorem dX10_film_1 : decode cX10_film 1 = .ok (.invokevirtual 156, 3) := by decide +kernel
theorem dX10_film_4 : decode cX10_film 4 = .ok (.aload_n 0, 1) := by decide +kernel
theorem dX10_film_5 : decode cX10_film 5 = .ok (.iload_n 1, 1) := by decide +kernel
theorem dX10_film_6 : decode cX10_film 6 = .ok (.invokevirtual 362, 3) := by decide +kernel
theorem dX10_film_9 : decode cX10_film 9 = .ok (.ifCond .ne 9, 3) := by decide +kernel
theorem dX10_film_12 : decode cX10_film 12 = .ok (.aload_n 0, 1) := by decide +kernel
theorem dX10_film_13 : decode cX10_film 13 = .ok (.iconst 1, 1) := by decide +kernel
theorem dX10_film_14 : decode cX10_film 14 = .ok (.invokevirtual 159, 3) := by decide +kernel
theorem dX10_film_17 : decode cX10_film 17 = .ok (.ireturn, 1) := by decide +kernel
theorem dX10_film_18 : decode cX10_film 18 = .ok (.aload_n 0, 1) := by decide +kernel
theorem dX10_film_19 : decode cX10_film 19 = .ok (.getfield 175, 3) := by decide +kernel
theorem dX10_film_22 : decode cX10_film 22 = .ok (.bipush 30, 2) := by decide +kernel
theorem dX10_film_24 : decode cX10_film 24 = .ok (.if_icmp .ne 9, 3) := by decide +kernel
theorem dX10_film_27 : decode cX10_film 27 = .ok (.aload_n 0, 1) := by decide +kernel
theorem dX10_film_28 : decode cX10_film 28 = .ok (.iconst 3, 1) := by decide +kernel
theorem dX10_film_29 : decode cX10_film 29 = .ok (.invokevirtual 159, 3) := by decide +kernel
theorem dX10_film_32 : decode cX10_film 32 = .ok (.ireturn, 1) := by decide +kernel
theorem dX10_film_33 : decode cX10_film 33 = .ok (.aload_n 0, 1) := by decide +kernel
theorem dX10_film_34 : decode cX10_film 34 = .ok (.getfield 35, 3) := by decide +kernel
theorem dX10_film_37 : decode cX10_film 37 = .ok (.aload_n 0, 1) := by decide +kernel
theorem dX10_film_38 : decode cX10_film 38 = .ok (.getfield 175, 3) := by decide +kernel
theorem dX10_film_41 : decode cX10_film 41 = .ok (.iload_n 1, 1) := by decide +kernel
theorem dX10_film_42 : decode cX10_film 42 = .ok (.iastore, 1) := by decide +kernel
theorem dX10_film_43 : decode cX10_film 43 = .ok (.aload_n 0, 1) := by decide +kernel
theorem dX10_film_44 : decode cX10_film 44 = .ok (.getfield 38, 3) := by decide +kernel
theorem dX10_film_47 : decode cX10_film 47 = .ok (.aload_n 0, 1) := by decide +kernel
theorem dX10_film_48 : decode cX10_film 48 = .ok (.getfield 175, 3) := by decide +kernel
theorem dX10_film_51 : decode cX10_film 51 = .ok (.iload_n 2, 1) := by decide +kernel
theorem dX10_film_52 : decode cX10_film 52 = .ok (.ifCond .eq 7, 3) := by decide +kernel
theorem dX10_film_55 : decode cX10_film 55 = .ok (.iconst 1, 1) := by decide +kernel
theorem dX10_film_56 : decode cX10_film 56 = .ok (.goto 4, 3) := by decide +kernel
theorem dX10_film_59 : decode cX10_film 59 = .ok (.iconst 0, 1) := by decide +kernel
theorem dX10_film_60 : decode cX10_film 60 = .ok (.iastore, 1) := by decide +kernel
theorem dX10_film_61 : decode cX10_film 61 = .ok (.aload_n 0, 1) := by decide +kernel
theorem dX10_film_62 : decode cX10_film 62 = .ok (.getfield 41, 3) := by decide +kernel
theorem dX10_film_65 : decode cX10_film 65 = .ok (.aload_n 0, 1) := by decide +kernel
theorem dX10_film_66 : decode cX10_film 66 = .ok (.getfield 175, 3) := by decide +kernel
theorem dX10_film_69 : decode cX10_film 69 = .ok (.iload_n 3, 1) := by decide +kernel
theorem dX10_film_70 : decode cX10_film 70 = .ok (.ifCond .eq 7, 3) := by decide +kernel
theorem dX10_film_73 : decode cX10_film 73 = .ok (.iconst 1, 1) := by decide +kernel
theorem dX10_film_74 : decode cX10_film 74 = .ok (.goto 4, 3) := by decide +kernel
theorem dX10_film_77 : decode cX10_film 77 = .ok (.iconst 0, 1) := by decide +kernel
theorem dX10_film_78 : decode cX10_film 78 = .ok (.iastore, 1) := by decide +kernel
theorem dX10_film_79 : decode cX10_film 79 = .ok (.aload_n 0, 1) := by decide +kernel
theorem dX10_film_80 : decode cX10_film 80 = .ok (.dup, 1) := by decide +kernel
theorem dX10_film_81 : decode cX10_film 81 = .ok (.getfield 175, 3) := by decide +kernel
theorem dX10_film_84 : decode cX10_film 84 = .ok (.iconst 1, 1) := by decide +kernel
theorem dX10_film_85 : decode cX10_film 85 = .ok (.iadd, 1) := by decide +kernel
theorem dX10_film_86 : decode cX10_film 86 = .ok (.putfield 175, 3) := by decide +kernel
theorem dX10_film_89 : decode cX10_film 89 = .ok (.aload_n 0, 1) := by decide +kernel
theorem dX10_film_90 : decode cX10_film 90 = .ok (.getfield 175, 3) := by decide +kernel
theorem dX10_film_93 : decode cX10_film 93 = .ok (.ireturn, 1) := by decide +kernel
def f_X10_film (x1 : Int32) (x2 : Int32) (x3 : Int32) (M : Mm) : Option (Int32 × Mm) :=
  bv (f_X10_good  M) fun M1_1 => bd (f_X10_isFilmed x1 M1_1) fun v6_4 M6_3 => if v6_4 = 0 then (bd (f_X10_no (nI 1) M6_3) fun v14_17 M14_16 => some (v14_17, M14_16)) else (if (M6_3 81 26) = (nI 30) then (bd (f_X10_no (nI 3) M6_3) fun v29_14 M29_13 => some (v29_14, M29_13)) else (gd (inb (M6_3 81 26) 30) <| jn (fun (s5 : Int32) (M6 : Mm) => gd (inb ((mset M6_3 88 (M6_3 81 26).toNatClampNeg x1) 81 26) 30) <| jn (fun (s8 : Int32) (M9 : Mm) => gd (inb ((mset M6 89 ((mset M6_3 88 (M6_3 81 26).toNatClampNeg x1) 81 26).toNatClampNeg s5) 81 26) 30) <| some (((mset (mset M9 90 ((mset M6 89 ((mset M6_3 88 (M6_3 81 26).toNatClampNeg x1) 81 26).toNatClampNeg s5) 81 26).toNatClampNeg s8) 81 26 (((mset M9 90 ((mset M6 89 ((mset M6_3 88 (M6_3 81 26).toNatClampNeg x1) 81 26).toNatClampNeg s5) 81 26).toNatClampNeg s8) 81 26) + (nI 1))) 81 26), (mset (mset M9 90 ((mset M6 89 ((mset M6_3 88 (M6_3 81 26).toNatClampNeg x1) 81 26).toNatClampNeg s5) 81 26).toNatClampNeg s8) 81 26 (((mset M9 90 ((mset M6 89 ((mset M6_3 88 (M6_3 81 26).toNatClampNeg x1) 81 26).toNatClampNeg s5) 81 26).toNatClampNeg s8) 81 26) + (nI 1))))) fun j10 => if x3 = 0 then (j10 (nI 0) (mset M6 89 ((mset M6_3 88 (M6_3 81 26).toNatClampNeg x1) 81 26).toNatClampNeg s5)) else (j10 (nI 1) (mset M6 89 ((mset M6_3 88 (M6_3 81 26).toNatClampNeg x1) 81 26).toNatClampNeg s5))) fun j7 => if x2 = 0 then (j7 (nI 0) (mset M6_3 88 (M6_3 81 26).toNatClampNeg x1)) else (j7 (nI 1) (mset M6_3 88 (M6_3 81 26).toNatClampNeg x1))))
set_option maxHeartbeats 4000000 in
set_option maxRecDepth 100000 in
theorem s_X10_film {l : Launch} {B : BT} (hA : bA B = false) {d : Nat} {r : Int32} {M' : Mm} {x1 : Int32} {x2 : Int32} {x3 : Int32} {M : Mm}  (h : f_X10_film x1 x2 x3 M = some (r, M')) : Con l B LY (d + 2) yX10_film cX10_film 4 (some .int) 0 0 [.ref 81, .int x1, .int x2, .int x3] 97 M (PI r M') := by
  refine con_of (by decide) (Nat.le_of_ble_eq_true rfl) ?_
  show GG l B LY (d + 2) yX10_film cX10_film 4 (some .int) 0 0 (PI r M') 97 0 0 0 [(0, .ref 81), (1, .int x1), (2, .int x2), (3, .int x3)] [] M
  rw [f_X10_film] at h
  refine g_aload_n dX10_film_0 rfl 0 rfl ?_
  obtain ⟨M1_1, eM1_1, h⟩ := bv_e h
  refine m_callVv (As := []) (st := []) (s_X10_good (d := d + 1) hA  eM1_1) rfl okX10 ck_X10_good w_1381 rfl (Nat.le_of_ble_eq_true rfl) dX10_film_1 ?_
  refine g_aload_n dX10_film_4 rfl 0 rfl ?_
  refine g_iload_n dX10_film_5 rfl 1 rfl ?_
  obtain ⟨v6_4, M6_3, eM6_3, h⟩ := bd_e h
  refine m_callVi (As := [.int x1]) (st := []) (s_X10_isFilmed (d := d + 0) hA  eM6_3) rfl okX10 ck_X10_isFilmed w_1744 rfl (Nat.le_of_ble_eq_true rfl) dX10_film_6 ?_
  refine g_if_ne (tgt := 18) dX10_film_9 (by decide) (fun c18 => ?_) (fun c18 => ?_)
  · replace h := ite_n c18 h
    refine g_aload_n dX10_film_18 rfl 0 rfl ?_
    refine m_geti (k := 26) okX10 rfl rfl (by decide) w_1295 rfl dX10_film_19 ?_
    refine g_bipush (v := (nI 30)) dX10_film_22 (by decide) ?_
    refine g_icmp_ne (tgt := 33) dX10_film_24 (by decide) (fun c15 => ?_) (fun c15 => ?_)
    · replace h := ite_n c15 h
      refine g_aload_n dX10_film_33 rfl 0 rfl ?_
      refine m_getr (k := 21) okX10 rfl rfl (by decide) w_1290 rfl dX10_film_34 ?_
      refine g_aload_n dX10_film_37 rfl 0 rfl ?_
      refine m_geti (k := 26) okX10 rfl rfl (by decide) w_1295 rfl dX10_film_38 ?_
      refine g_iload_n dX10_film_41 rfl 1 rfl ?_
      obtain ⟨hz, h⟩ := gd_s h
      refine m_iast hA rfl hz dX10_film_42 ?_
      refine g_aload_n dX10_film_43 rfl 0 rfl ?_
      refine m_getr (k := 22) okX10 rfl rfl (by decide) w_1291 rfl dX10_film_44 ?_
      refine g_aload_n dX10_film_47 rfl 0 rfl ?_
      refine m_geti (k := 26) okX10 rfl rfl (by decide) w_1295 rfl dX10_film_48 ?_
      refine g_iload_n dX10_film_51 rfl 2 rfl ?_
      obtain ⟨j7, ej7, h⟩ := jn_e h
      have hj7 : ∀ (s5 : Int32) (M6 : Mm), j7 s5 M6 = some (r, M') → GG l B LY (d + 2) yX10_film cX10_film 4 (some .int) 0 0 (PI r M') 97 0 0 60 [(0, .ref 81), (3, .int x3)] [.int s5, .int ((mset M6_3 88 (M6_3 81 26).toNatClampNeg x1) 81 26), .ref 89] M6 := by
        intro s5 M6 h
        rw [ej7] at h
        obtain ⟨hz, h⟩ := gd_s h
        refine m_iast hA rfl hz dX10_film_60 ?_
        refine g_aload_n dX10_film_61 rfl 0 rfl ?_
        refine m_getr (k := 23) okX10 rfl rfl (by decide) w_1292 rfl dX10_film_62 ?_
        refine g_aload_n dX10_film_65 rfl 0 rfl ?_
        refine m_geti (k := 26) okX10 rfl rfl (by decide) w_1295 rfl dX10_film_66 ?_
        refine g_iload_n dX10_film_69 rfl 1 rfl ?_
        obtain ⟨j10, ej10, h⟩ := jn_e h
        have hj10 : ∀ (s8 : Int32) (M9 : Mm), j10 s8 M9 = some (r, M') → GG l B LY (d + 2) yX10_film cX10_film 4 (some .int) 0 0 (PI r M') 97 0 0 78 [(0, .ref 81)] [.int s8, .int ((mset M6 89 ((mset M6_3 88 (M6_3 81 26).toNatClampNeg x1) 81 26).toNatClampNeg s5) 81 26), .ref 90] M9 := by
          intro s8 M9 h
          rw [ej10] at h
          obtain ⟨hz, h⟩ := gd_s h
          refine m_iast hA rfl hz dX10_film_78 ?_
          refine g_aload_n dX10_film_79 rfl 0 rfl ?_
          refine g_dup dX10_film_80 rfl ?_
          refine m_geti (k := 26) okX10 rfl rfl (by decide) w_1295 rfl dX10_film_81 ?_
          refine g_iconst (v := (nI 1)) dX10_film_84 (by decide) ?_
          refine g_iadd dX10_film_85 ?_
          refine m_puti (k := 26) okX10 rfl rfl (by decide) w_1295 rfl rfl rfl dX10_film_86 ?_
          refine g_aload_n dX10_film_89 rfl 0 rfl ?_
          refine m_geti (k := 26) okX10 rfl rfl (by decide) w_1295 rfl dX10_film_90 ?_
          exact g_zret rfl rfl (pi_of h) dX10_film_93
        refine g_if_eq (tgt := 77) dX10_film_70 (by decide) (fun c11 => ?_) (fun c11 => ?_)
        · replace h := ite_p c11 h
          refine g_iconst (v := (nI 0)) dX10_film_77 (by decide) ?_
          refine g_sub [0] (lv' := [(0, .ref 81)]) rfl ?_
          exact hj10 _ _ h
        · replace h := ite_n c11 h
          refine g_iconst (v := (nI 1)) dX10_film_73 (by decide) ?_
          refine g_goto (tgt := 78) dX10_film_74 (by decide) ?_
          refine g_sub [0] (lv' := [(0, .ref 81)]) rfl ?_
          exact hj10 _ _ h
      refine g_if_eq (tgt := 59) dX10_film_52 (by decide) (fun c12 => ?_) (fun c12 => ?_)
      · replace h := ite_p c12 h
        refine g_iconst (v := (nI 0)) dX10_film_59 (by decide) ?_
        refine g_sub [0, 3] (lv' := [(0, .ref 81), (3, .int x3)]) rfl ?_
        exact hj7 _ _ h
      · replace h := ite_n c12 h
        refine g_iconst (v := (nI 1)) dX10_film_55 (by decide) ?_
        refine g_goto (tgt := 60) dX10_film_56 (by decide) ?_
        refine g_sub [0, 3] (lv' := [(0, .ref 81), (3, .int x3)]) rfl ?_
        exact hj7 _ _ h
    · replace h := ite_p c15 h
      refine g_aload_n dX10_film_27 rfl 0 rfl ?_
      refine g_iconst (v := (nI 3)) dX10_film_28 (by decide) ?_
      obtain ⟨v29_14, M29_13, eM29_13, h⟩ := bd_e h
      refine m_callVi (As := [.int (nI 3)]) (st := []) (s_X10_no (d := d + 1) hA  eM29_13) rfl okX10 ck_X10_no w_1388 rfl (Nat.le_of_ble_eq_true rfl) dX10_film_29 ?_
      exact g_zret rfl rfl (pi_of h) dX10_film_32
  · replace h := ite_p c18 h
    refine g_aload_n dX10_film_12 rfl 0 rfl ?_
    refine g_iconst (v := (nI 1)) dX10_film_13 (by decide) ?_
    obtain ⟨v14_17, M14_16, eM14_16, h⟩ := bd_e h
    refine m_callVi (As := [.int (nI 1)]) (st := []) (s_X10_no (d := d + 1) hA  eM14_16) rfl okX10 ck_X10_no w_1388 rfl (Nat.le_of_ble_eq_true rfl) dX10_film_14 ?_
    exact g_zret rfl rfl (pi_of h) dX10_film_17
theorem ck_X10_film : CKV yX10_film cX10_film 4 (some .int) 3 := ⟨⟨by decide, by decide, by decide +kernel⟩, w_1743, w_81, ⟨w_1741, w_1742⟩, by decide⟩
theorem dX10_lawOf_0 : decode cX10_lawOf 0 = .ok (.iconst 0, 1) := by decide +kernel
theorem dX10_lawOf_1 : decode cX10_lawOf 1 = .ok (.istore_n 3, 1) := by decide +kernel
theorem dX10_lawOf_2 : decode cX10_lawOf 2 = .ok (.iconst 0, 1) := by decide +kernel
theorem dX10_lawOf_3 : decode cX10_lawOf 3 = .ok (.istore 4, 2) := by decide +kernel
theorem dX10_lawOf_5 : decode cX10_lawOf 5 = .ok (.iconst 0, 1) := by decide +kernel
theorem dX10_lawOf_6 : decode cX10_lawOf 6 = .ok (.istore 5, 2) := by decide +kernel
theorem dX10_lawOf_8 : decode cX10_lawOf 8 = .ok (.iload 5, 2) := by decide +kernel
theorem dX10_lawOf_10 : decode cX10_lawOf 10 = .ok (.aload_n 0, 1) := by decide +kernel
theorem dX10_lawOf_11 : decode cX10_lawOf 11 = .ok (.getfield 175, 3) := by decide +kernel
theorem dX10_lawOf_14 : decode cX10_lawOf 14 = .ok (.if_icmp .ge 53, 3) := by decide +kernel
theorem dX10_lawOf_17 : decode cX10_lawOf 17 = .ok (.aload_n 0, 1) := by decide +kernel
theorem dX10_lawOf_18 : decode cX10_lawOf 18 = .ok (.getfield 35, 3) := by decide +kernel
theorem dX10_lawOf_21 : decode cX10_lawOf 21 = .ok (.iload 5, 2) := by decide +kernel
theorem dX10_lawOf_23 : decode cX10_lawOf 23 = .ok (.iaload, 1) := by decide +kernel
theorem dX10_lawOf_24 : decode cX10_lawOf 24 = .ok (.iload_n 1, 1) := by decide +kernel
theorem dX10_lawOf_25 : decode cX10_lawOf 25 = .ok (.if_icmp .ne 36, 3) := by decide +kernel
theorem dX10_lawOf_28 : decode cX10_lawOf 28 = .ok (.iload_n 2, 1) := by decide +kernel
theorem dX10_lawOf_29 : decode cX10_lawOf 29 = .ok (.ifCond .lt 17, 3) := by decide +kernel
theorem dX10_lawOf_32 : decode cX10_lawOf 32 = .ok (.aload_n 0, 1) := by decide +kernel
theorem dX10_lawOf_33 : decode cX10_lawOf 33 = .ok (.getfield 38, 3) := by decide +kernel
theorem dX10_lawOf_36 : decode cX10_lawOf 36 = .ok (.iload 5, 2) := by decide +kernel
theorem dX10_lawOf_38 : decode cX10_lawOf 38 = .ok (.iaload, 1) := by decide +kernel
theorem dX10_lawOf_39 : decode cX10_lawOf 39 = .ok (.iload_n 2, 1) := by decide +kernel
theorem dX10_lawOf_40 : decode cX10_lawOf 40 = .ok (.if_icmp .eq 6, 3) := by decide +kernel
theorem dX10_lawOf_43 : decode cX10_lawOf 43 = .ok (.goto 18, 3) := by decide +kernel
theorem dX10_lawOf_46 : decode cX10_lawOf 46 = .ok (.iinc 3 1, 3) := by decide +kernel
theorem dX10_lawOf_49 : decode cX10_lawOf 49 = .ok (.iload 4, 2) := by decide +kernel
theorem dX10_lawOf_51 : decode cX10_lawOf 51 = .ok (.aload_n 0, 1) := by decide +kernel
theorem dX10_lawOf_52 : decode cX10_lawOf 52 = .ok (.getfield 41, 3) := by decide +kernel
theorem dX10_lawOf_55 : decode cX10_lawOf 55 = .ok (.iload 5, 2) := by decide +kernel
theorem dX10_lawOf_57 : decode cX10_lawOf 57 = .ok (.iaload, 1) := by decide +kernel
theorem dX10_lawOf_58 : decode cX10_lawOf 58 = .ok (.iadd, 1) := by decide +kernel
theorem dX10_lawOf_59 : decode cX10_lawOf 59 = .ok (.istore 4, 2) := by decide +kernel
theorem dX10_lawOf_61 : decode cX10_lawOf 61 = .ok (.iinc 5 1, 3) := by decide +kernel
theorem dX10_lawOf_64 : decode cX10_lawOf 64 = .ok (.goto (-56), 3) := by decide +kernel
theorem dX10_lawOf_67 : decode cX10_lawOf 67 = .ok (.iload_n 3, 1) := by decide +kernel
theorem dX10_lawOf_68 : decode cX10_lawOf 68 = .ok (.ifCond .ne 7, 3) := by decide +kernel
theorem dX10_lawOf_71 : decode cX10_lawOf 71 = .ok (.iconst (-1), 1) := by decide +kernel
theorem dX10_lawOf_72 : decode cX10_lawOf 72 = .ok (.goto 10, 3) := by decide +kernel
theorem dX10_lawOf_75 : decode cX10_lawOf 75 = .ok (.bipush 100, 2) := by decide +kernel
theorem dX10_lawOf_77 : decode cX10_lawOf 77 = .ok (.iload 4, 2) := by decide +kernel
theorem dX10_lawOf_79 : decode cX10_lawOf 79 = .ok (.imul, 1) := by decide +kernel
theorem dX10_lawOf_80 : decode cX10_lawOf 80 = .ok (.iload_n 3, 1) := by decide +kernel
theorem dX10_lawOf_81 : decode cX10_lawOf 81 = .ok (.idiv, 1) := by decide +kernel
theorem dX10_lawOf_82 : decode cX10_lawOf 82 = .ok (.ireturn, 1) := by decide +kernel
def lp_X10_lawOf_8 (y1 : Int32) (y2 : Int32) (k67 : Int32 → Int32 → Mm → Option (Int32 × Mm)) : Nat → Int32 → Int32 → Int32 → Mm → Option (Int32 × Mm)
  | 0, _, _, _, _ => none
  | n + 1, y3, y4, y5, M =>
    if (M 81 26) ≤ y5 then (k67 y3 y4 M) else (gd (inb y5 30) <| jn (fun (u1 : Int32) (u2 : Int32) (M3 : Mm) => lp_X10_lawOf_8 y1 y2 k67 n u1 u2 (y5 + (nI 1)) M3) fun j4 => if (M 88 y5.toNatClampNeg) = y1 then (jn (fun (M5 : Mm) => gd (inb y5 30) <| lt ((y4 + (M5 90 y5.toNatClampNeg))) fun t7 => j4 (y3 + (nI 1)) t7 M5) fun j6 => if y2 < 0 then (j6  M) else (gd (inb y5 30) <| if (M 89 y5.toNatClampNeg) = y2 then (j6  M) else (j4 y3 y4 M))) else (j4 y3 y4 M))
def f_X10_lawOf (x1 : Int32) (x2 : Int32) (M : Mm) : Option (Int32 × Mm) :=
  lp_X10_lawOf_8 x1 x2 (fun (u12 : Int32) (u13 : Int32) (M14 : Mm) => if u12 = 0 then (some ((-1 : Int32), M14)) else (gd (nzi u12) <| some ((((nI 100) * u13) / u12), M14))) N0 (nI 0) (nI 0) (nI 0) M
set_option maxHeartbeats 4000000 in
set_option maxRecDepth 100000 in
theorem sl_X10_lawOf_8 {l : Launch} {B : BT} (hA : bA B = false) {d : Nat} {r : Int32} {M' : Mm} {y1 : Int32} {y2 : Int32}  {k67 : Int32 → Int32 → Mm → Option (Int32 × Mm)} (hk67 : ∀ (z3 : Int32) (z4 : Int32) (M9 : Mm), k67 z3 z4 M9 = some (r, M') → GG l B LY (d + 0) yX10_lawOf cX10_lawOf 6 (some .int) 0 0 (PI r M') 97 0 0 67 [(3, .int z3), (4, .int z4)] [] M9) :
    ∀ (n : Nat) (y3 : Int32) (y4 : Int32) (y5 : Int32) (M : Mm), lp_X10_lawOf_8 y1 y2 k67 n y3 y4 y5 M = some (r, M') → GG l B LY (d + 0) yX10_lawOf cX10_lawOf 6 (some .int) 0 0 (PI r M') 97 0 0 8 [(0, .ref 81), (1, .int y1), (2, .int y2), (3, .int y3), (4, .int y4), (5, .int y5)] [] M := by
  intro n
  induction n with
  | zero => intro y3 y4 y5 M h; cases h
  | succ n ih =>
    intro y3 y4 y5 M h
    rw [lp_X10_lawOf_8] at h
    refine g_iload dX10_lawOf_8 5 rfl ?_
    refine g_aload_n dX10_lawOf_10 rfl 0 rfl ?_
    refine m_geti (k := 26) okX10 rfl rfl (by decide) w_1295 rfl dX10_lawOf_11 ?_
    refine g_icmp_ge (tgt := 67) dX10_lawOf_14 (by decide) (fun c11 => ?_) (fun c11 => ?_)
    · replace h := ite_p c11 h
      refine g_sub [3, 4] (lv' := [(3, .int y3), (4, .int y4)]) rfl ?_
      exact hk67 _ _ _ h
    · replace h := ite_n c11 h
      refine g_aload_n dX10_lawOf_17 rfl 0 rfl ?_
      refine m_getr (k := 21) okX10 rfl rfl (by decide) w_1290 rfl dX10_lawOf_18 ?_
      refine g_iload dX10_lawOf_21 5 rfl ?_
      obtain ⟨hz, h⟩ := gd_s h
      refine m_iald rfl hz dX10_lawOf_23 ?_
      refine g_iload_n dX10_lawOf_24 rfl 1 rfl ?_
      obtain ⟨j4, ej4, h⟩ := jn_e h
      have hj4 : ∀ (u1 : Int32) (u2 : Int32) (M3 : Mm), j4 u1 u2 M3 = some (r, M') → GG l B LY (d + 0) yX10_lawOf cX10_lawOf 6 (some .int) 0 0 (PI r M') 97 0 0 61 [(0, .ref 81), (1, .int y1), (2, .int y2), (3, .int u1), (4, .int u2), (5, .int y5)] [] M3 := by
        intro u1 u2 M3 h
        rw [ej4] at h
        refine g_iinc (v := (y5 + (nI 1))) (lv' := [(5, .int (y5 + (nI 1))), (0, .ref 81), (1, .int y1), (2, .int y2), (3, .int u1), (4, .int u2)]) dX10_lawOf_61 5 rfl rfl (by decide) rfl ?_
        refine g_goto (tgt := 8) dX10_lawOf_64 (by decide) ?_
        refine g_sub [1, 2, 3, 4, 5, 0] (lv' := [(0, .ref 81), (1, .int y1), (2, .int y2), (3, .int u1), (4, .int u2), (5, .int (y5 + (nI 1)))]) rfl ?_
        exact ih _ _ _  _ h
      refine g_icmp_ne (tgt := 61) dX10_lawOf_25 (by decide) (fun c10 => ?_) (fun c10 => ?_)
      · replace h := ite_n c10 h
        refine g_sub [0, 1, 2, 3, 4, 5] (lv' := [(0, .ref 81), (1, .int y1), (2, .int y2), (3, .int y3), (4, .int y4), (5, .int y5)]) rfl ?_
        exact hj4 _ _ _ h
      · replace h := ite_p c10 h
        refine g_iload_n dX10_lawOf_28 rfl 2 rfl ?_
        obtain ⟨j6, ej6, h⟩ := jn_e h
        have hj6 : ∀ (M5 : Mm), j6 M5 = some (r, M') → GG l B LY (d + 0) yX10_lawOf cX10_lawOf 6 (some .int) 0 0 (PI r M') 97 0 0 46 [(0, .ref 81), (1, .int y1), (2, .int y2), (3, .int y3), (4, .int y4), (5, .int y5)] [] M5 := by
          intro M5 h
          rw [ej6] at h
          refine g_iinc (v := (y3 + (nI 1))) (lv' := [(3, .int (y3 + (nI 1))), (0, .ref 81), (1, .int y1), (2, .int y2), (4, .int y4), (5, .int y5)]) dX10_lawOf_46 3 rfl rfl (by decide) rfl ?_
          refine g_iload dX10_lawOf_49 4 rfl ?_
          refine g_aload_n dX10_lawOf_51 rfl 1 rfl ?_
          refine m_getr (k := 23) okX10 rfl rfl (by decide) w_1292 rfl dX10_lawOf_52 ?_
          refine g_iload dX10_lawOf_55 5 rfl ?_
          obtain ⟨hz, h⟩ := gd_s h
          refine m_iald rfl hz dX10_lawOf_57 ?_
          refine g_iadd dX10_lawOf_58 ?_
          obtain ⟨t7, et7, h⟩ := lt_e h
          refine g_cuti et7 ?_
          refine g_istore (lv' := [(4, .int t7), (3, .int (y3 + (nI 1))), (0, .ref 81), (1, .int y1), (2, .int y2), (5, .int y5)]) dX10_lawOf_59 (by decide) rfl ?_
          refine g_sub [2, 3, 4, 1, 0, 5] (lv' := [(0, .ref 81), (1, .int y1), (2, .int y2), (3, .int (y3 + (nI 1))), (4, .int t7), (5, .int y5)]) rfl ?_
          exact hj4 _ _ _ h
        refine g_if_lt (tgt := 46) dX10_lawOf_29 (by decide) (fun c9 => ?_) (fun c9 => ?_)
        · replace h := ite_p c9 h
          refine g_sub [0, 1, 2, 3, 4, 5] (lv' := [(0, .ref 81), (1, .int y1), (2, .int y2), (3, .int y3), (4, .int y4), (5, .int y5)]) rfl ?_
          exact hj6  _ h
        · replace h := ite_n c9 h
          refine g_aload_n dX10_lawOf_32 rfl 0 rfl ?_
          refine m_getr (k := 22) okX10 rfl rfl (by decide) w_1291 rfl dX10_lawOf_33 ?_
          refine g_iload dX10_lawOf_36 5 rfl ?_
          obtain ⟨hz, h⟩ := gd_s h
          refine m_iald rfl hz dX10_lawOf_38 ?_
          refine g_iload_n dX10_lawOf_39 rfl 2 rfl ?_
          refine g_icmp_eq (tgt := 46) dX10_lawOf_40 (by decide) (fun c8 => ?_) (fun c8 => ?_)
          · replace h := ite_p c8 h
            refine g_sub [0, 1, 2, 3, 4, 5] (lv' := [(0, .ref 81), (1, .int y1), (2, .int y2), (3, .int y3), (4, .int y4), (5, .int y5)]) rfl ?_
            exact hj6  _ h
          · replace h := ite_n c8 h
            refine g_goto (tgt := 61) dX10_lawOf_43 (by decide) ?_
            refine g_sub [0, 1, 2, 3, 4, 5] (lv' := [(0, .ref 81), (1, .int y1), (2, .int y2), (3, .int y3), (4, .int y4), (5, .int y5)]) rfl ?_
            exact hj4 _ _ _ h
set_option maxHeartbeats 4000000 in
set_option maxRecDepth 100000 in
theorem s_X10_lawOf {l : Launch} {B : BT} (hA : bA B = false) {d : Nat} {r : Int32} {M' : Mm} {x1 : Int32} {x2 : Int32} {M : Mm}  (h : f_X10_lawOf x1 x2 M = some (r, M')) : Con l B LY (d + 0) yX10_lawOf cX10_lawOf 6 (some .int) 0 0 [.ref 81, .int x1, .int x2] 97 M (PI r M') := by
  refine con_of (by decide) (Nat.le_of_ble_eq_true rfl) ?_
  show GG l B LY (d + 0) yX10_lawOf cX10_lawOf 6 (some .int) 0 0 (PI r M') 97 0 0 0 [(0, .ref 81), (1, .int x1), (2, .int x2)] [] M
  rw [f_X10_lawOf] at h
  refine g_iconst (v := (nI 0)) dX10_lawOf_0 (by decide) ?_
  refine g_istore_n (lv' := [(3, .int (nI 0)), (0, .ref 81), (1, .int x1), (2, .int x2)]) dX10_lawOf_1 rfl (by decide) rfl ?_
  refine g_iconst (v := (nI 0)) dX10_lawOf_2 (by decide) ?_
  refine g_istore (lv' := [(4, .int (nI 0)), (3, .int (nI 0)), (0, .ref 81), (1, .int x1), (2, .int x2)]) dX10_lawOf_3 (by decide) rfl ?_
  refine g_iconst (v := (nI 0)) dX10_lawOf_5 (by decide) ?_
  refine g_istore (lv' := [(5, .int (nI 0)), (4, .int (nI 0)), (3, .int (nI 0)), (0, .ref 81), (1, .int x1), (2, .int x2)]) dX10_lawOf_6 (by decide) rfl ?_
  refine g_sub [3, 4, 5, 2, 1, 0] (lv' := [(0, .ref 81), (1, .int x1), (2, .int x2), (3, .int (nI 0)), (4, .int (nI 0)), (5, .int (nI 0))]) rfl ?_
  refine sl_X10_lawOf_8 hA  ?_ _ _ _ _ _ h
  · intro u12 u13 M14 h
    refine g_iload_n dX10_lawOf_67 rfl 0 rfl ?_
    refine g_if_ne (tgt := 75) dX10_lawOf_68 (by decide) (fun c15 => ?_) (fun c15 => ?_)
    · replace h := ite_n c15 h
      refine g_bipush (v := (nI 100)) dX10_lawOf_75 (by decide) ?_
      refine g_iload dX10_lawOf_77 1 rfl ?_
      refine g_imul dX10_lawOf_79 ?_
      refine g_iload_n dX10_lawOf_80 rfl 0 rfl ?_
      obtain ⟨hz, h⟩ := gd_s h
      refine g_idiv dX10_lawOf_81 (nzi_s hz) ?_
      exact g_zret rfl rfl (pi_of h) dX10_lawOf_82
    · replace h := ite_p c15 h
      refine g_iconst (v := (-1 : Int32)) dX10_lawOf_71 (by decide) ?_
      refine g_goto (tgt := 82) dX10_lawOf_72 (by decide) ?_
      exact g_zret rfl rfl (pi_of h) dX10_lawOf_82
theorem ck_X10_lawOf : CKV yX10_lawOf cX10_lawOf 6 (some .int) 2 := ⟨⟨by decide, by decide, by decide +kernel⟩, w_1755, w_81, ⟨w_1754, w_63⟩, by decide⟩
theorem dX10_law_0 : decode cX10_law 0 = .ok (.aload_n 0, 1) := by decide +kernel
theorem dX10_law_1 : decode cX10_law 1 = .ok (.invokevirtual 156, 3) := by decide +kernel
theorem dX10_law_4 : decode cX10_law 4 = .ok (.aload_n 0, 1) := by decide +kernel
theorem dX10_law_5 : decode cX10_law 5 = .ok (.iload_n 1, 1) := by decide +kernel
theorem dX10_law_6 : decode cX10_law 6 = .ok (.invokevirtual 362, 3) := by decide +kernel
theorem dX10_law_9 : decode cX10_law 9 = .ok (.ifCond .ne 9, 3) := by decide +kernel
theorem dX10_law_12 : decode cX10_law 12 = .ok (.aload_n 0, 1) := by decide +kernel
theorem dX10_law_13 : decode cX10_law 13 = .ok (.iconst 1, 1) := by decide +kernel
theorem dX10_law_14 : decode cX10_law 14 = .ok (.invokevirtual 159, 3) := by decide +kernel
theorem dX10_law_17 : decode cX10_law 17 = .ok (.ireturn, 1) := by decide +kernel
theorem dX10_law_18 : decode cX10_law 18 = .ok (.aload_n 0, 1) := by decide +kernel
theorem dX10_law_19 : decode cX10_law 19 = .ok (.iload_n 1, 1) := by decide +kernel
theorem dX10_law_20 : decode cX10_law 20 = .ok (.iconst (-1), 1) := by decide +kernel
theorem dX10_law_21 : decode cX10_law 21 = .ok (.invokevirtual 365, 3) := by decide +kernel
theorem dX10_law_24 : decode cX10_law 24 = .ok (.istore_n 2, 1) := by decide +kernel
theorem dX10_law_25 : decode cX10_law 25 = .ok (.iload_n 2, 1) := by decide +kernel
theorem dX10_law_26 : decode cX10_law 26 = .ok (.ifCond .ge 12, 3) := by decide +kernel
theorem dX10_law_29 : decode cX10_law 29 = .ok (.aload_n 0, 1) := by decide +kernel
theorem dX10_law_30 : decode cX10_law 30 = .ok (.bipush 6, 2) := by decide +kernel
theorem dX10_law_32 : decode cX10_law 32 = .ok (.invokevirtual 159, 3) := by decide +kernel
theorem dX10_law_35 : decode cX10_law 35 = .ok (.goto 4, 3) := by decide +kernel
theorem dX10_law_38 : decode cX10_law 38 = .ok (.iload_n 2, 1) := by decide +kernel
theorem dX10_law_39 : decode cX10_law 39 = .ok (.ireturn, 1) := by decide +kernel
def f_X10_law (x1 : Int32) (M : Mm) : Option (Int32 × Mm) :=
  bv (f_X10_good  M) fun M1_1 => bd (f_X10_isFilmed x1 M1_1) fun v6_4 M6_3 => if v6_4 = 0 then (bd (f_X10_no (nI 1) M6_3) fun v14_11 M14_10 => some (v14_11, M14_10)) else (bd (f_X10_lawOf x1 (-1 : Int32) M6_3) fun v21_6 M21_5 => if 0 ≤ v21_6 then (some (v21_6, M21_5)) else (bd (f_X10_no (nI 6) M21_5) fun v32_8 M32_7 => some (v32_8, M32_7)))
set_option maxHeartbeats 4000000 in
set_option maxRecDepth 100000 in
theorem s_X10_law {l : Launch} {B : BT} (hA : bA B = false) {d : Nat} {r : Int32} {M' : Mm} {x1 : Int32} {M : Mm}  (h : f_X10_law x1 M = some (r, M')) : Con l B LY (d + 2) yX10_law cX10_law 3 (some .int) 0 0 [.ref 81, .int x1] 97 M (PI r M') := by
  refine con_of (by decide) (Nat.le_of_ble_eq_true rfl) ?_
  show GG l B LY (d + 2) yX10_law cX10_law 3 (some .int) 0 0 (PI r M') 97 0 0 0 [(0, .ref 81), (1, .int x1)] [] M
  rw [f_X10_law] at h
  refine g_aload_n dX10_law_0 rfl 0 rfl ?_
  obtain ⟨M1_1, eM1_1, h⟩ := bv_e h
  refine m_callVv (As := []) (st := []) (s_X10_good (d := d + 1) hA  eM1_1) rfl okX10 ck_X10_good w_1381 rfl (Nat.le_of_ble_eq_true rfl) dX10_law_1 ?_
  refine g_aload_n dX10_law_4 rfl 0 rfl ?_
  refine g_iload_n dX10_law_5 rfl 1 rfl ?_
  obtain ⟨v6_4, M6_3, eM6_3, h⟩ := bd_e h
  refine m_callVi (As := [.int x1]) (st := []) (s_X10_isFilmed (d := d + 0) hA  eM6_3) rfl okX10 ck_X10_isFilmed w_1744 rfl (Nat.le_of_ble_eq_true rfl) dX10_law_6 ?_
  refine g_if_ne (tgt := 18) dX10_law_9 (by decide) (fun c12 => ?_) (fun c12 => ?_)
  · replace h := ite_n c12 h
    refine g_aload_n dX10_law_18 rfl 0 rfl ?_
    refine g_iload_n dX10_law_19 rfl 1 rfl ?_
    refine g_iconst (v := (-1 : Int32)) dX10_law_20 (by decide) ?_
    obtain ⟨v21_6, M21_5, eM21_5, h⟩ := bd_e h
    refine m_callVi (As := [.int x1, .int (-1 : Int32)]) (st := []) (s_X10_lawOf (d := d + 1) hA  eM21_5) rfl okX10 ck_X10_lawOf w_1752 rfl (Nat.le_of_ble_eq_true rfl) dX10_law_21 ?_
    refine g_istore_n (lv' := [(2, .int v21_6), (0, .ref 81), (1, .int x1)]) dX10_law_24 rfl (by decide) rfl ?_
    refine g_iload_n dX10_law_25 rfl 0 rfl ?_
    refine g_if_ge (tgt := 38) dX10_law_26 (by decide) (fun c9 => ?_) (fun c9 => ?_)
    · replace h := ite_p c9 h
      refine g_iload_n dX10_law_38 rfl 0 rfl ?_
      exact g_zret rfl rfl (pi_of h) dX10_law_39
    · replace h := ite_n c9 h
      refine g_aload_n dX10_law_29 rfl 1 rfl ?_
      refine g_bipush (v := (nI 6)) dX10_law_30 (by decide) ?_
      obtain ⟨v32_8, M32_7, eM32_7, h⟩ := bd_e h
      refine m_callVi (As := [.int (nI 6)]) (st := []) (s_X10_no (d := d + 1) hA  eM32_7) rfl okX10 ck_X10_no w_1388 rfl (Nat.le_of_ble_eq_true rfl) dX10_law_32 ?_
      refine g_goto (tgt := 39) dX10_law_35 (by decide) ?_
      exact g_zret rfl rfl (pi_of h) dX10_law_39
  · replace h := ite_p c12 h
    refine g_aload_n dX10_law_12 rfl 0 rfl ?_
    refine g_iconst (v := (nI 1)) dX10_law_13 (by decide) ?_
    obtain ⟨v14_11, M14_10, eM14_10, h⟩ := bd_e h
    refine m_callVi (As := [.int (nI 1)]) (st := []) (s_X10_no (d := d + 1) hA  eM14_10) rfl okX10 ck_X10_no w_1388 rfl (Nat.le_of_ble_eq_true rfl) dX10_law_14 ?_
    exact g_zret rfl rfl (pi_of h) dX10_law_17
theorem ck_X10_law : CKV yX10_law cX10_law 3 (some .int) 1 := ⟨⟨by decide, by decide, by decide +kernel⟩, w_1751, w_81, ⟨w_1749, w_1750⟩, by decide⟩
