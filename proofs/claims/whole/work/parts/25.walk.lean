/-! walks: X10_looking X10_isFilmed X10_film X10_lawOf X10_law X10_says X10_off X10_stop X10_wobbleWays X10_isSpanned X10_spanOf X10_spanWhy X10_span X10_fits X10_home X10_far. Written by wip/programs/parts.py. -/
theorem dX10_looking_0 : decode cX10_looking 0 = .ok (.aload_n 0, 1) := by decide +kernel
theorem dX10_looking_1 : decode cX10_looking 1 = .ok (.invokevirtual 156, 3) := by decide +kernel
theorem dX10_looking_4 : decode cX10_looking 4 = .ok (.aload_n 0, 1) := by decide +kernel
theorem dX10_looking_5 : decode cX10_looking 5 = .ok (.iload_n 1, 1) := by decide +kernel
theorem dX10_looking_6 : decode cX10_looking 6 = .ok (.iload_n 2, 1) := by decide +kernel
theorem dX10_looking_7 : decode cX10_looking 7 = .ok (.invokevirtual 356, 3) := by decide +kernel
theorem dX10_looking_10 : decode cX10_looking 10 = .ok (.istore_n 3, 1) := by decide +kernel
theorem dX10_looking_11 : decode cX10_looking 11 = .ok (.iload_n 3, 1) := by decide +kernel
theorem dX10_looking_12 : decode cX10_looking 12 = .ok (.ifCond .eq 9, 3) := by decide +kernel
theorem dX10_looking_15 : decode cX10_looking 15 = .ok (.aload_n 0, 1) := by decide +kernel
theorem dX10_looking_16 : decode cX10_looking 16 = .ok (.iload_n 3, 1) := by decide +kernel
theorem dX10_looking_17 : decode cX10_looking 17 = .ok (.invokevirtual 159, 3) := by decide +kernel
theorem dX10_looking_20 : decode cX10_looking 20 = .ok (.ireturn, 1) := by decide +kernel
theorem dX10_looking_21 : decode cX10_looking 21 = .ok (.iconst 0, 1) := by decide +kernel
theorem dX10_looking_22 : decode cX10_looking 22 = .ok (.istore 4, 2) := by decide +kernel
theorem dX10_looking_24 : decode cX10_looking 24 = .ok (.iload_n 1, 1) := by decide +kernel
theorem dX10_looking_25 : decode cX10_looking 25 = .ok (.iconst 1, 1) := by decide +kernel
theorem dX10_looking_26 : decode cX10_looking 26 = .ok (.iadd, 1) := by decide +kernel
theorem dX10_looking_27 : decode cX10_looking 27 = .ok (.istore 5, 2) := by decide +kernel
theorem dX10_looking_29 : decode cX10_looking 29 = .ok (.iconst 0, 1) := by decide +kernel
theorem dX10_looking_30 : decode cX10_looking 30 = .ok (.istore 6, 2) := by decide +kernel
theorem dX10_looking_32 : decode cX10_looking 32 = .ok (.iload 6, 2) := by decide +kernel
theorem dX10_looking_34 : decode cX10_looking 34 = .ok (.aload_n 0, 1) := by decide +kernel
theorem dX10_looking_35 : decode cX10_looking 35 = .ok (.getfield 20, 3) := by decide +kernel
theorem dX10_looking_38 : decode cX10_looking 38 = .ok (.bipush 95, 2) := by decide +kernel
theorem dX10_looking_40 : decode cX10_looking 40 = .ok (.iaload, 1) := by decide +kernel
theorem dX10_looking_41 : decode cX10_looking 41 = .ok (.if_icmp .gt 77, 3) := by decide +kernel
theorem dX10_looking_44 : decode cX10_looking 44 = .ok (.aload_n 0, 1) := by decide +kernel
theorem dX10_looking_45 : decode cX10_looking 45 = .ok (.iload 6, 2) := by decide +kernel
theorem dX10_looking_47 : decode cX10_looking 47 = .ok (.putfield 32, 3) := by decide +kernel
theorem dX10_looking_50 : decode cX10_looking 50 = .ok (.aload_n 0, 1) := by decide +kernel
theorem dX10_looking_51 : decode cX10_looking 51 = .ok (.iload_n 1, 1) := by decide +kernel
theorem dX10_looking_52 : decode cX10_looking 52 = .ok (.iload_n 2, 1) := by decide +kernel
theorem dX10_looking_53 : decode cX10_looking 53 = .ok (.invokevirtual 359, 3) := by decide +kernel
theorem dX10_looking_56 : decode cX10_looking 56 = .ok (.iconst 0, 1) := by decide +kernel
theorem dX10_looking_57 : decode cX10_looking 57 = .ok (.istore 7, 2) := by decide +kernel
theorem dX10_looking_59 : decode cX10_looking 59 = .ok (.iconst 0, 1) := by decide +kernel
theorem dX10_looking_60 : decode cX10_looking 60 = .ok (.istore 8, 2) := by decide +kernel
theorem dX10_looking_62 : decode cX10_looking 62 = .ok (.iload 8, 2) := by decide +kernel
theorem dX10_looking_64 : decode cX10_looking 64 = .ok (.iload_n 1, 1) := by decide +kernel
theorem dX10_looking_65 : decode cX10_looking 65 = .ok (.if_icmp .ge 29, 3) := by decide +kernel
theorem dX10_looking_68 : decode cX10_looking 68 = .ok (.iload 7, 2) := by decide +kernel
theorem dX10_looking_70 : decode cX10_looking 70 = .ok (.aload_n 0, 1) := by decide +kernel
theorem dX10_looking_71 : decode cX10_looking 71 = .ok (.getfield 53, 3) := by decide +kernel
theorem dX10_looking_74 : decode cX10_looking 74 = .ok (.iload 8, 2) := by decide +kernel
theorem dX10_looking_76 : decode cX10_looking 76 = .ok (.iaload, 1) := by decide +kernel
theorem dX10_looking_77 : decode cX10_looking 77 = .ok (.ifCond .lt 7, 3) := by decide +kernel
theorem dX10_looking_80 : decode cX10_looking 80 = .ok (.iconst 1, 1) := by decide +kernel
theorem dX10_looking_81 : decode cX10_looking 81 = .ok (.goto 4, 3) := by decide +kernel
theorem dX10_looking_84 : decode cX10_looking 84 = .ok (.iconst 0, 1) := by decide +kernel
theorem dX10_looking_85 : decode cX10_looking 85 = .ok (.iadd, 1) := by decide +kernel
theorem dX10_looking_86 : decode cX10_looking 86 = .ok (.istore 7, 2) := by decide +kernel
theorem dX10_looking_88 : decode cX10_looking 88 = .ok (.iinc 8 1, 3) := by decide +kernel
theorem dX10_looking_91 : decode cX10_looking 91 = .ok (.goto (-29), 3) := by decide +kernel
theorem dX10_looking_94 : decode cX10_looking 94 = .ok (.iload 7, 2) := by decide +kernel
theorem dX10_looking_96 : decode cX10_looking 96 = .ok (.iload 5, 2) := by decide +kernel
theorem dX10_looking_98 : decode cX10_looking 98 = .ok (.if_icmp .lt 6, 3) := by decide +kernel
theorem dX10_looking_101 : decode cX10_looking 101 = .ok (.goto 11, 3) := by decide +kernel
theorem dX10_looking_104 : decode cX10_looking 104 = .ok (.iload 7, 2) := by decide +kernel
theorem dX10_looking_106 : decode cX10_looking 106 = .ok (.istore 5, 2) := by decide +kernel
theorem dX10_looking_108 : decode cX10_looking 108 = .ok (.iload 6, 2) := by decide +kernel
theorem dX10_looking_110 : decode cX10_looking 110 = .ok (.istore 4, 2) := by decide +kernel
theorem dX10_looking_112 : decode cX10_looking 112 = .ok (.iinc 6 1, 3) := by decide +kernel
theorem dX10_looking_115 : decode cX10_looking 115 = .ok (.goto (-83), 3) := by decide +kernel
theorem dX10_looking_118 : decode cX10_looking 118 = .ok (.aload_n 0, 1) := by decide +kernel
theorem dX10_looking_119 : decode cX10_looking 119 = .ok (.iconst (-1), 1) := by decide +kernel
theorem dX10_looking_120 : decode cX10_looking 120 = .ok (.putfield 32, 3) := by decide +kernel
theorem dX10_looking_123 : decode cX10_looking 123 = .ok (.iload 4, 2) := by decide +kernel
theorem dX10_looking_125 : decode cX10_looking 125 = .ok (.ireturn, 1) := by decide +kernel
def lp_X10_looking_62 (y1 : Int32) (y2 : Int32) (y4 : Int32) (y5 : Int32) (y6 : Int32) (k94 : Int32 → Mm → Option (Int32 × Mm)) : Nat → Int32 → Int32 → Mm → Option (Int32 × Mm)
  | 0, _, _, _ => none
  | n + 1, y7, y8, M =>
    if y1 ≤ y8 then (k94 y7 M) else (gd (inb y8 20) <| jn (fun (s7 : Int32) (M8 : Mm) => lp_X10_looking_62 y1 y2 y4 y5 y6 k94 n (y7 + s7) (y8 + (1 : Int32)) M8) fun j9 => if (M 94 y8.toNatClampNeg) < 0 then (j9 (0 : Int32) M) else (j9 (1 : Int32) M))
def lp_X10_looking_32 (y1 : Int32) (y2 : Int32) (k118 : Int32 → Mm → Option (Int32 × Mm)) : Nat → Int32 → Int32 → Int32 → Mm → Option (Int32 × Mm)
  | 0, _, _, _, _ => none
  | n + 1, y4, y5, y6, M =>
    gd (inb (95 : Int32) 141) <| if (M 84 (95 : Int32).toNatClampNeg) < y6 then (k118 y4 M) else (bv (f_X10_plays y1 y2 (mset M 81 20 y6)) fun M53_5 => lp_X10_looking_62 y1 y2 y4 y5 y6 (fun (u12 : Int32) (M13 : Mm) => jn (fun (u14 : Int32) (u15 : Int32) (M16 : Mm) => lp_X10_looking_32 y1 y2 k118 n u14 u15 (y6 + (1 : Int32)) M16) fun j17 => if u12 < y5 then (j17 y6 u12 M13) else (j17 y4 y5 M13)) N0 (0 : Int32) (0 : Int32) M53_5)
def f_X10_looking (x1 : Int32) (x2 : Int32) (M : Mm) : Option (Int32 × Mm) :=
  bv (f_X10_good  M) fun M1_1 => bd (f_X10_playWhy x1 x2 M1_1) fun v7_4 M7_3 => if v7_4 = 0 then (lp_X10_looking_32 x1 x2 (fun (u20 : Int32) (M21 : Mm) => some (u20, (mset M21 81 20 (-1 : Int32)))) N0 (0 : Int32) (x1 + (1 : Int32)) (0 : Int32) M7_3) else (bd (f_X10_no v7_4 M7_3) fun v17_23 M17_22 => some (v17_23, M17_22))
set_option maxHeartbeats 4000000 in
set_option maxRecDepth 100000 in
theorem sl_X10_looking_62 {l : Launch} {B : BT} (hA : bA B = false) {d : Nat} {r : Int32} {M' : Mm} {y1 : Int32} {y2 : Int32} {y4 : Int32} {y5 : Int32} {y6 : Int32}  {k94 : Int32 → Mm → Option (Int32 × Mm)} (hk94 : ∀ (z7 : Int32) (M9 : Mm), k94 z7 M9 = some (r, M') → GG l B LY (d + 5) yX10_looking cX10_looking 9 (some .int) 0 0 (PI r M') 97 0 0 94 [(0, .ref 81), (1, .int y1), (2, .int y2), (4, .int y4), (5, .int y5), (6, .int y6), (7, .int z7)] [] M9) :
    ∀ (n : Nat) (y7 : Int32) (y8 : Int32) (M : Mm), lp_X10_looking_62 y1 y2 y4 y5 y6 k94 n y7 y8 M = some (r, M') → GG l B LY (d + 5) yX10_looking cX10_looking 9 (some .int) 0 0 (PI r M') 97 0 0 62 [(0, .ref 81), (1, .int y1), (2, .int y2), (4, .int y4), (5, .int y5), (6, .int y6), (7, .int y7), (8, .int y8)] [] M := by
  intro n
  induction n with
  | zero => intro y7 y8 M h; cases h
  | succ n ih =>
    intro y7 y8 M h
    rw [lp_X10_looking_62] at h
    refine g_iload dX10_looking_62 7 rfl ?_
    refine g_iload_n dX10_looking_64 rfl 1 rfl ?_
    refine g_icmp_ge (tgt := 94) dX10_looking_65 (by decide) (fun c11 => ?_) (fun c11 => ?_)
    · replace h := ite_p c11 h
      refine g_sub [0, 1, 2, 3, 4, 5, 6] (lv' := [(0, .ref 81), (1, .int y1), (2, .int y2), (4, .int y4), (5, .int y5), (6, .int y6), (7, .int y7)]) rfl ?_
      exact hk94 _ _ h
    · replace h := ite_n c11 h
      refine g_iload dX10_looking_68 6 rfl ?_
      refine g_aload_n dX10_looking_70 rfl 0 rfl ?_
      refine m_getr (k := 28) okX10 rfl rfl (by decide) w_1297 rfl dX10_looking_71 ?_
      refine g_iload dX10_looking_74 7 rfl ?_
      obtain ⟨hz, h⟩ := gd_s h
      refine m_iald rfl hz dX10_looking_76 ?_
      obtain ⟨j9, ej9, h⟩ := jn_e h
      have hj9 : ∀ (s7 : Int32) (M8 : Mm), j9 s7 M8 = some (r, M') → GG l B LY (d + 5) yX10_looking cX10_looking 9 (some .int) 0 0 (PI r M') 97 0 0 85 [(0, .ref 81), (1, .int y1), (2, .int y2), (4, .int y4), (5, .int y5), (6, .int y6), (8, .int y8)] [.int s7, .int y7] M8 := by
        intro s7 M8 h
        rw [ej9] at h
        refine g_iadd dX10_looking_85 ?_
        refine g_istore (lv' := [(7, .int (y7 + s7)), (0, .ref 81), (1, .int y1), (2, .int y2), (4, .int y4), (5, .int y5), (6, .int y6), (8, .int y8)]) dX10_looking_86 (by decide) rfl ?_
        refine g_iinc (v := (y8 + (1 : Int32))) (lv' := [(8, .int (y8 + (1 : Int32))), (7, .int (y7 + s7)), (0, .ref 81), (1, .int y1), (2, .int y2), (4, .int y4), (5, .int y5), (6, .int y6)]) dX10_looking_88 7 rfl rfl (by decide) rfl ?_
        refine g_goto (tgt := 62) dX10_looking_91 (by decide) ?_
        refine g_sub [2, 3, 4, 5, 6, 7, 1, 0] (lv' := [(0, .ref 81), (1, .int y1), (2, .int y2), (4, .int y4), (5, .int y5), (6, .int y6), (7, .int (y7 + s7)), (8, .int (y8 + (1 : Int32)))]) rfl ?_
        exact ih _ _  _ h
      refine g_if_lt (tgt := 84) dX10_looking_77 (by decide) (fun c10 => ?_) (fun c10 => ?_)
      · replace h := ite_p c10 h
        refine g_iconst (v := 0) dX10_looking_84 (by decide) ?_
        refine g_sub [0, 1, 2, 3, 4, 5, 7] (lv' := [(0, .ref 81), (1, .int y1), (2, .int y2), (4, .int y4), (5, .int y5), (6, .int y6), (8, .int y8)]) rfl ?_
        exact hj9 _ _ h
      · replace h := ite_n c10 h
        refine g_iconst (v := 1) dX10_looking_80 (by decide) ?_
        refine g_goto (tgt := 85) dX10_looking_81 (by decide) ?_
        refine g_sub [0, 1, 2, 3, 4, 5, 7] (lv' := [(0, .ref 81), (1, .int y1), (2, .int y2), (4, .int y4), (5, .int y5), (6, .int y6), (8, .int y8)]) rfl ?_
        exact hj9 _ _ h
set_option maxHeartbeats 4000000 in
set_option maxRecDepth 100000 in
theorem sl_X10_looking_32 {l : Launch} {B : BT} (hA : bA B = false) {d : Nat} {r : Int32} {M' : Mm} {y1 : Int32} {y2 : Int32}  {k118 : Int32 → Mm → Option (Int32 × Mm)} (hk118 : ∀ (z4 : Int32) (M9 : Mm), k118 z4 M9 = some (r, M') → GG l B LY (d + 5) yX10_looking cX10_looking 9 (some .int) 0 0 (PI r M') 97 0 0 118 [(0, .ref 81), (4, .int z4)] [] M9) :
    ∀ (n : Nat) (y4 : Int32) (y5 : Int32) (y6 : Int32) (M : Mm), lp_X10_looking_32 y1 y2 k118 n y4 y5 y6 M = some (r, M') → GG l B LY (d + 5) yX10_looking cX10_looking 9 (some .int) 0 0 (PI r M') 97 0 0 32 [(0, .ref 81), (1, .int y1), (2, .int y2), (4, .int y4), (5, .int y5), (6, .int y6)] [] M := by
  intro n
  induction n with
  | zero => intro y4 y5 y6 M h; cases h
  | succ n ih =>
    intro y4 y5 y6 M h
    rw [lp_X10_looking_32] at h
    refine g_iload dX10_looking_32 5 rfl ?_
    refine g_aload_n dX10_looking_34 rfl 0 rfl ?_
    refine m_getr (k := 15) okX10 rfl rfl (by decide) w_1284 rfl dX10_looking_35 ?_
    refine g_bipush (v := 95) dX10_looking_38 (by decide) ?_
    obtain ⟨hz, h⟩ := gd_s h
    refine m_iald rfl hz dX10_looking_40 ?_
    refine g_icmp_gt (tgt := 118) dX10_looking_41 (by decide) (fun c19 => ?_) (fun c19 => ?_)
    · replace h := ite_p c19 h
      refine g_sub [0, 3] (lv' := [(0, .ref 81), (4, .int y4)]) rfl ?_
      exact hk118 _ _ h
    · replace h := ite_n c19 h
      refine g_aload_n dX10_looking_44 rfl 0 rfl ?_
      refine g_iload dX10_looking_45 5 rfl ?_
      refine m_puti (k := 20) okX10 rfl rfl (by decide) w_1289 rfl rfl rfl dX10_looking_47 ?_
      refine g_aload_n dX10_looking_50 rfl 0 rfl ?_
      refine g_iload_n dX10_looking_51 rfl 1 rfl ?_
      refine g_iload_n dX10_looking_52 rfl 2 rfl ?_
      obtain ⟨M53_5, eM53_5, h⟩ := bv_e h
      refine m_callVv (As := [.int y1, .int y2]) (st := []) (s_X10_plays (d := d + 0) hA  eM53_5) rfl okX10 ck_X10_plays w_1724 rfl (Nat.le_of_ble_eq_true rfl) dX10_looking_53 ?_
      refine g_iconst (v := 0) dX10_looking_56 (by decide) ?_
      refine g_istore (lv' := [(7, .int (0 : Int32)), (0, .ref 81), (1, .int y1), (2, .int y2), (4, .int y4), (5, .int y5), (6, .int y6)]) dX10_looking_57 (by decide) rfl ?_
      refine g_iconst (v := 0) dX10_looking_59 (by decide) ?_
      refine g_istore (lv' := [(8, .int (0 : Int32)), (7, .int (0 : Int32)), (0, .ref 81), (1, .int y1), (2, .int y2), (4, .int y4), (5, .int y5), (6, .int y6)]) dX10_looking_60 (by decide) rfl ?_
      refine g_sub [2, 3, 4, 5, 6, 7, 1, 0] (lv' := [(0, .ref 81), (1, .int y1), (2, .int y2), (4, .int y4), (5, .int y5), (6, .int y6), (7, .int (0 : Int32)), (8, .int (0 : Int32))]) rfl ?_
      refine sl_X10_looking_62 hA  ?_ _ _ _ _ h
      · intro u12 M13 h
        refine g_iload dX10_looking_94 6 rfl ?_
        refine g_iload dX10_looking_96 4 rfl ?_
        obtain ⟨j17, ej17, h⟩ := jn_e h
        have hj17 : ∀ (u14 : Int32) (u15 : Int32) (M16 : Mm), j17 u14 u15 M16 = some (r, M') → GG l B LY (d + 5) yX10_looking cX10_looking 9 (some .int) 0 0 (PI r M') 97 0 0 112 [(0, .ref 81), (1, .int y1), (2, .int y2), (4, .int u14), (5, .int u15), (6, .int y6)] [] M16 := by
          intro u14 u15 M16 h
          rw [ej17] at h
          refine g_iinc (v := (y6 + (1 : Int32))) (lv' := [(6, .int (y6 + (1 : Int32))), (0, .ref 81), (1, .int y1), (2, .int y2), (4, .int u14), (5, .int u15)]) dX10_looking_112 5 rfl rfl (by decide) rfl ?_
          refine g_goto (tgt := 32) dX10_looking_115 (by decide) ?_
          refine g_sub [1, 2, 3, 4, 5, 0] (lv' := [(0, .ref 81), (1, .int y1), (2, .int y2), (4, .int u14), (5, .int u15), (6, .int (y6 + (1 : Int32)))]) rfl ?_
          exact ih _ _ _  _ h
        refine g_icmp_lt (tgt := 104) dX10_looking_98 (by decide) (fun c18 => ?_) (fun c18 => ?_)
        · replace h := ite_p c18 h
          refine g_iload dX10_looking_104 6 rfl ?_
          refine g_istore (lv' := [(5, .int u12), (0, .ref 81), (1, .int y1), (2, .int y2), (4, .int y4), (6, .int y6), (7, .int u12)]) dX10_looking_106 (by decide) rfl ?_
          refine g_iload dX10_looking_108 5 rfl ?_
          refine g_istore (lv' := [(4, .int y6), (5, .int u12), (0, .ref 81), (1, .int y1), (2, .int y2), (6, .int y6), (7, .int u12)]) dX10_looking_110 (by decide) rfl ?_
          refine g_sub [2, 3, 4, 0, 1, 5] (lv' := [(0, .ref 81), (1, .int y1), (2, .int y2), (4, .int y6), (5, .int u12), (6, .int y6)]) rfl ?_
          exact hj17 _ _ _ h
        · replace h := ite_n c18 h
          refine g_goto (tgt := 112) dX10_looking_101 (by decide) ?_
          refine g_sub [0, 1, 2, 3, 4, 5] (lv' := [(0, .ref 81), (1, .int y1), (2, .int y2), (4, .int y4), (5, .int y5), (6, .int y6)]) rfl ?_
          exact hj17 _ _ _ h
set_option maxHeartbeats 4000000 in
set_option maxRecDepth 100000 in
theorem s_X10_looking {l : Launch} {B : BT} (hA : bA B = false) {d : Nat} {r : Int32} {M' : Mm} {x1 : Int32} {x2 : Int32} {M : Mm}  (h : f_X10_looking x1 x2 M = some (r, M')) : Con l B LY (d + 5) yX10_looking cX10_looking 9 (some .int) 0 0 [.ref 81, .int x1, .int x2] 97 M (PI r M') := by
  refine con_of (by decide) (Nat.le_of_ble_eq_true rfl) ?_
  show GG l B LY (d + 5) yX10_looking cX10_looking 9 (some .int) 0 0 (PI r M') 97 0 0 0 [(0, .ref 81), (1, .int x1), (2, .int x2)] [] M
  rw [f_X10_looking] at h
  refine g_aload_n dX10_looking_0 rfl 0 rfl ?_
  obtain ⟨M1_1, eM1_1, h⟩ := bv_e h
  refine m_callVv (As := []) (st := []) (s_X10_good (d := d + 4) hA  eM1_1) rfl okX10 ck_X10_good w_1381 rfl (Nat.le_of_ble_eq_true rfl) dX10_looking_1 ?_
  refine g_aload_n dX10_looking_4 rfl 0 rfl ?_
  refine g_iload_n dX10_looking_5 rfl 1 rfl ?_
  refine g_iload_n dX10_looking_6 rfl 2 rfl ?_
  obtain ⟨v7_4, M7_3, eM7_3, h⟩ := bd_e h
  refine m_callVi (As := [.int x1, .int x2]) (st := []) (s_X10_playWhy (d := d + 3) hA  eM7_3) rfl okX10 ck_X10_playWhy w_1720 rfl (Nat.le_of_ble_eq_true rfl) dX10_looking_7 ?_
  refine g_istore_n (lv' := [(3, .int v7_4), (0, .ref 81), (1, .int x1), (2, .int x2)]) dX10_looking_10 rfl (by decide) rfl ?_
  refine g_iload_n dX10_looking_11 rfl 0 rfl ?_
  refine g_if_eq (tgt := 21) dX10_looking_12 (by decide) (fun c24 => ?_) (fun c24 => ?_)
  · replace h := ite_p c24 h
    refine g_iconst (v := 0) dX10_looking_21 (by decide) ?_
    refine g_istore (lv' := [(4, .int (0 : Int32)), (3, .int v7_4), (0, .ref 81), (1, .int x1), (2, .int x2)]) dX10_looking_22 (by decide) rfl ?_
    refine g_iload_n dX10_looking_24 rfl 3 rfl ?_
    refine g_iconst (v := 1) dX10_looking_25 (by decide) ?_
    refine g_iadd dX10_looking_26 ?_
    refine g_istore (lv' := [(5, .int (x1 + (1 : Int32))), (4, .int (0 : Int32)), (3, .int v7_4), (0, .ref 81), (1, .int x1), (2, .int x2)]) dX10_looking_27 (by decide) rfl ?_
    refine g_iconst (v := 0) dX10_looking_29 (by decide) ?_
    refine g_istore (lv' := [(6, .int (0 : Int32)), (5, .int (x1 + (1 : Int32))), (4, .int (0 : Int32)), (3, .int v7_4), (0, .ref 81), (1, .int x1), (2, .int x2)]) dX10_looking_30 (by decide) rfl ?_
    refine g_sub [4, 5, 6, 2, 1, 0] (lv' := [(0, .ref 81), (1, .int x1), (2, .int x2), (4, .int (0 : Int32)), (5, .int (x1 + (1 : Int32))), (6, .int (0 : Int32))]) rfl ?_
    refine sl_X10_looking_32 hA  ?_ _ _ _ _ _ h
    · intro u20 M21 h
      refine g_aload_n dX10_looking_118 rfl 0 rfl ?_
      refine g_iconst (v := (-1)) dX10_looking_119 (by decide) ?_
      refine m_puti (k := 20) okX10 rfl rfl (by decide) w_1289 rfl rfl rfl dX10_looking_120 ?_
      refine g_iload dX10_looking_123 1 rfl ?_
      exact g_zret rfl rfl (pi_of h) dX10_looking_125
  · replace h := ite_n c24 h
    refine g_aload_n dX10_looking_15 rfl 1 rfl ?_
    refine g_iload_n dX10_looking_16 rfl 0 rfl ?_
    obtain ⟨v17_23, M17_22, eM17_22, h⟩ := bd_e h
    refine m_callVi (As := [.int v7_4]) (st := []) (s_X10_no (d := d + 4) hA  eM17_22) rfl okX10 ck_X10_no w_1388 rfl (Nat.le_of_ble_eq_true rfl) dX10_looking_17 ?_
    exact g_zret rfl rfl (pi_of h) dX10_looking_20
theorem ck_X10_looking : CKV yX10_looking cX10_looking 9 (some .int) 2 := ⟨⟨by decide, by decide, by decide +kernel⟩, w_1739, w_81, ⟨w_1737, w_1738⟩, by decide⟩
theorem dX10_isFilmed_0 : decode cX10_isFilmed 0 = .ok (.aload_n 0, 1) := by decide +kernel
theorem dX10_isFilmed_1 : decode cX10_isFilmed 1 = .ok (.getfield 165, 3) := by decide +kernel
theorem dX10_isFilmed_4 : decode cX10_isFilmed 4 = .ok (.ifCond .eq 24, 3) := by decide +kernel
theorem dX10_isFilmed_7 : decode cX10_isFilmed 7 = .ok (.iload_n 1, 1) := by decide +kernel
theorem dX10_isFilmed_8 : decode cX10_isFilmed 8 = .ok (.iconst 0, 1) := by decide +kernel
theorem dX10_isFilmed_9 : decode cX10_isFilmed 9 = .ok (.aload_n 0, 1) := by decide +kernel
theorem dX10_isFilmed_10 : decode cX10_isFilmed 10 = .ok (.getfield 20, 3) := by decide +kernel
theorem dX10_isFilmed_13 : decode cX10_isFilmed 13 = .ok (.bipush 92, 2) := by decide +kernel
theorem dX10_isFilmed_15 : decode cX10_isFilmed 15 = .ok (.iaload, 1) := by decide +kernel
theorem dX10_isFilmed_16 : decode cX10_isFilmed 16 = .ok (.iconst 2, 1) := by decide +kernel
theorem dX10_isFilmed_17 : decode cX10_isFilmed 17 = .ok (.isub, 1) := by decide +kernel
theorem dX10_isFilmed_18 : decode cX10_isFilmed 18 = .ok (.invokestatic 144, 3) := by decide +kernel
theorem dX10_isFilmed_21 : decode cX10_isFilmed 21 = .ok (.ifCond .eq 7, 3) := by decide +kernel
theorem dX10_isFilmed_24 : decode cX10_isFilmed 24 = .ok (.iconst 1, 1) := by decide +kernel
theorem dX10_isFilmed_25 : decode cX10_isFilmed 25 = .ok (.goto 4, 3) := by decide +kernel
theorem dX10_isFilmed_28 : decode cX10_isFilmed 28 = .ok (.iconst 0, 1) := by decide +kernel
theorem dX10_isFilmed_29 : decode cX10_isFilmed 29 = .ok (.ireturn, 1) := by decide +kernel
def f_X10_isFilmed (x1 : Int32) (M : Mm) : Option (Int32 × Mm) :=
  jn (fun (M1 : Mm) => some ((0 : Int32), M1)) fun j2 => if (M 81 14) = 0 then (j2  M) else (gd (inb (92 : Int32) 141) <| bd (f_X10_within x1 (0 : Int32) ((M 84 (92 : Int32).toNatClampNeg) - (2 : Int32)) M) fun v18_4 M18_3 => if v18_4 = 0 then (j2  M18_3) else (some ((1 : Int32), M18_3)))
set_option maxHeartbeats 4000000 in
set_option maxRecDepth 100000 in
theorem s_X10_isFilmed {l : Launch} {B : BT} (hA : bA B = false) {d : Nat} {r : Int32} {M' : Mm} {x1 : Int32} {M : Mm}  (h : f_X10_isFilmed x1 M = some (r, M')) : Con l B LY (d + 1) yX10_isFilmed cX10_isFilmed 2 (some .boolean) 0 0 [.ref 81, .int x1] 97 M (PI r M') := by
  refine con_of (by decide) (Nat.le_of_ble_eq_true rfl) ?_
  show GG l B LY (d + 1) yX10_isFilmed cX10_isFilmed 2 (some .boolean) 0 0 (PI r M') 97 0 0 0 [(0, .ref 81), (1, .int x1)] [] M
  rw [f_X10_isFilmed] at h
  refine g_aload_n dX10_isFilmed_0 rfl 0 rfl ?_
  refine m_geti (k := 14) okX10 rfl rfl (by decide) w_1283 rfl dX10_isFilmed_1 ?_
  obtain ⟨j2, ej2, h⟩ := jn_e h
  have hj2 : ∀ (M1 : Mm), j2 M1 = some (r, M') → GG l B LY (d + 1) yX10_isFilmed cX10_isFilmed 2 (some .boolean) 0 0 (PI r M') 97 0 0 28 [] [] M1 := by
    intro M1 h
    rw [ej2] at h
    refine g_iconst (v := 0) dX10_isFilmed_28 (by decide) ?_
    exact g_zret rfl rfl (pi_of h) dX10_isFilmed_29
  refine g_if_eq (tgt := 28) dX10_isFilmed_4 (by decide) (fun c6 => ?_) (fun c6 => ?_)
  · replace h := ite_p c6 h
    refine g_sub [] (lv' := []) rfl ?_
    exact hj2  _ h
  · replace h := ite_n c6 h
    refine g_iload_n dX10_isFilmed_7 rfl 1 rfl ?_
    refine g_iconst (v := 0) dX10_isFilmed_8 (by decide) ?_
    refine g_aload_n dX10_isFilmed_9 rfl 0 rfl ?_
    refine m_getr (k := 15) okX10 rfl rfl (by decide) w_1284 rfl dX10_isFilmed_10 ?_
    refine g_bipush (v := 92) dX10_isFilmed_13 (by decide) ?_
    obtain ⟨hz, h⟩ := gd_s h
    refine m_iald rfl hz dX10_isFilmed_15 ?_
    refine g_iconst (v := 2) dX10_isFilmed_16 (by decide) ?_
    refine g_isub dX10_isFilmed_17 ?_
    obtain ⟨v18_4, M18_3, eM18_3, h⟩ := bd_e h
    refine m_callSi (As := [.int x1, .int (0 : Int32), .int ((M 84 (92 : Int32).toNatClampNeg) - (2 : Int32))]) (st := []) (s_X10_within (d := d + 0) hA  eM18_3) ck_X10_within w_1385 rfl (Nat.le_of_ble_eq_true rfl) dX10_isFilmed_18 ?_
    refine g_if_eq (tgt := 28) dX10_isFilmed_21 (by decide) (fun c5 => ?_) (fun c5 => ?_)
    · replace h := ite_p c5 h
      refine g_sub [] (lv' := []) rfl ?_
      exact hj2  _ h
    · replace h := ite_n c5 h
      refine g_iconst (v := 1) dX10_isFilmed_24 (by decide) ?_
      refine g_goto (tgt := 29) dX10_isFilmed_25 (by decide) ?_
      exact g_zret rfl rfl (pi_of h) dX10_isFilmed_29
theorem ck_X10_isFilmed : CKV yX10_isFilmed cX10_isFilmed 2 (some .boolean) 1 := ⟨⟨by decide, by decide, by decide +kernel⟩, w_1747, w_81, ⟨w_1746, w_62⟩, by decide⟩
theorem dX10_film_0 : decode cX10_film 0 = .ok (.aload_n 0, 1) := by decide +kernel
theorem dX10_film_1 : decode cX10_film 1 = .ok (.invokevirtual 156, 3) := by decide +kernel
theorem dX10_film_4 : decode cX10_film 4 = .ok (.aload_n 0, 1) := by decide +kernel
theorem dX10_film_5 : decode cX10_film 5 = .ok (.iload_n 1, 1) := by decide +kernel
theorem dX10_film_6 : decode cX10_film 6 = .ok (.invokevirtual 362, 3) := by decide +kernel
theorem dX10_film_9 : decode cX10_film 9 = .ok (.ifCond .ne 9, 3) := by decide +kernel
theorem dX10_film_12 : decode cX10_film 12 = .ok (.aload_n 0, 1) := by decide +kernel
theorem dX10_film_13 : decode cX10_film 13 = .ok (.iconst 1, 1) := by decide +kernel
theorem dX10_film_14 : decode cX10_film 14 = .ok (.invokevirtual 159, 3) := by decide +kernel
theorem dX10_film_17 : decode cX10_film 17 = .ok (.ireturn, 1) := by decide +kernel
theorem dX10_film_18 : decode cX10_film 18 = .ok (.aload_n 0, 1) := by decide +kernel
theorem dX10_film_19 : decode cX10_film 19 = .ok (.getfield 175, 3) := by decide +kernel
theorem dX10_film_22 : decode cX10_film 22 = .ok (.bipush 30, 2) := by decide +kernel
theorem dX10_film_24 : decode cX10_film 24 = .ok (.if_icmp .ne 9, 3) := by decide +kernel
theorem dX10_film_27 : decode cX10_film 27 = .ok (.aload_n 0, 1) := by decide +kernel
theorem dX10_film_28 : decode cX10_film 28 = .ok (.iconst 3, 1) := by decide +kernel
theorem dX10_film_29 : decode cX10_film 29 = .ok (.invokevirtual 159, 3) := by decide +kernel
theorem dX10_film_32 : decode cX10_film 32 = .ok (.ireturn, 1) := by decide +kernel
theorem dX10_film_33 : decode cX10_film 33 = .ok (.aload_n 0, 1) := by decide +kernel
theorem dX10_film_34 : decode cX10_film 34 = .ok (.getfield 35, 3) := by decide +kernel
theorem dX10_film_37 : decode cX10_film 37 = .ok (.aload_n 0, 1) := by decide +kernel
theorem dX10_film_38 : decode cX10_film 38 = .ok (.getfield 175, 3) := by decide +kernel
theorem dX10_film_41 : decode cX10_film 41 = .ok (.iload_n 1, 1) := by decide +kernel
theorem dX10_film_42 : decode cX10_film 42 = .ok (.iastore, 1) := by decide +kernel
theorem dX10_film_43 : decode cX10_film 43 = .ok (.aload_n 0, 1) := by decide +kernel
theorem dX10_film_44 : decode cX10_film 44 = .ok (.getfield 38, 3) := by decide +kernel
theorem dX10_film_47 : decode cX10_film 47 = .ok (.aload_n 0, 1) := by decide +kernel
theorem dX10_film_48 : decode cX10_film 48 = .ok (.getfield 175, 3) := by decide +kernel
theorem dX10_film_51 : decode cX10_film 51 = .ok (.iload_n 2, 1) := by decide +kernel
theorem dX10_film_52 : decode cX10_film 52 = .ok (.ifCond .eq 7, 3) := by decide +kernel
theorem dX10_film_55 : decode cX10_film 55 = .ok (.iconst 1, 1) := by decide +kernel
theorem dX10_film_56 : decode cX10_film 56 = .ok (.goto 4, 3) := by decide +kernel
theorem dX10_film_59 : decode cX10_film 59 = .ok (.iconst 0, 1) := by decide +kernel
theorem dX10_film_60 : decode cX10_film 60 = .ok (.iastore, 1) := by decide +kernel
theorem dX10_film_61 : decode cX10_film 61 = .ok (.aload_n 0, 1) := by decide +kernel
theorem dX10_film_62 : decode cX10_film 62 = .ok (.getfield 41, 3) := by decide +kernel
theorem dX10_film_65 : decode cX10_film 65 = .ok (.aload_n 0, 1) := by decide +kernel
theorem dX10_film_66 : decode cX10_film 66 = .ok (.getfield 175, 3) := by decide +kernel
theorem dX10_film_69 : decode cX10_film 69 = .ok (.iload_n 3, 1) := by decide +kernel
theorem dX10_film_70 : decode cX10_film 70 = .ok (.ifCond .eq 7, 3) := by decide +kernel
theorem dX10_film_73 : decode cX10_film 73 = .ok (.iconst 1, 1) := by decide +kernel
theorem dX10_film_74 : decode cX10_film 74 = .ok (.goto 4, 3) := by decide +kernel
theorem dX10_film_77 : decode cX10_film 77 = .ok (.iconst 0, 1) := by decide +kernel
theorem dX10_film_78 : decode cX10_film 78 = .ok (.iastore, 1) := by decide +kernel
theorem dX10_film_79 : decode cX10_film 79 = .ok (.aload_n 0, 1) := by decide +kernel
theorem dX10_film_80 : decode cX10_film 80 = .ok (.dup, 1) := by decide +kernel
theorem dX10_film_81 : decode cX10_film 81 = .ok (.getfield 175, 3) := by decide +kernel
theorem dX10_film_84 : decode cX10_film 84 = .ok (.iconst 1, 1) := by decide +kernel
theorem dX10_film_85 : decode cX10_film 85 = .ok (.iadd, 1) := by decide +kernel
theorem dX10_film_86 : decode cX10_film 86 = .ok (.putfield 175, 3) := by decide +kernel
theorem dX10_film_89 : decode cX10_film 89 = .ok (.aload_n 0, 1) := by decide +kernel
theorem dX10_film_90 : decode cX10_film 90 = .ok (.getfield 175, 3) := by decide +kernel
theorem dX10_film_93 : decode cX10_film 93 = .ok (.ireturn, 1) := by decide +kernel
def f_X10_film (x1 : Int32) (x2 : Int32) (x3 : Int32) (M : Mm) : Option (Int32 × Mm) :=
  bv (f_X10_good  M) fun M1_1 => bd (f_X10_isFilmed x1 M1_1) fun v6_4 M6_3 => if v6_4 = 0 then (bd (f_X10_no (1 : Int32) M6_3) fun v14_17 M14_16 => some (v14_17, M14_16)) else (if (M6_3 81 26) = (30 : Int32) then (bd (f_X10_no (3 : Int32) M6_3) fun v29_14 M29_13 => some (v29_14, M29_13)) else (gd (inb (M6_3 81 26) 30) <| jn (fun (s5 : Int32) (M6 : Mm) => gd (inb ((mset M6_3 88 (M6_3 81 26).toNatClampNeg x1) 81 26) 30) <| jn (fun (s8 : Int32) (M9 : Mm) => gd (inb ((mset M6 89 ((mset M6_3 88 (M6_3 81 26).toNatClampNeg x1) 81 26).toNatClampNeg s5) 81 26) 30) <| some (((mset (mset M9 90 ((mset M6 89 ((mset M6_3 88 (M6_3 81 26).toNatClampNeg x1) 81 26).toNatClampNeg s5) 81 26).toNatClampNeg s8) 81 26 (((mset M9 90 ((mset M6 89 ((mset M6_3 88 (M6_3 81 26).toNatClampNeg x1) 81 26).toNatClampNeg s5) 81 26).toNatClampNeg s8) 81 26) + (1 : Int32))) 81 26), (mset (mset M9 90 ((mset M6 89 ((mset M6_3 88 (M6_3 81 26).toNatClampNeg x1) 81 26).toNatClampNeg s5) 81 26).toNatClampNeg s8) 81 26 (((mset M9 90 ((mset M6 89 ((mset M6_3 88 (M6_3 81 26).toNatClampNeg x1) 81 26).toNatClampNeg s5) 81 26).toNatClampNeg s8) 81 26) + (1 : Int32))))) fun j10 => if x3 = 0 then (j10 (0 : Int32) (mset M6 89 ((mset M6_3 88 (M6_3 81 26).toNatClampNeg x1) 81 26).toNatClampNeg s5)) else (j10 (1 : Int32) (mset M6 89 ((mset M6_3 88 (M6_3 81 26).toNatClampNeg x1) 81 26).toNatClampNeg s5))) fun j7 => if x2 = 0 then (j7 (0 : Int32) (mset M6_3 88 (M6_3 81 26).toNatClampNeg x1)) else (j7 (1 : Int32) (mset M6_3 88 (M6_3 81 26).toNatClampNeg x1))))
set_option maxHeartbeats 4000000 in
set_option maxRecDepth 100000 in
theorem s_X10_film {l : Launch} {B : BT} (hA : bA B = false) {d : Nat} {r : Int32} {M' : Mm} {x1 : Int32} {x2 : Int32} {x3 : Int32} {M : Mm}  (h : f_X10_film x1 x2 x3 M = some (r, M')) : Con l B LY (d + 2) yX10_film cX10_film 4 (some .int) 0 0 [.ref 81, .int x1, .int x2, .int x3] 97 M (PI r M') := by
  refine con_of (by decide) (Nat.le_of_ble_eq_true rfl) ?_
  show GG l B LY (d + 2) yX10_film cX10_film 4 (some .int) 0 0 (PI r M') 97 0 0 0 [(0, .ref 81), (1, .int x1), (2, .int x2), (3, .int x3)] [] M
  rw [f_X10_film] at h
  refine g_aload_n dX10_film_0 rfl 0 rfl ?_
  obtain ⟨M1_1, eM1_1, h⟩ := bv_e h
  refine m_callVv (As := []) (st := []) (s_X10_good (d := d + 1) hA  eM1_1) rfl okX10 ck_X10_good w_1381 rfl (Nat.le_of_ble_eq_true rfl) dX10_film_1 ?_
  refine g_aload_n dX10_film_4 rfl 0 rfl ?_
  refine g_iload_n dX10_film_5 rfl 1 rfl ?_
  obtain ⟨v6_4, M6_3, eM6_3, h⟩ := bd_e h
  refine m_callVi (As := [.int x1]) (st := []) (s_X10_isFilmed (d := d + 0) hA  eM6_3) rfl okX10 ck_X10_isFilmed w_1744 rfl (Nat.le_of_ble_eq_true rfl) dX10_film_6 ?_
  refine g_if_ne (tgt := 18) dX10_film_9 (by decide) (fun c18 => ?_) (fun c18 => ?_)
  · replace h := ite_n c18 h
    refine g_aload_n dX10_film_18 rfl 0 rfl ?_
    refine m_geti (k := 26) okX10 rfl rfl (by decide) w_1295 rfl dX10_film_19 ?_
    refine g_bipush (v := 30) dX10_film_22 (by decide) ?_
    refine g_icmp_ne (tgt := 33) dX10_film_24 (by decide) (fun c15 => ?_) (fun c15 => ?_)
    · replace h := ite_n c15 h
      refine g_aload_n dX10_film_33 rfl 0 rfl ?_
      refine m_getr (k := 21) okX10 rfl rfl (by decide) w_1290 rfl dX10_film_34 ?_
      refine g_aload_n dX10_film_37 rfl 0 rfl ?_
      refine m_geti (k := 26) okX10 rfl rfl (by decide) w_1295 rfl dX10_film_38 ?_
      refine g_iload_n dX10_film_41 rfl 1 rfl ?_
      obtain ⟨hz, h⟩ := gd_s h
      refine m_iast hA rfl hz dX10_film_42 ?_
      refine g_aload_n dX10_film_43 rfl 0 rfl ?_
      refine m_getr (k := 22) okX10 rfl rfl (by decide) w_1291 rfl dX10_film_44 ?_
      refine g_aload_n dX10_film_47 rfl 0 rfl ?_
      refine m_geti (k := 26) okX10 rfl rfl (by decide) w_1295 rfl dX10_film_48 ?_
      refine g_iload_n dX10_film_51 rfl 2 rfl ?_
      obtain ⟨j7, ej7, h⟩ := jn_e h
      have hj7 : ∀ (s5 : Int32) (M6 : Mm), j7 s5 M6 = some (r, M') → GG l B LY (d + 2) yX10_film cX10_film 4 (some .int) 0 0 (PI r M') 97 0 0 60 [(0, .ref 81), (3, .int x3)] [.int s5, .int ((mset M6_3 88 (M6_3 81 26).toNatClampNeg x1) 81 26), .ref 89] M6 := by
        intro s5 M6 h
        rw [ej7] at h
        obtain ⟨hz, h⟩ := gd_s h
        refine m_iast hA rfl hz dX10_film_60 ?_
        refine g_aload_n dX10_film_61 rfl 0 rfl ?_
        refine m_getr (k := 23) okX10 rfl rfl (by decide) w_1292 rfl dX10_film_62 ?_
        refine g_aload_n dX10_film_65 rfl 0 rfl ?_
        refine m_geti (k := 26) okX10 rfl rfl (by decide) w_1295 rfl dX10_film_66 ?_
        refine g_iload_n dX10_film_69 rfl 1 rfl ?_
        obtain ⟨j10, ej10, h⟩ := jn_e h
        have hj10 : ∀ (s8 : Int32) (M9 : Mm), j10 s8 M9 = some (r, M') → GG l B LY (d + 2) yX10_film cX10_film 4 (some .int) 0 0 (PI r M') 97 0 0 78 [(0, .ref 81)] [.int s8, .int ((mset M6 89 ((mset M6_3 88 (M6_3 81 26).toNatClampNeg x1) 81 26).toNatClampNeg s5) 81 26), .ref 90] M9 := by
          intro s8 M9 h
          rw [ej10] at h
          obtain ⟨hz, h⟩ := gd_s h
          refine m_iast hA rfl hz dX10_film_78 ?_
          refine g_aload_n dX10_film_79 rfl 0 rfl ?_
          refine g_dup dX10_film_80 rfl ?_
          refine m_geti (k := 26) okX10 rfl rfl (by decide) w_1295 rfl dX10_film_81 ?_
          refine g_iconst (v := 1) dX10_film_84 (by decide) ?_
          refine g_iadd dX10_film_85 ?_
          refine m_puti (k := 26) okX10 rfl rfl (by decide) w_1295 rfl rfl rfl dX10_film_86 ?_
          refine g_aload_n dX10_film_89 rfl 0 rfl ?_
          refine m_geti (k := 26) okX10 rfl rfl (by decide) w_1295 rfl dX10_film_90 ?_
          exact g_zret rfl rfl (pi_of h) dX10_film_93
        refine g_if_eq (tgt := 77) dX10_film_70 (by decide) (fun c11 => ?_) (fun c11 => ?_)
        · replace h := ite_p c11 h
          refine g_iconst (v := 0) dX10_film_77 (by decide) ?_
          refine g_sub [0] (lv' := [(0, .ref 81)]) rfl ?_
          exact hj10 _ _ h
        · replace h := ite_n c11 h
          refine g_iconst (v := 1) dX10_film_73 (by decide) ?_
          refine g_goto (tgt := 78) dX10_film_74 (by decide) ?_
          refine g_sub [0] (lv' := [(0, .ref 81)]) rfl ?_
          exact hj10 _ _ h
      refine g_if_eq (tgt := 59) dX10_film_52 (by decide) (fun c12 => ?_) (fun c12 => ?_)
      · replace h := ite_p c12 h
        refine g_iconst (v := 0) dX10_film_59 (by decide) ?_
        refine g_sub [0, 3] (lv' := [(0, .ref 81), (3, .int x3)]) rfl ?_
        exact hj7 _ _ h
      · replace h := ite_n c12 h
        refine g_iconst (v := 1) dX10_film_55 (by decide) ?_
        refine g_goto (tgt := 60) dX10_film_56 (by decide) ?_
        refine g_sub [0, 3] (lv' := [(0, .ref 81), (3, .int x3)]) rfl ?_
        exact hj7 _ _ h
    · replace h := ite_p c15 h
      refine g_aload_n dX10_film_27 rfl 0 rfl ?_
      refine g_iconst (v := 3) dX10_film_28 (by decide) ?_
      obtain ⟨v29_14, M29_13, eM29_13, h⟩ := bd_e h
      refine m_callVi (As := [.int (3 : Int32)]) (st := []) (s_X10_no (d := d + 1) hA  eM29_13) rfl okX10 ck_X10_no w_1388 rfl (Nat.le_of_ble_eq_true rfl) dX10_film_29 ?_
      exact g_zret rfl rfl (pi_of h) dX10_film_32
  · replace h := ite_p c18 h
    refine g_aload_n dX10_film_12 rfl 0 rfl ?_
    refine g_iconst (v := 1) dX10_film_13 (by decide) ?_
    obtain ⟨v14_17, M14_16, eM14_16, h⟩ := bd_e h
    refine m_callVi (As := [.int (1 : Int32)]) (st := []) (s_X10_no (d := d + 1) hA  eM14_16) rfl okX10 ck_X10_no w_1388 rfl (Nat.le_of_ble_eq_true rfl) dX10_film_14 ?_
    exact g_zret rfl rfl (pi_of h) dX10_film_17
theorem ck_X10_film : CKV yX10_film cX10_film 4 (some .int) 3 := ⟨⟨by decide, by decide, by decide +kernel⟩, w_1743, w_81, ⟨w_1741, w_1742⟩, by decide⟩
theorem dX10_lawOf_0 : decode cX10_lawOf 0 = .ok (.iconst 0, 1) := by decide +kernel
theorem dX10_lawOf_1 : decode cX10_lawOf 1 = .ok (.istore_n 3, 1) := by decide +kernel
theorem dX10_lawOf_2 : decode cX10_lawOf 2 = .ok (.iconst 0, 1) := by decide +kernel
theorem dX10_lawOf_3 : decode cX10_lawOf 3 = .ok (.istore 4, 2) := by decide +kernel
theorem dX10_lawOf_5 : decode cX10_lawOf 5 = .ok (.iconst 0, 1) := by decide +kernel
theorem dX10_lawOf_6 : decode cX10_lawOf 6 = .ok (.istore 5, 2) := by decide +kernel
theorem dX10_lawOf_8 : decode cX10_lawOf 8 = .ok (.iload 5, 2) := by decide +kernel
theorem dX10_lawOf_10 : decode cX10_lawOf 10 = .ok (.aload_n 0, 1) := by decide +kernel
theorem dX10_lawOf_11 : decode cX10_lawOf 11 = .ok (.getfield 175, 3) := by decide +kernel
theorem dX10_lawOf_14 : decode cX10_lawOf 14 = .ok (.if_icmp .ge 53, 3) := by decide +kernel
theorem dX10_lawOf_17 : decode cX10_lawOf 17 = .ok (.aload_n 0, 1) := by decide +kernel
theorem dX10_lawOf_18 : decode cX10_lawOf 18 = .ok (.getfield 35, 3) := by decide +kernel
theorem dX10_lawOf_21 : decode cX10_lawOf 21 = .ok (.iload 5, 2) := by decide +kernel
theorem dX10_lawOf_23 : decode cX10_lawOf 23 = .ok (.iaload, 1) := by decide +kernel
theorem dX10_lawOf_24 : decode cX10_lawOf 24 = .ok (.iload_n 1, 1) := by decide +kernel
theorem dX10_lawOf_25 : decode cX10_lawOf 25 = .ok (.if_icmp .ne 36, 3) := by decide +kernel
theorem dX10_lawOf_28 : decode cX10_lawOf 28 = .ok (.iload_n 2, 1) := by decide +kernel
theorem dX10_lawOf_29 : decode cX10_lawOf 29 = .ok (.ifCond .lt 17, 3) := by decide +kernel
theorem dX10_lawOf_32 : decode cX10_lawOf 32 = .ok (.aload_n 0, 1) := by decide +kernel
theorem dX10_lawOf_33 : decode cX10_lawOf 33 = .ok (.getfield 38, 3) := by decide +kernel
theorem dX10_lawOf_36 : decode cX10_lawOf 36 = .ok (.iload 5, 2) := by decide +kernel
theorem dX10_lawOf_38 : decode cX10_lawOf 38 = .ok (.iaload, 1) := by decide +kernel
theorem dX10_lawOf_39 : decode cX10_lawOf 39 = .ok (.iload_n 2, 1) := by decide +kernel
theorem dX10_lawOf_40 : decode cX10_lawOf 40 = .ok (.if_icmp .eq 6, 3) := by decide +kernel
theorem dX10_lawOf_43 : decode cX10_lawOf 43 = .ok (.goto 18, 3) := by decide +kernel
theorem dX10_lawOf_46 : decode cX10_lawOf 46 = .ok (.iinc 3 1, 3) := by decide +kernel
theorem dX10_lawOf_49 : decode cX10_lawOf 49 = .ok (.iload 4, 2) := by decide +kernel
theorem dX10_lawOf_51 : decode cX10_lawOf 51 = .ok (.aload_n 0, 1) := by decide +kernel
theorem dX10_lawOf_52 : decode cX10_lawOf 52 = .ok (.getfield 41, 3) := by decide +kernel
theorem dX10_lawOf_55 : decode cX10_lawOf 55 = .ok (.iload 5, 2) := by decide +kernel
theorem dX10_lawOf_57 : decode cX10_lawOf 57 = .ok (.iaload, 1) := by decide +kernel
theorem dX10_lawOf_58 : decode cX10_lawOf 58 = .ok (.iadd, 1) := by decide +kernel
theorem dX10_lawOf_59 : decode cX10_lawOf 59 = .ok (.istore 4, 2) := by decide +kernel
theorem dX10_lawOf_61 : decode cX10_lawOf 61 = .ok (.iinc 5 1, 3) := by decide +kernel
theorem dX10_lawOf_64 : decode cX10_lawOf 64 = .ok (.goto (-56), 3) := by decide +kernel
theorem dX10_lawOf_67 : decode cX10_lawOf 67 = .ok (.iload_n 3, 1) := by decide +kernel
theorem dX10_lawOf_68 : decode cX10_lawOf 68 = .ok (.ifCond .ne 7, 3) := by decide +kernel
theorem dX10_lawOf_71 : decode cX10_lawOf 71 = .ok (.iconst (-1), 1) := by decide +kernel
theorem dX10_lawOf_72 : decode cX10_lawOf 72 = .ok (.goto 10, 3) := by decide +kernel
theorem dX10_lawOf_75 : decode cX10_lawOf 75 = .ok (.bipush 100, 2) := by decide +kernel
theorem dX10_lawOf_77 : decode cX10_lawOf 77 = .ok (.iload 4, 2) := by decide +kernel
theorem dX10_lawOf_79 : decode cX10_lawOf 79 = .ok (.imul, 1) := by decide +kernel
theorem dX10_lawOf_80 : decode cX10_lawOf 80 = .ok (.iload_n 3, 1) := by decide +kernel
theorem dX10_lawOf_81 : decode cX10_lawOf 81 = .ok (.idiv, 1) := by decide +kernel
theorem dX10_lawOf_82 : decode cX10_lawOf 82 = .ok (.ireturn, 1) := by decide +kernel
def lp_X10_lawOf_8 (y1 : Int32) (y2 : Int32) (k67 : Int32 → Int32 → Mm → Option (Int32 × Mm)) : Nat → Int32 → Int32 → Int32 → Mm → Option (Int32 × Mm)
  | 0, _, _, _, _ => none
  | n + 1, y3, y4, y5, M =>
    if (M 81 26) ≤ y5 then (k67 y3 y4 M) else (gd (inb y5 30) <| jn (fun (u1 : Int32) (u2 : Int32) (M3 : Mm) => lp_X10_lawOf_8 y1 y2 k67 n u1 u2 (y5 + (1 : Int32)) M3) fun j4 => if (M 88 y5.toNatClampNeg) = y1 then (jn (fun (M5 : Mm) => gd (inb y5 30) <| lt ((y4 + (M5 90 y5.toNatClampNeg))) fun t7 => j4 (y3 + (1 : Int32)) t7 M5) fun j6 => if y2 < 0 then (j6  M) else (gd (inb y5 30) <| if (M 89 y5.toNatClampNeg) = y2 then (j6  M) else (j4 y3 y4 M))) else (j4 y3 y4 M))
def f_X10_lawOf (x1 : Int32) (x2 : Int32) (M : Mm) : Option (Int32 × Mm) :=
  lp_X10_lawOf_8 x1 x2 (fun (u12 : Int32) (u13 : Int32) (M14 : Mm) => if u12 = 0 then (some ((-1 : Int32), M14)) else (gd (nzi u12) <| some ((((100 : Int32) * u13) / u12), M14))) N0 (0 : Int32) (0 : Int32) (0 : Int32) M
set_option maxHeartbeats 4000000 in
set_option maxRecDepth 100000 in
theorem sl_X10_lawOf_8 {l : Launch} {B : BT} (hA : bA B = false) {d : Nat} {r : Int32} {M' : Mm} {y1 : Int32} {y2 : Int32}  {k67 : Int32 → Int32 → Mm → Option (Int32 × Mm)} (hk67 : ∀ (z3 : Int32) (z4 : Int32) (M9 : Mm), k67 z3 z4 M9 = some (r, M') → GG l B LY (d + 0) yX10_lawOf cX10_lawOf 6 (some .int) 0 0 (PI r M') 97 0 0 67 [(3, .int z3), (4, .int z4)] [] M9) :
    ∀ (n : Nat) (y3 : Int32) (y4 : Int32) (y5 : Int32) (M : Mm), lp_X10_lawOf_8 y1 y2 k67 n y3 y4 y5 M = some (r, M') → GG l B LY (d + 0) yX10_lawOf cX10_lawOf 6 (some .int) 0 0 (PI r M') 97 0 0 8 [(0, .ref 81), (1, .int y1), (2, .int y2), (3, .int y3), (4, .int y4), (5, .int y5)] [] M := by
  intro n
  induction n with
  | zero => intro y3 y4 y5 M h; cases h
  | succ n ih =>
    intro y3 y4 y5 M h
    rw [lp_X10_lawOf_8] at h
    refine g_iload dX10_lawOf_8 5 rfl ?_
    refine g_aload_n dX10_lawOf_10 rfl 0 rfl ?_
    refine m_geti (k := 26) okX10 rfl rfl (by decide) w_1295 rfl dX10_lawOf_11 ?_
    refine g_icmp_ge (tgt := 67) dX10_lawOf_14 (by decide) (fun c11 => ?_) (fun c11 => ?_)
    · replace h := ite_p c11 h
      refine g_sub [3, 4] (lv' := [(3, .int y3), (4, .int y4)]) rfl ?_
      exact hk67 _ _ _ h
    · replace h := ite_n c11 h
      refine g_aload_n dX10_lawOf_17 rfl 0 rfl ?_
      refine m_getr (k := 21) okX10 rfl rfl (by decide) w_1290 rfl dX10_lawOf_18 ?_
      refine g_iload dX10_lawOf_21 5 rfl ?_
      obtain ⟨hz, h⟩ := gd_s h
      refine m_iald rfl hz dX10_lawOf_23 ?_
      refine g_iload_n dX10_lawOf_24 rfl 1 rfl ?_
      obtain ⟨j4, ej4, h⟩ := jn_e h
      have hj4 : ∀ (u1 : Int32) (u2 : Int32) (M3 : Mm), j4 u1 u2 M3 = some (r, M') → GG l B LY (d + 0) yX10_lawOf cX10_lawOf 6 (some .int) 0 0 (PI r M') 97 0 0 61 [(0, .ref 81), (1, .int y1), (2, .int y2), (3, .int u1), (4, .int u2), (5, .int y5)] [] M3 := by
        intro u1 u2 M3 h
        rw [ej4] at h
        refine g_iinc (v := (y5 + (1 : Int32))) (lv' := [(5, .int (y5 + (1 : Int32))), (0, .ref 81), (1, .int y1), (2, .int y2), (3, .int u1), (4, .int u2)]) dX10_lawOf_61 5 rfl rfl (by decide) rfl ?_
        refine g_goto (tgt := 8) dX10_lawOf_64 (by decide) ?_
        refine g_sub [1, 2, 3, 4, 5, 0] (lv' := [(0, .ref 81), (1, .int y1), (2, .int y2), (3, .int u1), (4, .int u2), (5, .int (y5 + (1 : Int32)))]) rfl ?_
        exact ih _ _ _  _ h
      refine g_icmp_ne (tgt := 61) dX10_lawOf_25 (by decide) (fun c10 => ?_) (fun c10 => ?_)
      · replace h := ite_n c10 h
        refine g_sub [0, 1, 2, 3, 4, 5] (lv' := [(0, .ref 81), (1, .int y1), (2, .int y2), (3, .int y3), (4, .int y4), (5, .int y5)]) rfl ?_
        exact hj4 _ _ _ h
      · replace h := ite_p c10 h
        refine g_iload_n dX10_lawOf_28 rfl 2 rfl ?_
        obtain ⟨j6, ej6, h⟩ := jn_e h
        have hj6 : ∀ (M5 : Mm), j6 M5 = some (r, M') → GG l B LY (d + 0) yX10_lawOf cX10_lawOf 6 (some .int) 0 0 (PI r M') 97 0 0 46 [(0, .ref 81), (1, .int y1), (2, .int y2), (3, .int y3), (4, .int y4), (5, .int y5)] [] M5 := by
          intro M5 h
          rw [ej6] at h
          refine g_iinc (v := (y3 + (1 : Int32))) (lv' := [(3, .int (y3 + (1 : Int32))), (0, .ref 81), (1, .int y1), (2, .int y2), (4, .int y4), (5, .int y5)]) dX10_lawOf_46 3 rfl rfl (by decide) rfl ?_
          refine g_iload dX10_lawOf_49 4 rfl ?_
          refine g_aload_n dX10_lawOf_51 rfl 1 rfl ?_
          refine m_getr (k := 23) okX10 rfl rfl (by decide) w_1292 rfl dX10_lawOf_52 ?_
          refine g_iload dX10_lawOf_55 5 rfl ?_
          obtain ⟨hz, h⟩ := gd_s h
          refine m_iald rfl hz dX10_lawOf_57 ?_
          refine g_iadd dX10_lawOf_58 ?_
          obtain ⟨t7, et7, h⟩ := lt_e h
          refine g_cuti et7 ?_
          refine g_istore (lv' := [(4, .int t7), (3, .int (y3 + (1 : Int32))), (0, .ref 81), (1, .int y1), (2, .int y2), (5, .int y5)]) dX10_lawOf_59 (by decide) rfl ?_
          refine g_sub [2, 3, 4, 1, 0, 5] (lv' := [(0, .ref 81), (1, .int y1), (2, .int y2), (3, .int (y3 + (1 : Int32))), (4, .int t7), (5, .int y5)]) rfl ?_
          exact hj4 _ _ _ h
        refine g_if_lt (tgt := 46) dX10_lawOf_29 (by decide) (fun c9 => ?_) (fun c9 => ?_)
        · replace h := ite_p c9 h
          refine g_sub [0, 1, 2, 3, 4, 5] (lv' := [(0, .ref 81), (1, .int y1), (2, .int y2), (3, .int y3), (4, .int y4), (5, .int y5)]) rfl ?_
          exact hj6  _ h
        · replace h := ite_n c9 h
          refine g_aload_n dX10_lawOf_32 rfl 0 rfl ?_
          refine m_getr (k := 22) okX10 rfl rfl (by decide) w_1291 rfl dX10_lawOf_33 ?_
          refine g_iload dX10_lawOf_36 5 rfl ?_
          obtain ⟨hz, h⟩ := gd_s h
          refine m_iald rfl hz dX10_lawOf_38 ?_
          refine g_iload_n dX10_lawOf_39 rfl 2 rfl ?_
          refine g_icmp_eq (tgt := 46) dX10_lawOf_40 (by decide) (fun c8 => ?_) (fun c8 => ?_)
          · replace h := ite_p c8 h
            refine g_sub [0, 1, 2, 3, 4, 5] (lv' := [(0, .ref 81), (1, .int y1), (2, .int y2), (3, .int y3), (4, .int y4), (5, .int y5)]) rfl ?_
            exact hj6  _ h
          · replace h := ite_n c8 h
            refine g_goto (tgt := 61) dX10_lawOf_43 (by decide) ?_
            refine g_sub [0, 1, 2, 3, 4, 5] (lv' := [(0, .ref 81), (1, .int y1), (2, .int y2), (3, .int y3), (4, .int y4), (5, .int y5)]) rfl ?_
            exact hj4 _ _ _ h
set_option maxHeartbeats 4000000 in
set_option maxRecDepth 100000 in
theorem s_X10_lawOf {l : Launch} {B : BT} (hA : bA B = false) {d : Nat} {r : Int32} {M' : Mm} {x1 : Int32} {x2 : Int32} {M : Mm}  (h : f_X10_lawOf x1 x2 M = some (r, M')) : Con l B LY (d + 0) yX10_lawOf cX10_lawOf 6 (some .int) 0 0 [.ref 81, .int x1, .int x2] 97 M (PI r M') := by
  refine con_of (by decide) (Nat.le_of_ble_eq_true rfl) ?_
  show GG l B LY (d + 0) yX10_lawOf cX10_lawOf 6 (some .int) 0 0 (PI r M') 97 0 0 0 [(0, .ref 81), (1, .int x1), (2, .int x2)] [] M
  rw [f_X10_lawOf] at h
  refine g_iconst (v := 0) dX10_lawOf_0 (by decide) ?_
  refine g_istore_n (lv' := [(3, .int (0 : Int32)), (0, .ref 81), (1, .int x1), (2, .int x2)]) dX10_lawOf_1 rfl (by decide) rfl ?_
  refine g_iconst (v := 0) dX10_lawOf_2 (by decide) ?_
  refine g_istore (lv' := [(4, .int (0 : Int32)), (3, .int (0 : Int32)), (0, .ref 81), (1, .int x1), (2, .int x2)]) dX10_lawOf_3 (by decide) rfl ?_
  refine g_iconst (v := 0) dX10_lawOf_5 (by decide) ?_
  refine g_istore (lv' := [(5, .int (0 : Int32)), (4, .int (0 : Int32)), (3, .int (0 : Int32)), (0, .ref 81), (1, .int x1), (2, .int x2)]) dX10_lawOf_6 (by decide) rfl ?_
  refine g_sub [3, 4, 5, 2, 1, 0] (lv' := [(0, .ref 81), (1, .int x1), (2, .int x2), (3, .int (0 : Int32)), (4, .int (0 : Int32)), (5, .int (0 : Int32))]) rfl ?_
  refine sl_X10_lawOf_8 hA  ?_ _ _ _ _ _ h
  · intro u12 u13 M14 h
    refine g_iload_n dX10_lawOf_67 rfl 0 rfl ?_
    refine g_if_ne (tgt := 75) dX10_lawOf_68 (by decide) (fun c15 => ?_) (fun c15 => ?_)
    · replace h := ite_n c15 h
      refine g_bipush (v := 100) dX10_lawOf_75 (by decide) ?_
      refine g_iload dX10_lawOf_77 1 rfl ?_
      refine g_imul dX10_lawOf_79 ?_
      refine g_iload_n dX10_lawOf_80 rfl 0 rfl ?_
      obtain ⟨hz, h⟩ := gd_s h
      refine g_idiv dX10_lawOf_81 (nzi_s hz) ?_
      exact g_zret rfl rfl (pi_of h) dX10_lawOf_82
    · replace h := ite_p c15 h
      refine g_iconst (v := (-1)) dX10_lawOf_71 (by decide) ?_
      refine g_goto (tgt := 82) dX10_lawOf_72 (by decide) ?_
      exact g_zret rfl rfl (pi_of h) dX10_lawOf_82
theorem ck_X10_lawOf : CKV yX10_lawOf cX10_lawOf 6 (some .int) 2 := ⟨⟨by decide, by decide, by decide +kernel⟩, w_1755, w_81, ⟨w_1754, w_63⟩, by decide⟩
theorem dX10_law_0 : decode cX10_law 0 = .ok (.aload_n 0, 1) := by decide +kernel
theorem dX10_law_1 : decode cX10_law 1 = .ok (.invokevirtual 156, 3) := by decide +kernel
theorem dX10_law_4 : decode cX10_law 4 = .ok (.aload_n 0, 1) := by decide +kernel
theorem dX10_law_5 : decode cX10_law 5 = .ok (.iload_n 1, 1) := by decide +kernel
theorem dX10_law_6 : decode cX10_law 6 = .ok (.invokevirtual 362, 3) := by decide +kernel
theorem dX10_law_9 : decode cX10_law 9 = .ok (.ifCond .ne 9, 3) := by decide +kernel
theorem dX10_law_12 : decode cX10_law 12 = .ok (.aload_n 0, 1) := by decide +kernel
theorem dX10_law_13 : decode cX10_law 13 = .ok (.iconst 1, 1) := by decide +kernel
theorem dX10_law_14 : decode cX10_law 14 = .ok (.invokevirtual 159, 3) := by decide +kernel
theorem dX10_law_17 : decode cX10_law 17 = .ok (.ireturn, 1) := by decide +kernel
theorem dX10_law_18 : decode cX10_law 18 = .ok (.aload_n 0, 1) := by decide +kernel
theorem dX10_law_19 : decode cX10_law 19 = .ok (.iload_n 1, 1) := by decide +kernel
theorem dX10_law_20 : decode cX10_law 20 = .ok (.iconst (-1), 1) := by decide +kernel
theorem dX10_law_21 : decode cX10_law 21 = .ok (.invokevirtual 365, 3) := by decide +kernel
theorem dX10_law_24 : decode cX10_law 24 = .ok (.istore_n 2, 1) := by decide +kernel
theorem dX10_law_25 : decode cX10_law 25 = .ok (.iload_n 2, 1) := by decide +kernel
theorem dX10_law_26 : decode cX10_law 26 = .ok (.ifCond .ge 12, 3) := by decide +kernel
theorem dX10_law_29 : decode cX10_law 29 = .ok (.aload_n 0, 1) := by decide +kernel
theorem dX10_law_30 : decode cX10_law 30 = .ok (.bipush 6, 2) := by decide +kernel
theorem dX10_law_32 : decode cX10_law 32 = .ok (.invokevirtual 159, 3) := by decide +kernel
theorem dX10_law_35 : decode cX10_law 35 = .ok (.goto 4, 3) := by decide +kernel
theorem dX10_law_38 : decode cX10_law 38 = .ok (.iload_n 2, 1) := by decide +kernel
theorem dX10_law_39 : decode cX10_law 39 = .ok (.ireturn, 1) := by decide +kernel
def f_X10_law (x1 : Int32) (M : Mm) : Option (Int32 × Mm) :=
  bv (f_X10_good  M) fun M1_1 => bd (f_X10_isFilmed x1 M1_1) fun v6_4 M6_3 => if v6_4 = 0 then (bd (f_X10_no (1 : Int32) M6_3) fun v14_11 M14_10 => some (v14_11, M14_10)) else (bd (f_X10_lawOf x1 (-1 : Int32) M6_3) fun v21_6 M21_5 => if 0 ≤ v21_6 then (some (v21_6, M21_5)) else (bd (f_X10_no (6 : Int32) M21_5) fun v32_8 M32_7 => some (v32_8, M32_7)))
set_option maxHeartbeats 4000000 in
set_option maxRecDepth 100000 in
theorem s_X10_law {l : Launch} {B : BT} (hA : bA B = false) {d : Nat} {r : Int32} {M' : Mm} {x1 : Int32} {M : Mm}  (h : f_X10_law x1 M = some (r, M')) : Con l B LY (d + 2) yX10_law cX10_law 3 (some .int) 0 0 [.ref 81, .int x1] 97 M (PI r M') := by
  refine con_of (by decide) (Nat.le_of_ble_eq_true rfl) ?_
  show GG l B LY (d + 2) yX10_law cX10_law 3 (some .int) 0 0 (PI r M') 97 0 0 0 [(0, .ref 81), (1, .int x1)] [] M
  rw [f_X10_law] at h
  refine g_aload_n dX10_law_0 rfl 0 rfl ?_
  obtain ⟨M1_1, eM1_1, h⟩ := bv_e h
  refine m_callVv (As := []) (st := []) (s_X10_good (d := d + 1) hA  eM1_1) rfl okX10 ck_X10_good w_1381 rfl (Nat.le_of_ble_eq_true rfl) dX10_law_1 ?_
  refine g_aload_n dX10_law_4 rfl 0 rfl ?_
  refine g_iload_n dX10_law_5 rfl 1 rfl ?_
  obtain ⟨v6_4, M6_3, eM6_3, h⟩ := bd_e h
  refine m_callVi (As := [.int x1]) (st := []) (s_X10_isFilmed (d := d + 0) hA  eM6_3) rfl okX10 ck_X10_isFilmed w_1744 rfl (Nat.le_of_ble_eq_true rfl) dX10_law_6 ?_
  refine g_if_ne (tgt := 18) dX10_law_9 (by decide) (fun c12 => ?_) (fun c12 => ?_)
  · replace h := ite_n c12 h
    refine g_aload_n dX10_law_18 rfl 0 rfl ?_
    refine g_iload_n dX10_law_19 rfl 1 rfl ?_
    refine g_iconst (v := (-1)) dX10_law_20 (by decide) ?_
    obtain ⟨v21_6, M21_5, eM21_5, h⟩ := bd_e h
    refine m_callVi (As := [.int x1, .int (-1 : Int32)]) (st := []) (s_X10_lawOf (d := d + 1) hA  eM21_5) rfl okX10 ck_X10_lawOf w_1752 rfl (Nat.le_of_ble_eq_true rfl) dX10_law_21 ?_
    refine g_istore_n (lv' := [(2, .int v21_6), (0, .ref 81), (1, .int x1)]) dX10_law_24 rfl (by decide) rfl ?_
    refine g_iload_n dX10_law_25 rfl 0 rfl ?_
    refine g_if_ge (tgt := 38) dX10_law_26 (by decide) (fun c9 => ?_) (fun c9 => ?_)
    · replace h := ite_p c9 h
      refine g_iload_n dX10_law_38 rfl 0 rfl ?_
      exact g_zret rfl rfl (pi_of h) dX10_law_39
    · replace h := ite_n c9 h
      refine g_aload_n dX10_law_29 rfl 1 rfl ?_
      refine g_bipush (v := 6) dX10_law_30 (by decide) ?_
      obtain ⟨v32_8, M32_7, eM32_7, h⟩ := bd_e h
      refine m_callVi (As := [.int (6 : Int32)]) (st := []) (s_X10_no (d := d + 1) hA  eM32_7) rfl okX10 ck_X10_no w_1388 rfl (Nat.le_of_ble_eq_true rfl) dX10_law_32 ?_
      refine g_goto (tgt := 39) dX10_law_35 (by decide) ?_
      exact g_zret rfl rfl (pi_of h) dX10_law_39
  · replace h := ite_p c12 h
    refine g_aload_n dX10_law_12 rfl 0 rfl ?_
    refine g_iconst (v := 1) dX10_law_13 (by decide) ?_
    obtain ⟨v14_11, M14_10, eM14_10, h⟩ := bd_e h
    refine m_callVi (As := [.int (1 : Int32)]) (st := []) (s_X10_no (d := d + 1) hA  eM14_10) rfl okX10 ck_X10_no w_1388 rfl (Nat.le_of_ble_eq_true rfl) dX10_law_14 ?_
    exact g_zret rfl rfl (pi_of h) dX10_law_17
theorem ck_X10_law : CKV yX10_law cX10_law 3 (some .int) 1 := ⟨⟨by decide, by decide, by decide +kernel⟩, w_1751, w_81, ⟨w_1749, w_1750⟩, by decide⟩
theorem dX10_says_0 : decode cX10_says 0 = .ok (.aload_n 0, 1) := by decide +kernel
theorem dX10_says_1 : decode cX10_says 1 = .ok (.invokevirtual 156, 3) := by decide +kernel
theorem dX10_says_4 : decode cX10_says 4 = .ok (.aload_n 0, 1) := by decide +kernel
theorem dX10_says_5 : decode cX10_says 5 = .ok (.iload_n 1, 1) := by decide +kernel
theorem dX10_says_6 : decode cX10_says 6 = .ok (.invokevirtual 362, 3) := by decide +kernel
theorem dX10_says_9 : decode cX10_says 9 = .ok (.ifCond .ne 9, 3) := by decide +kernel
theorem dX10_says_12 : decode cX10_says 12 = .ok (.aload_n 0, 1) := by decide +kernel
theorem dX10_says_13 : decode cX10_says 13 = .ok (.iconst 1, 1) := by decide +kernel
theorem dX10_says_14 : decode cX10_says 14 = .ok (.invokevirtual 159, 3) := by decide +kernel
theorem dX10_says_17 : decode cX10_says 17 = .ok (.ireturn, 1) := by decide +kernel
theorem dX10_says_18 : decode cX10_says 18 = .ok (.aload_n 0, 1) := by decide +kernel
theorem dX10_says_19 : decode cX10_says 19 = .ok (.iload_n 1, 1) := by decide +kernel
theorem dX10_says_20 : decode cX10_says 20 = .ok (.iload_n 2, 1) := by decide +kernel
theorem dX10_says_21 : decode cX10_says 21 = .ok (.ifCond .eq 7, 3) := by decide +kernel
theorem dX10_says_24 : decode cX10_says 24 = .ok (.iconst 1, 1) := by decide +kernel
theorem dX10_says_25 : decode cX10_says 25 = .ok (.goto 4, 3) := by decide +kernel
theorem dX10_says_28 : decode cX10_says 28 = .ok (.iconst 0, 1) := by decide +kernel
theorem dX10_says_29 : decode cX10_says 29 = .ok (.invokevirtual 365, 3) := by decide +kernel
theorem dX10_says_32 : decode cX10_says 32 = .ok (.istore_n 3, 1) := by decide +kernel
theorem dX10_says_33 : decode cX10_says 33 = .ok (.iload_n 3, 1) := by decide +kernel
theorem dX10_says_34 : decode cX10_says 34 = .ok (.ifCond .ge 12, 3) := by decide +kernel
theorem dX10_says_37 : decode cX10_says 37 = .ok (.aload_n 0, 1) := by decide +kernel
theorem dX10_says_38 : decode cX10_says 38 = .ok (.bipush 6, 2) := by decide +kernel
theorem dX10_says_40 : decode cX10_says 40 = .ok (.invokevirtual 159, 3) := by decide +kernel
theorem dX10_says_43 : decode cX10_says 43 = .ok (.goto 4, 3) := by decide +kernel
theorem dX10_says_46 : decode cX10_says 46 = .ok (.iload_n 3, 1) := by decide +kernel
theorem dX10_says_47 : decode cX10_says 47 = .ok (.ireturn, 1) := by decide +kernel
def f_X10_says (x1 : Int32) (x2 : Int32) (M : Mm) : Option (Int32 × Mm) :=
  bv (f_X10_good  M) fun M1_1 => bd (f_X10_isFilmed x1 M1_1) fun v6_4 M6_3 => if v6_4 = 0 then (bd (f_X10_no (1 : Int32) M6_3) fun v14_15 M14_14 => some (v14_15, M14_14)) else (jn (fun (s5 : Int32) (M6 : Mm) => bd (f_X10_lawOf x1 s5 M6) fun v29_9 M29_8 => if 0 ≤ v29_9 then (some (v29_9, M29_8)) else (bd (f_X10_no (6 : Int32) M29_8) fun v40_11 M40_10 => some (v40_11, M40_10))) fun j7 => if x2 = 0 then (j7 (0 : Int32) M6_3) else (j7 (1 : Int32) M6_3))
set_option maxHeartbeats 4000000 in
set_option maxRecDepth 100000 in
theorem s_X10_says {l : Launch} {B : BT} (hA : bA B = false) {d : Nat} {r : Int32} {M' : Mm} {x1 : Int32} {x2 : Int32} {M : Mm}  (h : f_X10_says x1 x2 M = some (r, M')) : Con l B LY (d + 2) yX10_says cX10_says 4 (some .int) 0 0 [.ref 81, .int x1, .int x2] 97 M (PI r M') := by
  refine con_of (by decide) (Nat.le_of_ble_eq_true rfl) ?_
  show GG l B LY (d + 2) yX10_says cX10_says 4 (some .int) 0 0 (PI r M') 97 0 0 0 [(0, .ref 81), (1, .int x1), (2, .int x2)] [] M
  rw [f_X10_says] at h
  refine g_aload_n dX10_says_0 rfl 0 rfl ?_
  obtain ⟨M1_1, eM1_1, h⟩ := bv_e h
  refine m_callVv (As := []) (st := []) (s_X10_good (d := d + 1) hA  eM1_1) rfl okX10 ck_X10_good w_1381 rfl (Nat.le_of_ble_eq_true rfl) dX10_says_1 ?_
  refine g_aload_n dX10_says_4 rfl 0 rfl ?_
  refine g_iload_n dX10_says_5 rfl 1 rfl ?_
  obtain ⟨v6_4, M6_3, eM6_3, h⟩ := bd_e h
  refine m_callVi (As := [.int x1]) (st := []) (s_X10_isFilmed (d := d + 0) hA  eM6_3) rfl okX10 ck_X10_isFilmed w_1744 rfl (Nat.le_of_ble_eq_true rfl) dX10_says_6 ?_
  refine g_if_ne (tgt := 18) dX10_says_9 (by decide) (fun c16 => ?_) (fun c16 => ?_)
  · replace h := ite_n c16 h
    refine g_aload_n dX10_says_18 rfl 0 rfl ?_
    refine g_iload_n dX10_says_19 rfl 1 rfl ?_
    refine g_iload_n dX10_says_20 rfl 2 rfl ?_
    obtain ⟨j7, ej7, h⟩ := jn_e h
    have hj7 : ∀ (s5 : Int32) (M6 : Mm), j7 s5 M6 = some (r, M') → GG l B LY (d + 2) yX10_says cX10_says 4 (some .int) 0 0 (PI r M') 97 0 0 29 [(0, .ref 81)] [.int s5, .int x1, .ref 81] M6 := by
      intro s5 M6 h
      rw [ej7] at h
      obtain ⟨v29_9, M29_8, eM29_8, h⟩ := bd_e h
      refine m_callVi (As := [.int x1, .int s5]) (st := []) (s_X10_lawOf (d := d + 1) hA  eM29_8) rfl okX10 ck_X10_lawOf w_1752 rfl (Nat.le_of_ble_eq_true rfl) dX10_says_29 ?_
      refine g_istore_n (lv' := [(3, .int v29_9), (0, .ref 81)]) dX10_says_32 rfl (by decide) rfl ?_
      refine g_iload_n dX10_says_33 rfl 0 rfl ?_
      refine g_if_ge (tgt := 46) dX10_says_34 (by decide) (fun c12 => ?_) (fun c12 => ?_)
      · replace h := ite_p c12 h
        refine g_iload_n dX10_says_46 rfl 0 rfl ?_
        exact g_zret rfl rfl (pi_of h) dX10_says_47
      · replace h := ite_n c12 h
        refine g_aload_n dX10_says_37 rfl 1 rfl ?_
        refine g_bipush (v := 6) dX10_says_38 (by decide) ?_
        obtain ⟨v40_11, M40_10, eM40_10, h⟩ := bd_e h
        refine m_callVi (As := [.int (6 : Int32)]) (st := []) (s_X10_no (d := d + 1) hA  eM40_10) rfl okX10 ck_X10_no w_1388 rfl (Nat.le_of_ble_eq_true rfl) dX10_says_40 ?_
        refine g_goto (tgt := 47) dX10_says_43 (by decide) ?_
        exact g_zret rfl rfl (pi_of h) dX10_says_47
    refine g_if_eq (tgt := 28) dX10_says_21 (by decide) (fun c13 => ?_) (fun c13 => ?_)
    · replace h := ite_p c13 h
      refine g_iconst (v := 0) dX10_says_28 (by decide) ?_
      refine g_sub [0] (lv' := [(0, .ref 81)]) rfl ?_
      exact hj7 _ _ h
    · replace h := ite_n c13 h
      refine g_iconst (v := 1) dX10_says_24 (by decide) ?_
      refine g_goto (tgt := 29) dX10_says_25 (by decide) ?_
      refine g_sub [0] (lv' := [(0, .ref 81)]) rfl ?_
      exact hj7 _ _ h
  · replace h := ite_p c16 h
    refine g_aload_n dX10_says_12 rfl 0 rfl ?_
    refine g_iconst (v := 1) dX10_says_13 (by decide) ?_
    obtain ⟨v14_15, M14_14, eM14_14, h⟩ := bd_e h
    refine m_callVi (As := [.int (1 : Int32)]) (st := []) (s_X10_no (d := d + 1) hA  eM14_14) rfl okX10 ck_X10_no w_1388 rfl (Nat.le_of_ble_eq_true rfl) dX10_says_14 ?_
    exact g_zret rfl rfl (pi_of h) dX10_says_17
theorem ck_X10_says : CKV yX10_says cX10_says 4 (some .int) 2 := ⟨⟨by decide, by decide, by decide +kernel⟩, w_1759, w_81, ⟨w_1757, w_1758⟩, by decide⟩
theorem dX10_off_0 : decode cX10_off 0 = .ok (.aload_n 0, 1) := by decide +kernel
theorem dX10_off_1 : decode cX10_off 1 = .ok (.invokevirtual 156, 3) := by decide +kernel
theorem dX10_off_4 : decode cX10_off 4 = .ok (.aload_n 0, 1) := by decide +kernel
theorem dX10_off_5 : decode cX10_off 5 = .ok (.getfield 165, 3) := by decide +kernel
theorem dX10_off_8 : decode cX10_off 8 = .ok (.ifCond .ne 9, 3) := by decide +kernel
theorem dX10_off_11 : decode cX10_off 11 = .ok (.aload_n 0, 1) := by decide +kernel
theorem dX10_off_12 : decode cX10_off 12 = .ok (.iconst 1, 1) := by decide +kernel
theorem dX10_off_13 : decode cX10_off 13 = .ok (.invokevirtual 159, 3) := by decide +kernel
theorem dX10_off_16 : decode cX10_off 16 = .ok (.ireturn, 1) := by decide +kernel
theorem dX10_off_17 : decode cX10_off 17 = .ok (.iconst 0, 1) := by decide +kernel
theorem dX10_off_18 : decode cX10_off 18 = .ok (.istore_n 1, 1) := by decide +kernel
theorem dX10_off_19 : decode cX10_off 19 = .ok (.iconst 0, 1) := by decide +kernel
theorem dX10_off_20 : decode cX10_off 20 = .ok (.istore_n 2, 1) := by decide +kernel
theorem dX10_off_21 : decode cX10_off 21 = .ok (.iload_n 2, 1) := by decide +kernel
theorem dX10_off_22 : decode cX10_off 22 = .ok (.aload_n 0, 1) := by decide +kernel
theorem dX10_off_23 : decode cX10_off 23 = .ok (.getfield 20, 3) := by decide +kernel
theorem dX10_off_26 : decode cX10_off 26 = .ok (.bipush 92, 2) := by decide +kernel
theorem dX10_off_28 : decode cX10_off 28 = .ok (.iaload, 1) := by decide +kernel
theorem dX10_off_29 : decode cX10_off 29 = .ok (.iconst 1, 1) := by decide +kernel
theorem dX10_off_30 : decode cX10_off 30 = .ok (.isub, 1) := by decide +kernel
theorem dX10_off_31 : decode cX10_off 31 = .ok (.if_icmp .ge 53, 3) := by decide +kernel
theorem dX10_off_34 : decode cX10_off 34 = .ok (.aload_n 0, 1) := by decide +kernel
theorem dX10_off_35 : decode cX10_off 35 = .ok (.iload_n 2, 1) := by decide +kernel
theorem dX10_off_36 : decode cX10_off 36 = .ok (.iconst (-1), 1) := by decide +kernel
theorem dX10_off_37 : decode cX10_off 37 = .ok (.invokevirtual 365, 3) := by decide +kernel
theorem dX10_off_40 : decode cX10_off 40 = .ok (.istore_n 3, 1) := by decide +kernel
theorem dX10_off_41 : decode cX10_off 41 = .ok (.iload_n 3, 1) := by decide +kernel
theorem dX10_off_42 : decode cX10_off 42 = .ok (.aload_n 0, 1) := by decide +kernel
theorem dX10_off_43 : decode cX10_off 43 = .ok (.getfield 20, 3) := by decide +kernel
theorem dX10_off_46 : decode cX10_off 46 = .ok (.bipush 6, 2) := by decide +kernel
theorem dX10_off_48 : decode cX10_off 48 = .ok (.iload_n 2, 1) := by decide +kernel
theorem dX10_off_49 : decode cX10_off 49 = .ok (.iadd, 1) := by decide +kernel
theorem dX10_off_50 : decode cX10_off 50 = .ok (.iaload, 1) := by decide +kernel
theorem dX10_off_51 : decode cX10_off 51 = .ok (.isub, 1) := by decide +kernel
theorem dX10_off_52 : decode cX10_off 52 = .ok (.istore 4, 2) := by decide +kernel
theorem dX10_off_54 : decode cX10_off 54 = .ok (.iload_n 1, 1) := by decide +kernel
theorem dX10_off_55 : decode cX10_off 55 = .ok (.iload_n 3, 1) := by decide +kernel
theorem dX10_off_56 : decode cX10_off 56 = .ok (.ifCond .ge 7, 3) := by decide +kernel
theorem dX10_off_59 : decode cX10_off 59 = .ok (.iconst 0, 1) := by decide +kernel
theorem dX10_off_60 : decode cX10_off 60 = .ok (.goto 16, 3) := by decide +kernel
theorem dX10_off_63 : decode cX10_off 63 = .ok (.iload 4, 2) := by decide +kernel
theorem dX10_off_65 : decode cX10_off 65 = .ok (.ifCond .ge 9, 3) := by decide +kernel
theorem dX10_off_68 : decode cX10_off 68 = .ok (.iload 4, 2) := by decide +kernel
theorem dX10_off_70 : decode cX10_off 70 = .ok (.ineg, 1) := by decide +kernel
theorem dX10_off_71 : decode cX10_off 71 = .ok (.goto 5, 3) := by decide +kernel
theorem dX10_off_74 : decode cX10_off 74 = .ok (.iload 4, 2) := by decide +kernel
theorem dX10_off_76 : decode cX10_off 76 = .ok (.iadd, 1) := by decide +kernel
theorem dX10_off_77 : decode cX10_off 77 = .ok (.istore_n 1, 1) := by decide +kernel
theorem dX10_off_78 : decode cX10_off 78 = .ok (.iinc 2 1, 3) := by decide +kernel
theorem dX10_off_81 : decode cX10_off 81 = .ok (.goto (-60), 3) := by decide +kernel
theorem dX10_off_84 : decode cX10_off 84 = .ok (.iload_n 1, 1) := by decide +kernel
theorem dX10_off_85 : decode cX10_off 85 = .ok (.ireturn, 1) := by decide +kernel
def lp_X10_off_21   : Nat → Int32 → Int32 → Mm → Option (Int32 × Mm)
  | 0, _, _, _ => none
  | n + 1, y1, y2, M =>
    gd (inb (92 : Int32) 141) <| if ((M 84 (92 : Int32).toNatClampNeg) - (1 : Int32)) ≤ y2 then (some (y1, M)) else (bd (f_X10_lawOf y2 (-1 : Int32) M) fun v37_4 M37_3 => gd (inb ((6 : Int32) + y2) 141) <| lt ((v37_4 - (M37_3 84 ((6 : Int32) + y2).toNatClampNeg))) fun t5 => jn (fun (s6 : Int32) (M7 : Mm) => lp_X10_off_21 n (y1 + s6) (y2 + (1 : Int32)) M7) fun j8 => if 0 ≤ v37_4 then (if 0 ≤ t5 then (j8 t5 M37_3) else (j8 (-t5) M37_3)) else (j8 (0 : Int32) M37_3))
def f_X10_off  (M : Mm) : Option (Int32 × Mm) :=
  bv (f_X10_good  M) fun M1_1 => if (M1_1 81 14) = 0 then (bd (f_X10_no (1 : Int32) M1_1) fun v13_13 M13_12 => some (v13_13, M13_12)) else (lp_X10_off_21   N0 (0 : Int32) (0 : Int32) M1_1)
set_option maxHeartbeats 4000000 in
set_option maxRecDepth 100000 in
theorem sl_X10_off_21 {l : Launch} {B : BT} (hA : bA B = false) {d : Nat} {r : Int32} {M' : Mm}     :
    ∀ (n : Nat) (y1 : Int32) (y2 : Int32) (M : Mm), lp_X10_off_21 n y1 y2 M = some (r, M') → GG l B LY (d + 1) yX10_off cX10_off 5 (some .int) 0 0 (PI r M') 97 0 0 21 [(0, .ref 81), (1, .int y1), (2, .int y2)] [] M := by
  intro n
  induction n with
  | zero => intro y1 y2 M h; cases h
  | succ n ih =>
    intro y1 y2 M h
    rw [lp_X10_off_21] at h
    refine g_iload_n dX10_off_21 rfl 2 rfl ?_
    refine g_aload_n dX10_off_22 rfl 0 rfl ?_
    refine m_getr (k := 15) okX10 rfl rfl (by decide) w_1284 rfl dX10_off_23 ?_
    refine g_bipush (v := 92) dX10_off_26 (by decide) ?_
    obtain ⟨hz, h⟩ := gd_s h
    refine m_iald rfl hz dX10_off_28 ?_
    refine g_iconst (v := 1) dX10_off_29 (by decide) ?_
    refine g_isub dX10_off_30 ?_
    refine g_icmp_ge (tgt := 84) dX10_off_31 (by decide) (fun c11 => ?_) (fun c11 => ?_)
    · replace h := ite_p c11 h
      refine g_iload_n dX10_off_84 rfl 1 rfl ?_
      exact g_zret rfl rfl (pi_of h) dX10_off_85
    · replace h := ite_n c11 h
      refine g_aload_n dX10_off_34 rfl 0 rfl ?_
      refine g_iload_n dX10_off_35 rfl 2 rfl ?_
      refine g_iconst (v := (-1)) dX10_off_36 (by decide) ?_
      obtain ⟨v37_4, M37_3, eM37_3, h⟩ := bd_e h
      refine m_callVi (As := [.int y2, .int (-1 : Int32)]) (st := []) (s_X10_lawOf (d := d + 0) hA  eM37_3) rfl okX10 ck_X10_lawOf w_1752 rfl (Nat.le_of_ble_eq_true rfl) dX10_off_37 ?_
      refine g_istore_n (lv' := [(3, .int v37_4), (0, .ref 81), (1, .int y1), (2, .int y2)]) dX10_off_40 rfl (by decide) rfl ?_
      refine g_iload_n dX10_off_41 rfl 0 rfl ?_
      refine g_aload_n dX10_off_42 rfl 1 rfl ?_
      refine m_getr (k := 15) okX10 rfl rfl (by decide) w_1284 rfl dX10_off_43 ?_
      refine g_bipush (v := 6) dX10_off_46 (by decide) ?_
      refine g_iload_n dX10_off_48 rfl 3 rfl ?_
      refine g_iadd dX10_off_49 ?_
      obtain ⟨hz, h⟩ := gd_s h
      refine m_iald rfl hz dX10_off_50 ?_
      refine g_isub dX10_off_51 ?_
      obtain ⟨t5, et5, h⟩ := lt_e h
      refine g_cuti et5 ?_
      refine g_istore (lv' := [(4, .int t5), (3, .int v37_4), (0, .ref 81), (1, .int y1), (2, .int y2)]) dX10_off_52 (by decide) rfl ?_
      refine g_iload_n dX10_off_54 rfl 3 rfl ?_
      refine g_iload_n dX10_off_55 rfl 1 rfl ?_
      obtain ⟨j8, ej8, h⟩ := jn_e h
      have hj8 : ∀ (s6 : Int32) (M7 : Mm), j8 s6 M7 = some (r, M') → GG l B LY (d + 1) yX10_off cX10_off 5 (some .int) 0 0 (PI r M') 97 0 0 76 [(0, .ref 81), (2, .int y2)] [.int s6, .int y1] M7 := by
        intro s6 M7 h
        rw [ej8] at h
        refine g_iadd dX10_off_76 ?_
        refine g_istore_n (lv' := [(1, .int (y1 + s6)), (0, .ref 81), (2, .int y2)]) dX10_off_77 rfl (by decide) rfl ?_
        refine g_iinc (v := (y2 + (1 : Int32))) (lv' := [(2, .int (y2 + (1 : Int32))), (1, .int (y1 + s6)), (0, .ref 81)]) dX10_off_78 2 rfl rfl (by decide) rfl ?_
        refine g_goto (tgt := 21) dX10_off_81 (by decide) ?_
        refine g_sub [2, 1, 0] (lv' := [(0, .ref 81), (1, .int (y1 + s6)), (2, .int (y2 + (1 : Int32)))]) rfl ?_
        exact ih _ _  _ h
      refine g_if_ge (tgt := 63) dX10_off_56 (by decide) (fun c10 => ?_) (fun c10 => ?_)
      · replace h := ite_p c10 h
        refine g_iload dX10_off_63 0 rfl ?_
        refine g_if_ge (tgt := 74) dX10_off_65 (by decide) (fun c9 => ?_) (fun c9 => ?_)
        · replace h := ite_p c9 h
          refine g_iload dX10_off_74 0 rfl ?_
          refine g_sub [2, 4] (lv' := [(0, .ref 81), (2, .int y2)]) rfl ?_
          exact hj8 _ _ h
        · replace h := ite_n c9 h
          refine g_iload dX10_off_68 0 rfl ?_
          refine g_ineg dX10_off_70 ?_
          refine g_goto (tgt := 76) dX10_off_71 (by decide) ?_
          refine g_sub [2, 4] (lv' := [(0, .ref 81), (2, .int y2)]) rfl ?_
          exact hj8 _ _ h
      · replace h := ite_n c10 h
        refine g_iconst (v := 0) dX10_off_59 (by decide) ?_
        refine g_goto (tgt := 76) dX10_off_60 (by decide) ?_
        refine g_sub [2, 4] (lv' := [(0, .ref 81), (2, .int y2)]) rfl ?_
        exact hj8 _ _ h
set_option maxHeartbeats 4000000 in
set_option maxRecDepth 100000 in
theorem s_X10_off {l : Launch} {B : BT} (hA : bA B = false) {d : Nat} {r : Int32} {M' : Mm}  {M : Mm}  (h : f_X10_off  M = some (r, M')) : Con l B LY (d + 1) yX10_off cX10_off 5 (some .int) 0 0 [.ref 81] 97 M (PI r M') := by
  refine con_of (by decide) (Nat.le_of_ble_eq_true rfl) ?_
  show GG l B LY (d + 1) yX10_off cX10_off 5 (some .int) 0 0 (PI r M') 97 0 0 0 [(0, .ref 81)] [] M
  rw [f_X10_off] at h
  refine g_aload_n dX10_off_0 rfl 0 rfl ?_
  obtain ⟨M1_1, eM1_1, h⟩ := bv_e h
  refine m_callVv (As := []) (st := []) (s_X10_good (d := d + 0) hA  eM1_1) rfl okX10 ck_X10_good w_1381 rfl (Nat.le_of_ble_eq_true rfl) dX10_off_1 ?_
  refine g_aload_n dX10_off_4 rfl 0 rfl ?_
  refine m_geti (k := 14) okX10 rfl rfl (by decide) w_1283 rfl dX10_off_5 ?_
  refine g_if_ne (tgt := 17) dX10_off_8 (by decide) (fun c14 => ?_) (fun c14 => ?_)
  · replace h := ite_n c14 h
    refine g_iconst (v := 0) dX10_off_17 (by decide) ?_
    refine g_istore_n (lv' := [(1, .int (0 : Int32)), (0, .ref 81)]) dX10_off_18 rfl (by decide) rfl ?_
    refine g_iconst (v := 0) dX10_off_19 (by decide) ?_
    refine g_istore_n (lv' := [(2, .int (0 : Int32)), (1, .int (0 : Int32)), (0, .ref 81)]) dX10_off_20 rfl (by decide) rfl ?_
    refine g_sub [2, 1, 0] (lv' := [(0, .ref 81), (1, .int (0 : Int32)), (2, .int (0 : Int32))]) rfl ?_
    refine sl_X10_off_21 hA   _ _ _ _ h
  · replace h := ite_p c14 h
    refine g_aload_n dX10_off_11 rfl 0 rfl ?_
    refine g_iconst (v := 1) dX10_off_12 (by decide) ?_
    obtain ⟨v13_13, M13_12, eM13_12, h⟩ := bd_e h
    refine m_callVi (As := [.int (1 : Int32)]) (st := []) (s_X10_no (d := d + 0) hA  eM13_12) rfl okX10 ck_X10_no w_1388 rfl (Nat.le_of_ble_eq_true rfl) dX10_off_13 ?_
    exact g_zret rfl rfl (pi_of h) dX10_off_16
theorem ck_X10_off : CKV yX10_off cX10_off 5 (some .int) 0 := ⟨⟨by decide, by decide, by decide +kernel⟩, w_1763, w_81, ⟨w_1761, w_1762⟩, by decide⟩
theorem dX10_stop_0 : decode cX10_stop 0 = .ok (.aload_n 0, 1) := by decide +kernel
theorem dX10_stop_1 : decode cX10_stop 1 = .ok (.invokevirtual 156, 3) := by decide +kernel
theorem dX10_stop_4 : decode cX10_stop 4 = .ok (.aload_n 0, 1) := by decide +kernel
theorem dX10_stop_5 : decode cX10_stop 5 = .ok (.iload_n 1, 1) := by decide +kernel
theorem dX10_stop_6 : decode cX10_stop 6 = .ok (.invokevirtual 278, 3) := by decide +kernel
theorem dX10_stop_9 : decode cX10_stop 9 = .ok (.ifCond .ne 9, 3) := by decide +kernel
theorem dX10_stop_12 : decode cX10_stop 12 = .ok (.aload_n 0, 1) := by decide +kernel
theorem dX10_stop_13 : decode cX10_stop 13 = .ok (.iconst 1, 1) := by decide +kernel
theorem dX10_stop_14 : decode cX10_stop 14 = .ok (.invokevirtual 159, 3) := by decide +kernel
theorem dX10_stop_17 : decode cX10_stop 17 = .ok (.ireturn, 1) := by decide +kernel
theorem dX10_stop_18 : decode cX10_stop 18 = .ok (.aload_n 0, 1) := by decide +kernel
theorem dX10_stop_19 : decode cX10_stop 19 = .ok (.getfield 44, 3) := by decide +kernel
theorem dX10_stop_22 : decode cX10_stop 22 = .ok (.iload_n 1, 1) := by decide +kernel
theorem dX10_stop_23 : decode cX10_stop 23 = .ok (.iaload, 1) := by decide +kernel
theorem dX10_stop_24 : decode cX10_stop 24 = .ok (.bipush 9, 2) := by decide +kernel
theorem dX10_stop_26 : decode cX10_stop 26 = .ok (.if_icmp .ne 9, 3) := by decide +kernel
theorem dX10_stop_29 : decode cX10_stop 29 = .ok (.aload_n 0, 1) := by decide +kernel
theorem dX10_stop_30 : decode cX10_stop 30 = .ok (.iconst 3, 1) := by decide +kernel
theorem dX10_stop_31 : decode cX10_stop 31 = .ok (.invokevirtual 159, 3) := by decide +kernel
theorem dX10_stop_34 : decode cX10_stop 34 = .ok (.ireturn, 1) := by decide +kernel
theorem dX10_stop_35 : decode cX10_stop 35 = .ok (.aload_n 0, 1) := by decide +kernel
theorem dX10_stop_36 : decode cX10_stop 36 = .ok (.getfield 44, 3) := by decide +kernel
theorem dX10_stop_39 : decode cX10_stop 39 = .ok (.iload_n 1, 1) := by decide +kernel
theorem dX10_stop_40 : decode cX10_stop 40 = .ok (.dup2, 1) := by decide +kernel
theorem dX10_stop_41 : decode cX10_stop 41 = .ok (.iaload, 1) := by decide +kernel
theorem dX10_stop_42 : decode cX10_stop 42 = .ok (.iconst 1, 1) := by decide +kernel
theorem dX10_stop_43 : decode cX10_stop 43 = .ok (.iadd, 1) := by decide +kernel
theorem dX10_stop_44 : decode cX10_stop 44 = .ok (.iastore, 1) := by decide +kernel
theorem dX10_stop_45 : decode cX10_stop 45 = .ok (.aload_n 0, 1) := by decide +kernel
theorem dX10_stop_46 : decode cX10_stop 46 = .ok (.getfield 47, 3) := by decide +kernel
theorem dX10_stop_49 : decode cX10_stop 49 = .ok (.iload_n 1, 1) := by decide +kernel
theorem dX10_stop_50 : decode cX10_stop 50 = .ok (.dup2, 1) := by decide +kernel
theorem dX10_stop_51 : decode cX10_stop 51 = .ok (.iaload, 1) := by decide +kernel
theorem dX10_stop_52 : decode cX10_stop 52 = .ok (.iload_n 2, 1) := by decide +kernel
theorem dX10_stop_53 : decode cX10_stop 53 = .ok (.ifCond .eq 7, 3) := by decide +kernel
theorem dX10_stop_56 : decode cX10_stop 56 = .ok (.iconst 1, 1) := by decide +kernel
theorem dX10_stop_57 : decode cX10_stop 57 = .ok (.goto 4, 3) := by decide +kernel
theorem dX10_stop_60 : decode cX10_stop 60 = .ok (.iconst 0, 1) := by decide +kernel
theorem dX10_stop_61 : decode cX10_stop 61 = .ok (.iadd, 1) := by decide +kernel
theorem dX10_stop_62 : decode cX10_stop 62 = .ok (.iastore, 1) := by decide +kernel
theorem dX10_stop_63 : decode cX10_stop 63 = .ok (.aload_n 0, 1) := by decide +kernel
theorem dX10_stop_64 : decode cX10_stop 64 = .ok (.getfield 44, 3) := by decide +kernel
theorem dX10_stop_67 : decode cX10_stop 67 = .ok (.iload_n 1, 1) := by decide +kernel
theorem dX10_stop_68 : decode cX10_stop 68 = .ok (.iaload, 1) := by decide +kernel
theorem dX10_stop_69 : decode cX10_stop 69 = .ok (.ireturn, 1) := by decide +kernel
def f_X10_stop (x1 : Int32) (x2 : Int32) (M : Mm) : Option (Int32 × Mm) :=
  bv (f_X10_good  M) fun M1_1 => bd (f_X10_isCreeper x1 M1_1) fun v6_4 M6_3 => if v6_4 = 0 then (bd (f_X10_no (1 : Int32) M6_3) fun v14_13 M14_12 => some (v14_13, M14_12)) else (gd (inb x1 5) <| if (M6_3 91 x1.toNatClampNeg) = (9 : Int32) then (bd (f_X10_no (3 : Int32) M6_3) fun v31_10 M31_9 => some (v31_10, M31_9)) else (gd (inb x1 5) <| gd (inb x1 5) <| gd (inb x1 5) <| jn (fun (s5 : Int32) (M6 : Mm) => gd (inb x1 5) <| gd (inb x1 5) <| some (((mset M6 92 x1.toNatClampNeg (((mset M6_3 91 x1.toNatClampNeg ((M6_3 91 x1.toNatClampNeg) + (1 : Int32))) 92 x1.toNatClampNeg) + s5)) 91 x1.toNatClampNeg), (mset M6 92 x1.toNatClampNeg (((mset M6_3 91 x1.toNatClampNeg ((M6_3 91 x1.toNatClampNeg) + (1 : Int32))) 92 x1.toNatClampNeg) + s5)))) fun j7 => if x2 = 0 then (j7 (0 : Int32) (mset M6_3 91 x1.toNatClampNeg ((M6_3 91 x1.toNatClampNeg) + (1 : Int32)))) else (j7 (1 : Int32) (mset M6_3 91 x1.toNatClampNeg ((M6_3 91 x1.toNatClampNeg) + (1 : Int32))))))
set_option maxHeartbeats 4000000 in
set_option maxRecDepth 100000 in
theorem s_X10_stop {l : Launch} {B : BT} (hA : bA B = false) {d : Nat} {r : Int32} {M' : Mm} {x1 : Int32} {x2 : Int32} {M : Mm}  (h : f_X10_stop x1 x2 M = some (r, M')) : Con l B LY (d + 2) yX10_stop cX10_stop 3 (some .int) 0 0 [.ref 81, .int x1, .int x2] 97 M (PI r M') := by
  refine con_of (by decide) (Nat.le_of_ble_eq_true rfl) ?_
  show GG l B LY (d + 2) yX10_stop cX10_stop 3 (some .int) 0 0 (PI r M') 97 0 0 0 [(0, .ref 81), (1, .int x1), (2, .int x2)] [] M
  rw [f_X10_stop] at h
  refine g_aload_n dX10_stop_0 rfl 0 rfl ?_
  obtain ⟨M1_1, eM1_1, h⟩ := bv_e h
  refine m_callVv (As := []) (st := []) (s_X10_good (d := d + 1) hA  eM1_1) rfl okX10 ck_X10_good w_1381 rfl (Nat.le_of_ble_eq_true rfl) dX10_stop_1 ?_
  refine g_aload_n dX10_stop_4 rfl 0 rfl ?_
  refine g_iload_n dX10_stop_5 rfl 1 rfl ?_
  obtain ⟨v6_4, M6_3, eM6_3, h⟩ := bd_e h
  refine m_callVi (As := [.int x1]) (st := []) (s_X10_isCreeper (d := d + 0) hA  eM6_3) rfl okX10 ck_X10_isCreeper w_1572 rfl (Nat.le_of_ble_eq_true rfl) dX10_stop_6 ?_
  refine g_if_ne (tgt := 18) dX10_stop_9 (by decide) (fun c14 => ?_) (fun c14 => ?_)
  · replace h := ite_n c14 h
    refine g_aload_n dX10_stop_18 rfl 0 rfl ?_
    refine m_getr (k := 24) okX10 rfl rfl (by decide) w_1293 rfl dX10_stop_19 ?_
    refine g_iload_n dX10_stop_22 rfl 1 rfl ?_
    obtain ⟨hz, h⟩ := gd_s h
    refine m_iald rfl hz dX10_stop_23 ?_
    refine g_bipush (v := 9) dX10_stop_24 (by decide) ?_
    refine g_icmp_ne (tgt := 35) dX10_stop_26 (by decide) (fun c11 => ?_) (fun c11 => ?_)
    · replace h := ite_n c11 h
      refine g_aload_n dX10_stop_35 rfl 0 rfl ?_
      refine m_getr (k := 24) okX10 rfl rfl (by decide) w_1293 rfl dX10_stop_36 ?_
      refine g_iload_n dX10_stop_39 rfl 1 rfl ?_
      refine g_dup2 dX10_stop_40 rfl rfl ?_
      obtain ⟨hz, h⟩ := gd_s h
      refine m_iald rfl hz dX10_stop_41 ?_
      refine g_iconst (v := 1) dX10_stop_42 (by decide) ?_
      refine g_iadd dX10_stop_43 ?_
      obtain ⟨hz, h⟩ := gd_s h
      refine m_iast hA rfl hz dX10_stop_44 ?_
      refine g_aload_n dX10_stop_45 rfl 0 rfl ?_
      refine m_getr (k := 25) okX10 rfl rfl (by decide) w_1294 rfl dX10_stop_46 ?_
      refine g_iload_n dX10_stop_49 rfl 1 rfl ?_
      refine g_dup2 dX10_stop_50 rfl rfl ?_
      obtain ⟨hz, h⟩ := gd_s h
      refine m_iald rfl hz dX10_stop_51 ?_
      refine g_iload_n dX10_stop_52 rfl 2 rfl ?_
      obtain ⟨j7, ej7, h⟩ := jn_e h
      have hj7 : ∀ (s5 : Int32) (M6 : Mm), j7 s5 M6 = some (r, M') → GG l B LY (d + 2) yX10_stop cX10_stop 3 (some .int) 0 0 (PI r M') 97 0 0 61 [(0, .ref 81), (1, .int x1)] [.int s5, .int ((mset M6_3 91 x1.toNatClampNeg ((M6_3 91 x1.toNatClampNeg) + (1 : Int32))) 92 x1.toNatClampNeg), .int x1, .ref 92] M6 := by
        intro s5 M6 h
        rw [ej7] at h
        refine g_iadd dX10_stop_61 ?_
        obtain ⟨hz, h⟩ := gd_s h
        refine m_iast hA rfl hz dX10_stop_62 ?_
        refine g_aload_n dX10_stop_63 rfl 0 rfl ?_
        refine m_getr (k := 24) okX10 rfl rfl (by decide) w_1293 rfl dX10_stop_64 ?_
        refine g_iload_n dX10_stop_67 rfl 1 rfl ?_
        obtain ⟨hz, h⟩ := gd_s h
        refine m_iald rfl hz dX10_stop_68 ?_
        exact g_zret rfl rfl (pi_of h) dX10_stop_69
      refine g_if_eq (tgt := 60) dX10_stop_53 (by decide) (fun c8 => ?_) (fun c8 => ?_)
      · replace h := ite_p c8 h
        refine g_iconst (v := 0) dX10_stop_60 (by decide) ?_
        refine g_sub [0, 1] (lv' := [(0, .ref 81), (1, .int x1)]) rfl ?_
        exact hj7 _ _ h
      · replace h := ite_n c8 h
        refine g_iconst (v := 1) dX10_stop_56 (by decide) ?_
        refine g_goto (tgt := 61) dX10_stop_57 (by decide) ?_
        refine g_sub [0, 1] (lv' := [(0, .ref 81), (1, .int x1)]) rfl ?_
        exact hj7 _ _ h
    · replace h := ite_p c11 h
      refine g_aload_n dX10_stop_29 rfl 0 rfl ?_
      refine g_iconst (v := 3) dX10_stop_30 (by decide) ?_
      obtain ⟨v31_10, M31_9, eM31_9, h⟩ := bd_e h
      refine m_callVi (As := [.int (3 : Int32)]) (st := []) (s_X10_no (d := d + 1) hA  eM31_9) rfl okX10 ck_X10_no w_1388 rfl (Nat.le_of_ble_eq_true rfl) dX10_stop_31 ?_
      exact g_zret rfl rfl (pi_of h) dX10_stop_34
  · replace h := ite_p c14 h
    refine g_aload_n dX10_stop_12 rfl 0 rfl ?_
    refine g_iconst (v := 1) dX10_stop_13 (by decide) ?_
    obtain ⟨v14_13, M14_12, eM14_12, h⟩ := bd_e h
    refine m_callVi (As := [.int (1 : Int32)]) (st := []) (s_X10_no (d := d + 1) hA  eM14_12) rfl okX10 ck_X10_no w_1388 rfl (Nat.le_of_ble_eq_true rfl) dX10_stop_14 ?_
    exact g_zret rfl rfl (pi_of h) dX10_stop_17
theorem ck_X10_stop : CKV yX10_stop cX10_stop 3 (some .int) 2 := ⟨⟨by decide, by decide, by decide +kernel⟩, w_1767, w_81, ⟨w_1765, w_1766⟩, by decide⟩
theorem dX10_wobbleWays_0 : decode cX10_wobbleWays 0 = .ok (.lconst 0, 1) := by decide +kernel
theorem dX10_wobbleWays_1 : decode cX10_wobbleWays 1 = .ok (.lstore 4, 2) := by decide +kernel
theorem dX10_wobbleWays_3 : decode cX10_wobbleWays 3 = .ok (.lconst 1, 1) := by decide +kernel
theorem dX10_wobbleWays_4 : decode cX10_wobbleWays 4 = .ok (.lstore 6, 2) := by decide +kernel
theorem dX10_wobbleWays_6 : decode cX10_wobbleWays 6 = .ok (.iconst 0, 1) := by decide +kernel
theorem dX10_wobbleWays_7 : decode cX10_wobbleWays 7 = .ok (.istore 8, 2) := by decide +kernel
theorem dX10_wobbleWays_9 : decode cX10_wobbleWays 9 = .ok (.iload 8, 2) := by decide +kernel
theorem dX10_wobbleWays_11 : decode cX10_wobbleWays 11 = .ok (.iload_n 3, 1) := by decide +kernel
theorem dX10_wobbleWays_12 : decode cX10_wobbleWays 12 = .ok (.if_icmp .gt 83, 3) := by decide +kernel
theorem dX10_wobbleWays_15 : decode cX10_wobbleWays 15 = .ok (.lload 6, 2) := by decide +kernel
theorem dX10_wobbleWays_17 : decode cX10_wobbleWays 17 = .ok (.lstore 9, 2) := by decide +kernel
theorem dX10_wobbleWays_19 : decode cX10_wobbleWays 19 = .ok (.iconst 0, 1) := by decide +kernel
theorem dX10_wobbleWays_20 : decode cX10_wobbleWays 20 = .ok (.istore 11, 2) := by decide +kernel
theorem dX10_wobbleWays_22 : decode cX10_wobbleWays 22 = .ok (.iload 11, 2) := by decide +kernel
theorem dX10_wobbleWays_24 : decode cX10_wobbleWays 24 = .ok (.iload_n 0, 1) := by decide +kernel
theorem dX10_wobbleWays_25 : decode cX10_wobbleWays 25 = .ok (.if_icmp .ge 31, 3) := by decide +kernel
theorem dX10_wobbleWays_28 : decode cX10_wobbleWays 28 = .ok (.lload 9, 2) := by decide +kernel
theorem dX10_wobbleWays_30 : decode cX10_wobbleWays 30 = .ok (.iload 11, 2) := by decide +kernel
theorem dX10_wobbleWays_32 : decode cX10_wobbleWays 32 = .ok (.iload 8, 2) := by decide +kernel
theorem dX10_wobbleWays_34 : decode cX10_wobbleWays 34 = .ok (.if_icmp .ge 8, 3) := by decide +kernel
theorem dX10_wobbleWays_37 : decode cX10_wobbleWays 37 = .ok (.iload_n 1, 1) := by decide +kernel
theorem dX10_wobbleWays_38 : decode cX10_wobbleWays 38 = .ok (.i2l, 1) := by decide +kernel
theorem dX10_wobbleWays_39 : decode cX10_wobbleWays 39 = .ok (.goto 8, 3) := by decide +kernel
theorem dX10_wobbleWays_42 : decode cX10_wobbleWays 42 = .ok (.bipush 100, 2) := by decide +kernel
theorem dX10_wobbleWays_44 : decode cX10_wobbleWays 44 = .ok (.iload_n 1, 1) := by decide +kernel
theorem dX10_wobbleWays_45 : decode cX10_wobbleWays 45 = .ok (.isub, 1) := by decide +kernel
theorem dX10_wobbleWays_46 : decode cX10_wobbleWays 46 = .ok (.i2l, 1) := by decide +kernel
theorem dX10_wobbleWays_47 : decode cX10_wobbleWays 47 = .ok (.lmul, 1) := by decide +kernel
theorem dX10_wobbleWays_48 : decode cX10_wobbleWays 48 = .ok (.lstore 9, 2) := by decide +kernel
theorem dX10_wobbleWays_50 : decode cX10_wobbleWays 50 = .ok (.iinc 11 1, 3) := by decide +kernel
theorem dX10_wobbleWays_53 : decode cX10_wobbleWays 53 = .ok (.goto (-31), 3) := by decide +kernel
theorem dX10_wobbleWays_56 : decode cX10_wobbleWays 56 = .ok (.lload 4, 2) := by decide +kernel
theorem dX10_wobbleWays_58 : decode cX10_wobbleWays 58 = .ok (.iload 8, 2) := by decide +kernel
theorem dX10_wobbleWays_60 : decode cX10_wobbleWays 60 = .ok (.iload_n 2, 1) := by decide +kernel
theorem dX10_wobbleWays_61 : decode cX10_wobbleWays 61 = .ok (.if_icmp .lt 8, 3) := by decide +kernel
theorem dX10_wobbleWays_64 : decode cX10_wobbleWays 64 = .ok (.lload 9, 2) := by decide +kernel
theorem dX10_wobbleWays_66 : decode cX10_wobbleWays 66 = .ok (.goto 4, 3) := by decide +kernel
theorem dX10_wobbleWays_69 : decode cX10_wobbleWays 69 = .ok (.lconst 0, 1) := by decide +kernel
theorem dX10_wobbleWays_70 : decode cX10_wobbleWays 70 = .ok (.ladd, 1) := by decide +kernel
theorem dX10_wobbleWays_71 : decode cX10_wobbleWays 71 = .ok (.lstore 4, 2) := by decide +kernel
theorem dX10_wobbleWays_73 : decode cX10_wobbleWays 73 = .ok (.lload 6, 2) := by decide +kernel
theorem dX10_wobbleWays_75 : decode cX10_wobbleWays 75 = .ok (.iload_n 0, 1) := by decide +kernel
theorem dX10_wobbleWays_76 : decode cX10_wobbleWays 76 = .ok (.iload 8, 2) := by decide +kernel
theorem dX10_wobbleWays_78 : decode cX10_wobbleWays 78 = .ok (.isub, 1) := by decide +kernel
theorem dX10_wobbleWays_79 : decode cX10_wobbleWays 79 = .ok (.i2l, 1) := by decide +kernel
theorem dX10_wobbleWays_80 : decode cX10_wobbleWays 80 = .ok (.lmul, 1) := by decide +kernel
theorem dX10_wobbleWays_81 : decode cX10_wobbleWays 81 = .ok (.iload 8, 2) := by decide +kernel
theorem dX10_wobbleWays_83 : decode cX10_wobbleWays 83 = .ok (.iconst 1, 1) := by decide +kernel
theorem dX10_wobbleWays_84 : decode cX10_wobbleWays 84 = .ok (.iadd, 1) := by decide +kernel
theorem dX10_wobbleWays_85 : decode cX10_wobbleWays 85 = .ok (.i2l, 1) := by decide +kernel
theorem dX10_wobbleWays_86 : decode cX10_wobbleWays 86 = .ok (.ldiv, 1) := by decide +kernel
theorem dX10_wobbleWays_87 : decode cX10_wobbleWays 87 = .ok (.lstore 6, 2) := by decide +kernel
theorem dX10_wobbleWays_89 : decode cX10_wobbleWays 89 = .ok (.iinc 8 1, 3) := by decide +kernel
theorem dX10_wobbleWays_92 : decode cX10_wobbleWays 92 = .ok (.goto (-83), 3) := by decide +kernel
theorem dX10_wobbleWays_95 : decode cX10_wobbleWays 95 = .ok (.lload 4, 2) := by decide +kernel
theorem dX10_wobbleWays_97 : decode cX10_wobbleWays 97 = .ok (.lreturn, 1) := by decide +kernel
def lp_X10_wobbleWays_22 (y0 : Int32) (y1 : Int32) (y2 : Int32) (y3 : Int32) (y4 : Int64) (y6 : Int64) (y8 : Int32) (k56 : Int64 → Mm → Option (Int64 × Mm)) : Nat → Int64 → Int32 → Mm → Option (Int64 × Mm)
  | 0, _, _, _ => none
  | n + 1, y9, y11, M =>
    if y0 ≤ y11 then (k56 y9 M) else (jn (fun (s1 : Int64) (M2 : Mm) => lp_X10_wobbleWays_22 y0 y1 y2 y3 y4 y6 y8 k56 n (y9 * s1) (y11 + (1 : Int32)) M2) fun j3 => if y8 ≤ y11 then (j3 ((100 : Int32) - y1).toInt64 M) else (j3 y1.toInt64 M))
def lp_X10_wobbleWays_9 (y0 : Int32) (y1 : Int32) (y2 : Int32) (y3 : Int32)  : Nat → Int64 → Int64 → Int32 → Mm → Option (Int64 × Mm)
  | 0, _, _, _, _ => none
  | n + 1, y4, y6, y8, M =>
    if y3 < y8 then (some (y4, M)) else (lp_X10_wobbleWays_22 y0 y1 y2 y3 y4 y6 y8 (fun (u6 : Int64) (M7 : Mm) => jn (fun (s8 : Int64) (M9 : Mm) => gd (nzl (y8 + (1 : Int32)).toInt64) <| lt (((y6 * (y0 - y8).toInt64) / (y8 + (1 : Int32)).toInt64)) fun t11 => lp_X10_wobbleWays_9 y0 y1 y2 y3 n (y4 + s8) t11 (y8 + (1 : Int32)) M9) fun j10 => if y8 < y2 then (j10 (0 : Int64) M7) else (j10 u6 M7)) N0 y6 (0 : Int32) M)
def f_X10_wobbleWays (x0 : Int32) (x1 : Int32) (x2 : Int32) (x3 : Int32) (M : Mm) : Option (Int64 × Mm) :=
  lp_X10_wobbleWays_9 x0 x1 x2 x3  N0 (0 : Int64) (1 : Int64) (0 : Int32) M
set_option maxHeartbeats 4000000 in
set_option maxRecDepth 100000 in
theorem sl_X10_wobbleWays_22 {l : Launch} {B : BT} (hA : bA B = false) {d : Nat} {r : Int64} {M' : Mm} {y0 : Int32} {y1 : Int32} {y2 : Int32} {y3 : Int32} {y4 : Int64} {y6 : Int64} {y8 : Int32}  {k56 : Int64 → Mm → Option (Int64 × Mm)} (hk56 : ∀ (z9 : Int64) (M9 : Mm), k56 z9 M9 = some (r, M') → GG l B LY (d + 0) yX10_wobbleWays cX10_wobbleWays 12 (some .long) 0 0 (PL r M') 97 0 0 56 [(0, .int y0), (1, .int y1), (2, .int y2), (3, .int y3), (4, .long y4), (6, .long y6), (8, .int y8), (9, .long z9)] [] M9) :
    ∀ (n : Nat) (y9 : Int64) (y11 : Int32) (M : Mm), lp_X10_wobbleWays_22 y0 y1 y2 y3 y4 y6 y8 k56 n y9 y11 M = some (r, M') → GG l B LY (d + 0) yX10_wobbleWays cX10_wobbleWays 12 (some .long) 0 0 (PL r M') 97 0 0 22 [(0, .int y0), (1, .int y1), (2, .int y2), (3, .int y3), (4, .long y4), (6, .long y6), (8, .int y8), (9, .long y9), (11, .int y11)] [] M := by
  intro n
  induction n with
  | zero => intro y9 y11 M h; cases h
  | succ n ih =>
    intro y9 y11 M h
    rw [lp_X10_wobbleWays_22] at h
    refine g_iload dX10_wobbleWays_22 8 rfl ?_
    refine g_iload_n dX10_wobbleWays_24 rfl 0 rfl ?_
    refine g_icmp_ge (tgt := 56) dX10_wobbleWays_25 (by decide) (fun c5 => ?_) (fun c5 => ?_)
    · replace h := ite_p c5 h
      refine g_sub [0, 1, 2, 3, 4, 5, 6, 7] (lv' := [(0, .int y0), (1, .int y1), (2, .int y2), (3, .int y3), (4, .long y4), (6, .long y6), (8, .int y8), (9, .long y9)]) rfl ?_
      exact hk56 _ _ h
    · replace h := ite_n c5 h
      refine g_lload dX10_wobbleWays_28 7 rfl ?_
      refine g_iload dX10_wobbleWays_30 8 rfl ?_
      refine g_iload dX10_wobbleWays_32 6 rfl ?_
      obtain ⟨j3, ej3, h⟩ := jn_e h
      have hj3 : ∀ (s1 : Int64) (M2 : Mm), j3 s1 M2 = some (r, M') → GG l B LY (d + 0) yX10_wobbleWays cX10_wobbleWays 12 (some .long) 0 0 (PL r M') 97 0 0 47 [(0, .int y0), (1, .int y1), (2, .int y2), (3, .int y3), (4, .long y4), (6, .long y6), (8, .int y8), (11, .int y11)] [.long s1, .long y9] M2 := by
        intro s1 M2 h
        rw [ej3] at h
        refine g_lmul dX10_wobbleWays_47 ?_
        refine g_lstore (lv' := [(9, .long (y9 * s1)), (0, .int y0), (1, .int y1), (2, .int y2), (3, .int y3), (4, .long y4), (6, .long y6), (8, .int y8), (11, .int y11)]) dX10_wobbleWays_48 (by decide) rfl ?_
        refine g_iinc (v := (y11 + (1 : Int32))) (lv' := [(11, .int (y11 + (1 : Int32))), (9, .long (y9 * s1)), (0, .int y0), (1, .int y1), (2, .int y2), (3, .int y3), (4, .long y4), (6, .long y6), (8, .int y8)]) dX10_wobbleWays_50 8 rfl rfl (by decide) rfl ?_
        refine g_goto (tgt := 22) dX10_wobbleWays_53 (by decide) ?_
        refine g_sub [2, 3, 4, 5, 6, 7, 8, 1, 0] (lv' := [(0, .int y0), (1, .int y1), (2, .int y2), (3, .int y3), (4, .long y4), (6, .long y6), (8, .int y8), (9, .long (y9 * s1)), (11, .int (y11 + (1 : Int32)))]) rfl ?_
        exact ih _ _  _ h
      refine g_icmp_ge (tgt := 42) dX10_wobbleWays_34 (by decide) (fun c4 => ?_) (fun c4 => ?_)
      · replace h := ite_p c4 h
        refine g_bipush (v := 100) dX10_wobbleWays_42 (by decide) ?_
        refine g_iload_n dX10_wobbleWays_44 rfl 1 rfl ?_
        refine g_isub dX10_wobbleWays_45 ?_
        refine g_i2l dX10_wobbleWays_46 ?_
        refine g_sub [0, 1, 2, 3, 4, 5, 6, 8] (lv' := [(0, .int y0), (1, .int y1), (2, .int y2), (3, .int y3), (4, .long y4), (6, .long y6), (8, .int y8), (11, .int y11)]) rfl ?_
        exact hj3 _ _ h
      · replace h := ite_n c4 h
        refine g_iload_n dX10_wobbleWays_37 rfl 1 rfl ?_
        refine g_i2l dX10_wobbleWays_38 ?_
        refine g_goto (tgt := 47) dX10_wobbleWays_39 (by decide) ?_
        refine g_sub [0, 1, 2, 3, 4, 5, 6, 8] (lv' := [(0, .int y0), (1, .int y1), (2, .int y2), (3, .int y3), (4, .long y4), (6, .long y6), (8, .int y8), (11, .int y11)]) rfl ?_
        exact hj3 _ _ h
set_option maxHeartbeats 4000000 in
set_option maxRecDepth 100000 in
theorem sl_X10_wobbleWays_9 {l : Launch} {B : BT} (hA : bA B = false) {d : Nat} {r : Int64} {M' : Mm} {y0 : Int32} {y1 : Int32} {y2 : Int32} {y3 : Int32}    :
    ∀ (n : Nat) (y4 : Int64) (y6 : Int64) (y8 : Int32) (M : Mm), lp_X10_wobbleWays_9 y0 y1 y2 y3 n y4 y6 y8 M = some (r, M') → GG l B LY (d + 0) yX10_wobbleWays cX10_wobbleWays 12 (some .long) 0 0 (PL r M') 97 0 0 9 [(0, .int y0), (1, .int y1), (2, .int y2), (3, .int y3), (4, .long y4), (6, .long y6), (8, .int y8)] [] M := by
  intro n
  induction n with
  | zero => intro y4 y6 y8 M h; cases h
  | succ n ih =>
    intro y4 y6 y8 M h
    rw [lp_X10_wobbleWays_9] at h
    refine g_iload dX10_wobbleWays_9 6 rfl ?_
    refine g_iload_n dX10_wobbleWays_11 rfl 3 rfl ?_
    refine g_icmp_gt (tgt := 95) dX10_wobbleWays_12 (by decide) (fun c13 => ?_) (fun c13 => ?_)
    · replace h := ite_p c13 h
      refine g_lload dX10_wobbleWays_95 4 rfl ?_
      exact g_lret rfl (pl_of h) dX10_wobbleWays_97
    · replace h := ite_n c13 h
      refine g_lload dX10_wobbleWays_15 5 rfl ?_
      refine g_lstore (lv' := [(9, .long y6), (0, .int y0), (1, .int y1), (2, .int y2), (3, .int y3), (4, .long y4), (6, .long y6), (8, .int y8)]) dX10_wobbleWays_17 (by decide) rfl ?_
      refine g_iconst (v := 0) dX10_wobbleWays_19 (by decide) ?_
      refine g_istore (lv' := [(11, .int (0 : Int32)), (9, .long y6), (0, .int y0), (1, .int y1), (2, .int y2), (3, .int y3), (4, .long y4), (6, .long y6), (8, .int y8)]) dX10_wobbleWays_20 (by decide) rfl ?_
      refine g_sub [2, 3, 4, 5, 6, 7, 8, 1, 0] (lv' := [(0, .int y0), (1, .int y1), (2, .int y2), (3, .int y3), (4, .long y4), (6, .long y6), (8, .int y8), (9, .long y6), (11, .int (0 : Int32))]) rfl ?_
      refine sl_X10_wobbleWays_22 hA  ?_ _ _ _ _ h
      · intro u6 M7 h
        refine g_lload dX10_wobbleWays_56 4 rfl ?_
        refine g_iload dX10_wobbleWays_58 6 rfl ?_
        refine g_iload_n dX10_wobbleWays_60 rfl 2 rfl ?_
        obtain ⟨j10, ej10, h⟩ := jn_e h
        have hj10 : ∀ (s8 : Int64) (M9 : Mm), j10 s8 M9 = some (r, M') → GG l B LY (d + 0) yX10_wobbleWays cX10_wobbleWays 12 (some .long) 0 0 (PL r M') 97 0 0 70 [(0, .int y0), (1, .int y1), (2, .int y2), (3, .int y3), (6, .long y6), (8, .int y8)] [.long s8, .long y4] M9 := by
          intro s8 M9 h
          rw [ej10] at h
          refine g_ladd dX10_wobbleWays_70 ?_
          refine g_lstore (lv' := [(4, .long (y4 + s8)), (0, .int y0), (1, .int y1), (2, .int y2), (3, .int y3), (6, .long y6), (8, .int y8)]) dX10_wobbleWays_71 (by decide) rfl ?_
          refine g_lload dX10_wobbleWays_73 5 rfl ?_
          refine g_iload_n dX10_wobbleWays_75 rfl 1 rfl ?_
          refine g_iload dX10_wobbleWays_76 6 rfl ?_
          refine g_isub dX10_wobbleWays_78 ?_
          refine g_i2l dX10_wobbleWays_79 ?_
          refine g_lmul dX10_wobbleWays_80 ?_
          refine g_iload dX10_wobbleWays_81 6 rfl ?_
          refine g_iconst (v := 1) dX10_wobbleWays_83 (by decide) ?_
          refine g_iadd dX10_wobbleWays_84 ?_
          refine g_i2l dX10_wobbleWays_85 ?_
          obtain ⟨hz, h⟩ := gd_s h
          refine g_ldiv dX10_wobbleWays_86 (nzl_s hz) ?_
          obtain ⟨t11, et11, h⟩ := lt_e h
          refine g_cutl et11 ?_
          refine g_lstore (lv' := [(6, .long t11), (4, .long (y4 + s8)), (0, .int y0), (1, .int y1), (2, .int y2), (3, .int y3), (8, .int y8)]) dX10_wobbleWays_87 (by decide) rfl ?_
          refine g_iinc (v := (y8 + (1 : Int32))) (lv' := [(8, .int (y8 + (1 : Int32))), (6, .long t11), (4, .long (y4 + s8)), (0, .int y0), (1, .int y1), (2, .int y2), (3, .int y3)]) dX10_wobbleWays_89 6 rfl rfl (by decide) rfl ?_
          refine g_goto (tgt := 9) dX10_wobbleWays_92 (by decide) ?_
          refine g_sub [3, 4, 5, 6, 2, 1, 0] (lv' := [(0, .int y0), (1, .int y1), (2, .int y2), (3, .int y3), (4, .long (y4 + s8)), (6, .long t11), (8, .int (y8 + (1 : Int32)))]) rfl ?_
          exact ih _ _ _  _ h
        refine g_icmp_lt (tgt := 69) dX10_wobbleWays_61 (by decide) (fun c12 => ?_) (fun c12 => ?_)
        · replace h := ite_p c12 h
          refine g_lconst (v := 0) dX10_wobbleWays_69 (by decide) ?_
          refine g_sub [0, 1, 2, 3, 5, 6] (lv' := [(0, .int y0), (1, .int y1), (2, .int y2), (3, .int y3), (6, .long y6), (8, .int y8)]) rfl ?_
          exact hj10 _ _ h
        · replace h := ite_n c12 h
          refine g_lload dX10_wobbleWays_64 7 rfl ?_
          refine g_goto (tgt := 70) dX10_wobbleWays_66 (by decide) ?_
          refine g_sub [0, 1, 2, 3, 5, 6] (lv' := [(0, .int y0), (1, .int y1), (2, .int y2), (3, .int y3), (6, .long y6), (8, .int y8)]) rfl ?_
          exact hj10 _ _ h
set_option maxHeartbeats 4000000 in
set_option maxRecDepth 100000 in
theorem s_X10_wobbleWays {l : Launch} {B : BT} (hA : bA B = false) {d : Nat} {r : Int64} {M' : Mm} {x0 : Int32} {x1 : Int32} {x2 : Int32} {x3 : Int32} {M : Mm}  (h : f_X10_wobbleWays x0 x1 x2 x3 M = some (r, M')) : Con l B LY (d + 0) yX10_wobbleWays cX10_wobbleWays 12 (some .long) 0 0 [.int x0, .int x1, .int x2, .int x3] 97 M (PL r M') := by
  refine con_of (by decide) (Nat.le_of_ble_eq_true rfl) ?_
  show GG l B LY (d + 0) yX10_wobbleWays cX10_wobbleWays 12 (some .long) 0 0 (PL r M') 97 0 0 0 [(0, .int x0), (1, .int x1), (2, .int x2), (3, .int x3)] [] M
  rw [f_X10_wobbleWays] at h
  refine g_lconst (v := 0) dX10_wobbleWays_0 (by decide) ?_
  refine g_lstore (lv' := [(4, .long (0 : Int64)), (0, .int x0), (1, .int x1), (2, .int x2), (3, .int x3)]) dX10_wobbleWays_1 (by decide) rfl ?_
  refine g_lconst (v := 1) dX10_wobbleWays_3 (by decide) ?_
  refine g_lstore (lv' := [(6, .long (1 : Int64)), (4, .long (0 : Int64)), (0, .int x0), (1, .int x1), (2, .int x2), (3, .int x3)]) dX10_wobbleWays_4 (by decide) rfl ?_
  refine g_iconst (v := 0) dX10_wobbleWays_6 (by decide) ?_
  refine g_istore (lv' := [(8, .int (0 : Int32)), (6, .long (1 : Int64)), (4, .long (0 : Int64)), (0, .int x0), (1, .int x1), (2, .int x2), (3, .int x3)]) dX10_wobbleWays_7 (by decide) rfl ?_
  refine g_sub [3, 4, 5, 6, 2, 1, 0] (lv' := [(0, .int x0), (1, .int x1), (2, .int x2), (3, .int x3), (4, .long (0 : Int64)), (6, .long (1 : Int64)), (8, .int (0 : Int32))]) rfl ?_
  refine sl_X10_wobbleWays_9 hA   _ _ _ _ _ h
theorem ck_X10_wobbleWays : CKS yX10_wobbleWays cX10_wobbleWays 12 (some .long) 4 := ⟨⟨by decide, by decide, by decide +kernel⟩, w_1787, w_81, w_1786, by decide⟩
theorem dX10_isSpanned_0 : decode cX10_isSpanned 0 = .ok (.aload_n 0, 1) := by decide +kernel
theorem dX10_isSpanned_1 : decode cX10_isSpanned 1 = .ok (.getfield 44, 3) := by decide +kernel
theorem dX10_isSpanned_4 : decode cX10_isSpanned 4 = .ok (.iload_n 1, 1) := by decide +kernel
theorem dX10_isSpanned_5 : decode cX10_isSpanned 5 = .ok (.iaload, 1) := by decide +kernel
theorem dX10_isSpanned_6 : decode cX10_isSpanned 6 = .ok (.istore_n 3, 1) := by decide +kernel
theorem dX10_isSpanned_7 : decode cX10_isSpanned 7 = .ok (.ldc2_w 368, 3) := by decide +kernel
theorem dX10_isSpanned_10 : decode cX10_isSpanned 10 = .ok (.lstore 4, 2) := by decide +kernel
theorem dX10_isSpanned_12 : decode cX10_isSpanned 12 = .ok (.iconst 1, 1) := by decide +kernel
theorem dX10_isSpanned_13 : decode cX10_isSpanned 13 = .ok (.istore 6, 2) := by decide +kernel
theorem dX10_isSpanned_15 : decode cX10_isSpanned 15 = .ok (.iload 6, 2) := by decide +kernel
theorem dX10_isSpanned_17 : decode cX10_isSpanned 17 = .ok (.iload_n 3, 1) := by decide +kernel
theorem dX10_isSpanned_18 : decode cX10_isSpanned 18 = .ok (.if_icmp .ge 17, 3) := by decide +kernel
theorem dX10_isSpanned_21 : decode cX10_isSpanned 21 = .ok (.lload 4, 2) := by decide +kernel
theorem dX10_isSpanned_23 : decode cX10_isSpanned 23 = .ok (.ldc2_w 290, 3) := by decide +kernel
theorem dX10_isSpanned_26 : decode cX10_isSpanned 26 = .ok (.lmul, 1) := by decide +kernel
theorem dX10_isSpanned_27 : decode cX10_isSpanned 27 = .ok (.lstore 4, 2) := by decide +kernel
theorem dX10_isSpanned_29 : decode cX10_isSpanned 29 = .ok (.iinc 6 1, 3) := by decide +kernel
theorem dX10_isSpanned_32 : decode cX10_isSpanned 32 = .ok (.goto (-17), 3) := by decide +kernel
theorem dX10_isSpanned_35 : decode cX10_isSpanned 35 = .ok (.iload_n 3, 1) := by decide +kernel
theorem dX10_isSpanned_36 : decode cX10_isSpanned 36 = .ok (.iload_n 2, 1) := by decide +kernel
theorem dX10_isSpanned_37 : decode cX10_isSpanned 37 = .ok (.aload_n 0, 1) := by decide +kernel
theorem dX10_isSpanned_38 : decode cX10_isSpanned 38 = .ok (.getfield 47, 3) := by decide +kernel
theorem dX10_isSpanned_41 : decode cX10_isSpanned 41 = .ok (.iload_n 1, 1) := by decide +kernel
theorem dX10_isSpanned_42 : decode cX10_isSpanned 42 = .ok (.iaload, 1) := by decide +kernel
theorem dX10_isSpanned_43 : decode cX10_isSpanned 43 = .ok (.iload_n 3, 1) := by decide +kernel
theorem dX10_isSpanned_44 : decode cX10_isSpanned 44 = .ok (.invokestatic 370, 3) := by decide +kernel
theorem dX10_isSpanned_47 : decode cX10_isSpanned 47 = .ok (.lload 4, 2) := by decide +kernel
theorem dX10_isSpanned_49 : decode cX10_isSpanned 49 = .ok (.lcmp, 1) := by decide +kernel
theorem dX10_isSpanned_50 : decode cX10_isSpanned 50 = .ok (.ifCond .lt 25, 3) := by decide +kernel
theorem dX10_isSpanned_53 : decode cX10_isSpanned 53 = .ok (.iload_n 3, 1) := by decide +kernel
theorem dX10_isSpanned_54 : decode cX10_isSpanned 54 = .ok (.iload_n 2, 1) := by decide +kernel
theorem dX10_isSpanned_55 : decode cX10_isSpanned 55 = .ok (.iconst 0, 1) := by decide +kernel
theorem dX10_isSpanned_56 : decode cX10_isSpanned 56 = .ok (.aload_n 0, 1) := by decide +kernel
theorem dX10_isSpanned_57 : decode cX10_isSpanned 57 = .ok (.getfield 47, 3) := by decide +kernel
theorem dX10_isSpanned_60 : decode cX10_isSpanned 60 = .ok (.iload_n 1, 1) := by decide +kernel
theorem dX10_isSpanned_61 : decode cX10_isSpanned 61 = .ok (.iaload, 1) := by decide +kernel
theorem dX10_isSpanned_62 : decode cX10_isSpanned 62 = .ok (.invokestatic 370, 3) := by decide +kernel
theorem dX10_isSpanned_65 : decode cX10_isSpanned 65 = .ok (.lload 4, 2) := by decide +kernel
theorem dX10_isSpanned_67 : decode cX10_isSpanned 67 = .ok (.lcmp, 1) := by decide +kernel
theorem dX10_isSpanned_68 : decode cX10_isSpanned 68 = .ok (.ifCond .lt 7, 3) := by decide +kernel
theorem dX10_isSpanned_71 : decode cX10_isSpanned 71 = .ok (.iconst 1, 1) := by decide +kernel
theorem dX10_isSpanned_72 : decode cX10_isSpanned 72 = .ok (.goto 4, 3) := by decide +kernel
theorem dX10_isSpanned_75 : decode cX10_isSpanned 75 = .ok (.iconst 0, 1) := by decide +kernel
theorem dX10_isSpanned_76 : decode cX10_isSpanned 76 = .ok (.ireturn, 1) := by decide +kernel
def lp_X10_isSpanned_15 (y1 : Int32) (y2 : Int32) (y3 : Int32) (k35 : Int64 → Mm → Option (Int32 × Mm)) : Nat → Int64 → Int32 → Mm → Option (Int32 × Mm)
  | 0, _, _, _ => none
  | n + 1, y4, y6, M =>
    if y3 ≤ y6 then (k35 y4 M) else (lp_X10_isSpanned_15 y1 y2 y3 k35 n (y4 * (100 : Int64)) (y6 + (1 : Int32)) M)
def f_X10_isSpanned (x1 : Int32) (x2 : Int32) (M : Mm) : Option (Int32 × Mm) :=
  gd (inb x1 5) <| lt ((M 91 x1.toNatClampNeg)) fun t1 => lp_X10_isSpanned_15 x1 x2 t1 (fun (u3 : Int64) (M4 : Mm) => gd (inb x1 5) <| bd (f_X10_wobbleWays t1 x2 (M4 92 x1.toNatClampNeg) t1 M4) fun v44_6 M44_5 => jn (fun (M7 : Mm) => some ((0 : Int32), M7)) fun j8 => if (lg_cmp v44_6 u3) < 0 then (j8  M44_5) else (gd (inb x1 5) <| bd (f_X10_wobbleWays t1 x2 (0 : Int32) (M44_5 92 x1.toNatClampNeg) M44_5) fun v62_10 M62_9 => if (lg_cmp v62_10 u3) < 0 then (j8  M62_9) else (some ((1 : Int32), M62_9)))) N0 (5 : Int64) (1 : Int32) M
set_option maxHeartbeats 4000000 in
set_option maxRecDepth 100000 in
theorem sl_X10_isSpanned_15 {l : Launch} {B : BT} (hA : bA B = false) {d : Nat} {r : Int32} {M' : Mm} {y1 : Int32} {y2 : Int32} {y3 : Int32}  {k35 : Int64 → Mm → Option (Int32 × Mm)} (hk35 : ∀ (z4 : Int64) (M9 : Mm), k35 z4 M9 = some (r, M') → GG l B LY (d + 1) yX10_isSpanned cX10_isSpanned 7 (some .boolean) 0 0 (PI r M') 97 0 0 35 [(0, .ref 81), (1, .int y1), (2, .int y2), (3, .int y3), (4, .long z4)] [] M9) :
    ∀ (n : Nat) (y4 : Int64) (y6 : Int32) (M : Mm), lp_X10_isSpanned_15 y1 y2 y3 k35 n y4 y6 M = some (r, M') → GG l B LY (d + 1) yX10_isSpanned cX10_isSpanned 7 (some .boolean) 0 0 (PI r M') 97 0 0 15 [(0, .ref 81), (1, .int y1), (2, .int y2), (3, .int y3), (4, .long y4), (6, .int y6)] [] M := by
  intro n
  induction n with
  | zero => intro y4 y6 M h; cases h
  | succ n ih =>
    intro y4 y6 M h
    rw [lp_X10_isSpanned_15] at h
    refine g_iload dX10_isSpanned_15 5 rfl ?_
    refine g_iload_n dX10_isSpanned_17 rfl 3 rfl ?_
    refine g_icmp_ge (tgt := 35) dX10_isSpanned_18 (by decide) (fun c2 => ?_) (fun c2 => ?_)
    · replace h := ite_p c2 h
      refine g_sub [0, 1, 2, 3, 4] (lv' := [(0, .ref 81), (1, .int y1), (2, .int y2), (3, .int y3), (4, .long y4)]) rfl ?_
      exact hk35 _ _ h
    · replace h := ite_n c2 h
      refine g_lload dX10_isSpanned_21 4 rfl ?_
      refine g_ldc2 (v := 100) w_1620 dX10_isSpanned_23 ?_
      refine g_lmul dX10_isSpanned_26 ?_
      refine g_lstore (lv' := [(4, .long (y4 * (100 : Int64))), (0, .ref 81), (1, .int y1), (2, .int y2), (3, .int y3), (6, .int y6)]) dX10_isSpanned_27 (by decide) rfl ?_
      refine g_iinc (v := (y6 + (1 : Int32))) (lv' := [(6, .int (y6 + (1 : Int32))), (4, .long (y4 * (100 : Int64))), (0, .ref 81), (1, .int y1), (2, .int y2), (3, .int y3)]) dX10_isSpanned_29 5 rfl rfl (by decide) rfl ?_
      refine g_goto (tgt := 15) dX10_isSpanned_32 (by decide) ?_
      refine g_sub [2, 3, 4, 5, 1, 0] (lv' := [(0, .ref 81), (1, .int y1), (2, .int y2), (3, .int y3), (4, .long (y4 * (100 : Int64))), (6, .int (y6 + (1 : Int32)))]) rfl ?_
      exact ih _ _  _ h
set_option maxHeartbeats 4000000 in
set_option maxRecDepth 100000 in
theorem s_X10_isSpanned {l : Launch} {B : BT} (hA : bA B = false) {d : Nat} {r : Int32} {M' : Mm} {x1 : Int32} {x2 : Int32} {M : Mm}  (h : f_X10_isSpanned x1 x2 M = some (r, M')) : Con l B LY (d + 1) yX10_isSpanned cX10_isSpanned 7 (some .boolean) 0 0 [.ref 81, .int x1, .int x2] 97 M (PI r M') := by
  refine con_of (by decide) (Nat.le_of_ble_eq_true rfl) ?_
  show GG l B LY (d + 1) yX10_isSpanned cX10_isSpanned 7 (some .boolean) 0 0 (PI r M') 97 0 0 0 [(0, .ref 81), (1, .int x1), (2, .int x2)] [] M
  rw [f_X10_isSpanned] at h
  refine g_aload_n dX10_isSpanned_0 rfl 0 rfl ?_
  refine m_getr (k := 24) okX10 rfl rfl (by decide) w_1293 rfl dX10_isSpanned_1 ?_
  refine g_iload_n dX10_isSpanned_4 rfl 1 rfl ?_
  obtain ⟨hz, h⟩ := gd_s h
  refine m_iald rfl hz dX10_isSpanned_5 ?_
  obtain ⟨t1, et1, h⟩ := lt_e h
  refine g_cuti et1 ?_
  refine g_istore_n (lv' := [(3, .int t1), (0, .ref 81), (1, .int x1), (2, .int x2)]) dX10_isSpanned_6 rfl (by decide) rfl ?_
  refine g_ldc2 (v := 5) w_1784 dX10_isSpanned_7 ?_
  refine g_lstore (lv' := [(4, .long (5 : Int64)), (3, .int t1), (0, .ref 81), (1, .int x1), (2, .int x2)]) dX10_isSpanned_10 (by decide) rfl ?_
  refine g_iconst (v := 1) dX10_isSpanned_12 (by decide) ?_
  refine g_istore (lv' := [(6, .int (1 : Int32)), (4, .long (5 : Int64)), (3, .int t1), (0, .ref 81), (1, .int x1), (2, .int x2)]) dX10_isSpanned_13 (by decide) rfl ?_
  refine g_sub [3, 4, 5, 2, 1, 0] (lv' := [(0, .ref 81), (1, .int x1), (2, .int x2), (3, .int t1), (4, .long (5 : Int64)), (6, .int (1 : Int32))]) rfl ?_
  refine sl_X10_isSpanned_15 hA  ?_ _ _ _ _ h
  · intro u3 M4 h
    refine g_iload_n dX10_isSpanned_35 rfl 3 rfl ?_
    refine g_iload_n dX10_isSpanned_36 rfl 2 rfl ?_
    refine g_aload_n dX10_isSpanned_37 rfl 0 rfl ?_
    refine m_getr (k := 25) okX10 rfl rfl (by decide) w_1294 rfl dX10_isSpanned_38 ?_
    refine g_iload_n dX10_isSpanned_41 rfl 1 rfl ?_
    obtain ⟨hz, h⟩ := gd_s h
    refine m_iald rfl hz dX10_isSpanned_42 ?_
    refine g_iload_n dX10_isSpanned_43 rfl 3 rfl ?_
    obtain ⟨v44_6, M44_5, eM44_5, h⟩ := bd_e h
    refine m_callSl (As := [.int t1, .int x2, .int (M4 92 x1.toNatClampNeg), .int t1]) (st := []) (s_X10_wobbleWays (d := d + 0) hA  eM44_5) ck_X10_wobbleWays w_1785 rfl (Nat.le_of_ble_eq_true rfl) dX10_isSpanned_44 ?_
    refine g_lload dX10_isSpanned_47 4 rfl ?_
    refine g_lcmp dX10_isSpanned_49 ?_
    obtain ⟨j8, ej8, h⟩ := jn_e h
    have hj8 : ∀ (M7 : Mm), j8 M7 = some (r, M') → GG l B LY (d + 1) yX10_isSpanned cX10_isSpanned 7 (some .boolean) 0 0 (PI r M') 97 0 0 75 [] [] M7 := by
      intro M7 h
      rw [ej8] at h
      refine g_iconst (v := 0) dX10_isSpanned_75 (by decide) ?_
      exact g_zret rfl rfl (pi_of h) dX10_isSpanned_76
    refine g_if_lt (tgt := 75) dX10_isSpanned_50 (by decide) (fun c12 => ?_) (fun c12 => ?_)
    · replace h := ite_p c12 h
      refine g_sub [] (lv' := []) rfl ?_
      exact hj8  _ h
    · replace h := ite_n c12 h
      refine g_iload_n dX10_isSpanned_53 rfl 3 rfl ?_
      refine g_iload_n dX10_isSpanned_54 rfl 2 rfl ?_
      refine g_iconst (v := 0) dX10_isSpanned_55 (by decide) ?_
      refine g_aload_n dX10_isSpanned_56 rfl 0 rfl ?_
      refine m_getr (k := 25) okX10 rfl rfl (by decide) w_1294 rfl dX10_isSpanned_57 ?_
      refine g_iload_n dX10_isSpanned_60 rfl 1 rfl ?_
      obtain ⟨hz, h⟩ := gd_s h
      refine m_iald rfl hz dX10_isSpanned_61 ?_
      obtain ⟨v62_10, M62_9, eM62_9, h⟩ := bd_e h
      refine m_callSl (As := [.int t1, .int x2, .int (0 : Int32), .int (M44_5 92 x1.toNatClampNeg)]) (st := []) (s_X10_wobbleWays (d := d + 0) hA  eM62_9) ck_X10_wobbleWays w_1785 rfl (Nat.le_of_ble_eq_true rfl) dX10_isSpanned_62 ?_
      refine g_lload dX10_isSpanned_65 4 rfl ?_
      refine g_lcmp dX10_isSpanned_67 ?_
      refine g_if_lt (tgt := 75) dX10_isSpanned_68 (by decide) (fun c11 => ?_) (fun c11 => ?_)
      · replace h := ite_p c11 h
        refine g_sub [] (lv' := []) rfl ?_
        exact hj8  _ h
      · replace h := ite_n c11 h
        refine g_iconst (v := 1) dX10_isSpanned_71 (by decide) ?_
        refine g_goto (tgt := 76) dX10_isSpanned_72 (by decide) ?_
        exact g_zret rfl rfl (pi_of h) dX10_isSpanned_76
theorem ck_X10_isSpanned : CKV yX10_isSpanned cX10_isSpanned 7 (some .boolean) 2 := ⟨⟨by decide, by decide, by decide +kernel⟩, w_1783, w_81, ⟨w_1782, w_66⟩, by decide⟩
theorem dX10_spanOf_0 : decode cX10_spanOf 0 = .ok (.iconst (-1), 1) := by decide +kernel
theorem dX10_spanOf_1 : decode cX10_spanOf 1 = .ok (.istore_n 3, 1) := by decide +kernel
theorem dX10_spanOf_2 : decode cX10_spanOf 2 = .ok (.iconst 0, 1) := by decide +kernel
theorem dX10_spanOf_3 : decode cX10_spanOf 3 = .ok (.istore 4, 2) := by decide +kernel
theorem dX10_spanOf_5 : decode cX10_spanOf 5 = .ok (.iload 4, 2) := by decide +kernel
theorem dX10_spanOf_7 : decode cX10_spanOf 7 = .ok (.bipush 100, 2) := by decide +kernel
theorem dX10_spanOf_9 : decode cX10_spanOf 9 = .ok (.if_icmp .gt 30, 3) := by decide +kernel
theorem dX10_spanOf_12 : decode cX10_spanOf 12 = .ok (.aload_n 0, 1) := by decide +kernel
theorem dX10_spanOf_13 : decode cX10_spanOf 13 = .ok (.iload_n 1, 1) := by decide +kernel
theorem dX10_spanOf_14 : decode cX10_spanOf 14 = .ok (.iload 4, 2) := by decide +kernel
theorem dX10_spanOf_16 : decode cX10_spanOf 16 = .ok (.invokevirtual 374, 3) := by decide +kernel
theorem dX10_spanOf_19 : decode cX10_spanOf 19 = .ok (.ifCond .eq 14, 3) := by decide +kernel
theorem dX10_spanOf_22 : decode cX10_spanOf 22 = .ok (.iload_n 2, 1) := by decide +kernel
theorem dX10_spanOf_23 : decode cX10_spanOf 23 = .ok (.ifCond .ne 7, 3) := by decide +kernel
theorem dX10_spanOf_26 : decode cX10_spanOf 26 = .ok (.iload_n 3, 1) := by decide +kernel
theorem dX10_spanOf_27 : decode cX10_spanOf 27 = .ok (.ifCond .ge 6, 3) := by decide +kernel
theorem dX10_spanOf_30 : decode cX10_spanOf 30 = .ok (.iload 4, 2) := by decide +kernel
theorem dX10_spanOf_32 : decode cX10_spanOf 32 = .ok (.istore_n 3, 1) := by decide +kernel
theorem dX10_spanOf_33 : decode cX10_spanOf 33 = .ok (.iinc 4 1, 3) := by decide +kernel
theorem dX10_spanOf_36 : decode cX10_spanOf 36 = .ok (.goto (-31), 3) := by decide +kernel
theorem dX10_spanOf_39 : decode cX10_spanOf 39 = .ok (.iload_n 3, 1) := by decide +kernel
theorem dX10_spanOf_40 : decode cX10_spanOf 40 = .ok (.ireturn, 1) := by decide +kernel
def lp_X10_spanOf_5 (y1 : Int32) (y2 : Int32)  : Nat → Int32 → Int32 → Mm → Option (Int32 × Mm)
  | 0, _, _, _ => none
  | n + 1, y3, y4, M =>
    if (100 : Int32) < y4 then (some (y3, M)) else (bd (f_X10_isSpanned y1 y4 M) fun v16_2 M16_1 => jn (fun (u3 : Int32) (M4 : Mm) => lp_X10_spanOf_5 y1 y2 n u3 (y4 + (1 : Int32)) M4) fun j5 => if v16_2 = 0 then (j5 y3 M16_1) else (jn (fun (M6 : Mm) => j5 y4 M6) fun j7 => if y2 = 0 then (if 0 ≤ y3 then (j5 y3 M16_1) else (j7  M16_1)) else (j7  M16_1)))
def f_X10_spanOf (x1 : Int32) (x2 : Int32) (M : Mm) : Option (Int32 × Mm) :=
  lp_X10_spanOf_5 x1 x2  N0 (-1 : Int32) (0 : Int32) M
set_option maxHeartbeats 4000000 in
set_option maxRecDepth 100000 in
theorem sl_X10_spanOf_5 {l : Launch} {B : BT} (hA : bA B = false) {d : Nat} {r : Int32} {M' : Mm} {y1 : Int32} {y2 : Int32}    :
    ∀ (n : Nat) (y3 : Int32) (y4 : Int32) (M : Mm), lp_X10_spanOf_5 y1 y2 n y3 y4 M = some (r, M') → GG l B LY (d + 2) yX10_spanOf cX10_spanOf 5 (some .int) 0 0 (PI r M') 97 0 0 5 [(0, .ref 81), (1, .int y1), (2, .int y2), (3, .int y3), (4, .int y4)] [] M := by
  intro n
  induction n with
  | zero => intro y3 y4 M h; cases h
  | succ n ih =>
    intro y3 y4 M h
    rw [lp_X10_spanOf_5] at h
    refine g_iload dX10_spanOf_5 4 rfl ?_
    refine g_bipush (v := 100) dX10_spanOf_7 (by decide) ?_
    refine g_icmp_gt (tgt := 39) dX10_spanOf_9 (by decide) (fun c11 => ?_) (fun c11 => ?_)
    · replace h := ite_p c11 h
      refine g_iload_n dX10_spanOf_39 rfl 3 rfl ?_
      exact g_zret rfl rfl (pi_of h) dX10_spanOf_40
    · replace h := ite_n c11 h
      refine g_aload_n dX10_spanOf_12 rfl 0 rfl ?_
      refine g_iload_n dX10_spanOf_13 rfl 1 rfl ?_
      refine g_iload dX10_spanOf_14 4 rfl ?_
      obtain ⟨v16_2, M16_1, eM16_1, h⟩ := bd_e h
      refine m_callVi (As := [.int y1, .int y4]) (st := []) (s_X10_isSpanned (d := d + 0) hA  eM16_1) rfl okX10 ck_X10_isSpanned w_1780 rfl (Nat.le_of_ble_eq_true rfl) dX10_spanOf_16 ?_
      obtain ⟨j5, ej5, h⟩ := jn_e h
      have hj5 : ∀ (u3 : Int32) (M4 : Mm), j5 u3 M4 = some (r, M') → GG l B LY (d + 2) yX10_spanOf cX10_spanOf 5 (some .int) 0 0 (PI r M') 97 0 0 33 [(0, .ref 81), (1, .int y1), (2, .int y2), (3, .int u3), (4, .int y4)] [] M4 := by
        intro u3 M4 h
        rw [ej5] at h
        refine g_iinc (v := (y4 + (1 : Int32))) (lv' := [(4, .int (y4 + (1 : Int32))), (0, .ref 81), (1, .int y1), (2, .int y2), (3, .int u3)]) dX10_spanOf_33 4 rfl rfl (by decide) rfl ?_
        refine g_goto (tgt := 5) dX10_spanOf_36 (by decide) ?_
        refine g_sub [1, 2, 3, 4, 0] (lv' := [(0, .ref 81), (1, .int y1), (2, .int y2), (3, .int u3), (4, .int (y4 + (1 : Int32)))]) rfl ?_
        exact ih _ _  _ h
      refine g_if_eq (tgt := 33) dX10_spanOf_19 (by decide) (fun c10 => ?_) (fun c10 => ?_)
      · replace h := ite_p c10 h
        refine g_sub [0, 1, 2, 3, 4] (lv' := [(0, .ref 81), (1, .int y1), (2, .int y2), (3, .int y3), (4, .int y4)]) rfl ?_
        exact hj5 _ _ h
      · replace h := ite_n c10 h
        refine g_iload_n dX10_spanOf_22 rfl 2 rfl ?_
        obtain ⟨j7, ej7, h⟩ := jn_e h
        have hj7 : ∀ (M6 : Mm), j7 M6 = some (r, M') → GG l B LY (d + 2) yX10_spanOf cX10_spanOf 5 (some .int) 0 0 (PI r M') 97 0 0 30 [(0, .ref 81), (1, .int y1), (2, .int y2), (4, .int y4)] [] M6 := by
          intro M6 h
          rw [ej7] at h
          refine g_iload dX10_spanOf_30 3 rfl ?_
          refine g_istore_n (lv' := [(3, .int y4), (0, .ref 81), (1, .int y1), (2, .int y2), (4, .int y4)]) dX10_spanOf_32 rfl (by decide) rfl ?_
          refine g_sub [1, 2, 3, 0, 4] (lv' := [(0, .ref 81), (1, .int y1), (2, .int y2), (3, .int y4), (4, .int y4)]) rfl ?_
          exact hj5 _ _ h
        refine g_if_ne (tgt := 30) dX10_spanOf_23 (by decide) (fun c9 => ?_) (fun c9 => ?_)
        · replace h := ite_n c9 h
          refine g_sub [0, 1, 2, 4] (lv' := [(0, .ref 81), (1, .int y1), (2, .int y2), (4, .int y4)]) rfl ?_
          exact hj7  _ h
        · replace h := ite_p c9 h
          refine g_iload_n dX10_spanOf_26 rfl 3 rfl ?_
          refine g_if_ge (tgt := 33) dX10_spanOf_27 (by decide) (fun c8 => ?_) (fun c8 => ?_)
          · replace h := ite_p c8 h
            refine g_sub [0, 1, 2, 3, 4] (lv' := [(0, .ref 81), (1, .int y1), (2, .int y2), (3, .int y3), (4, .int y4)]) rfl ?_
            exact hj5 _ _ h
          · replace h := ite_n c8 h
            refine g_sub [0, 1, 2, 4] (lv' := [(0, .ref 81), (1, .int y1), (2, .int y2), (4, .int y4)]) rfl ?_
            exact hj7  _ h
set_option maxHeartbeats 4000000 in
set_option maxRecDepth 100000 in
theorem s_X10_spanOf {l : Launch} {B : BT} (hA : bA B = false) {d : Nat} {r : Int32} {M' : Mm} {x1 : Int32} {x2 : Int32} {M : Mm}  (h : f_X10_spanOf x1 x2 M = some (r, M')) : Con l B LY (d + 2) yX10_spanOf cX10_spanOf 5 (some .int) 0 0 [.ref 81, .int x1, .int x2] 97 M (PI r M') := by
  refine con_of (by decide) (Nat.le_of_ble_eq_true rfl) ?_
  show GG l B LY (d + 2) yX10_spanOf cX10_spanOf 5 (some .int) 0 0 (PI r M') 97 0 0 0 [(0, .ref 81), (1, .int x1), (2, .int x2)] [] M
  rw [f_X10_spanOf] at h
  refine g_iconst (v := (-1)) dX10_spanOf_0 (by decide) ?_
  refine g_istore_n (lv' := [(3, .int (-1 : Int32)), (0, .ref 81), (1, .int x1), (2, .int x2)]) dX10_spanOf_1 rfl (by decide) rfl ?_
  refine g_iconst (v := 0) dX10_spanOf_2 (by decide) ?_
  refine g_istore (lv' := [(4, .int (0 : Int32)), (3, .int (-1 : Int32)), (0, .ref 81), (1, .int x1), (2, .int x2)]) dX10_spanOf_3 (by decide) rfl ?_
  refine g_sub [2, 3, 4, 1, 0] (lv' := [(0, .ref 81), (1, .int x1), (2, .int x2), (3, .int (-1 : Int32)), (4, .int (0 : Int32))]) rfl ?_
  refine sl_X10_spanOf_5 hA   _ _ _ _ h
theorem ck_X10_spanOf : CKV yX10_spanOf cX10_spanOf 5 (some .int) 2 := ⟨⟨by decide, by decide, by decide +kernel⟩, w_1779, w_81, ⟨w_1778, w_65⟩, by decide⟩
theorem dX10_spanWhy_0 : decode cX10_spanWhy 0 = .ok (.aload_n 0, 1) := by decide +kernel
theorem dX10_spanWhy_1 : decode cX10_spanWhy 1 = .ok (.iload_n 1, 1) := by decide +kernel
theorem dX10_spanWhy_2 : decode cX10_spanWhy 2 = .ok (.invokevirtual 278, 3) := by decide +kernel
theorem dX10_spanWhy_5 : decode cX10_spanWhy 5 = .ok (.ifCond .ne 7, 3) := by decide +kernel
theorem dX10_spanWhy_8 : decode cX10_spanWhy 8 = .ok (.iconst 1, 1) := by decide +kernel
theorem dX10_spanWhy_9 : decode cX10_spanWhy 9 = .ok (.goto 18, 3) := by decide +kernel
theorem dX10_spanWhy_12 : decode cX10_spanWhy 12 = .ok (.aload_n 0, 1) := by decide +kernel
theorem dX10_spanWhy_13 : decode cX10_spanWhy 13 = .ok (.getfield 44, 3) := by decide +kernel
theorem dX10_spanWhy_16 : decode cX10_spanWhy 16 = .ok (.iload_n 1, 1) := by decide +kernel
theorem dX10_spanWhy_17 : decode cX10_spanWhy 17 = .ok (.iaload, 1) := by decide +kernel
theorem dX10_spanWhy_18 : decode cX10_spanWhy 18 = .ok (.ifCond .ne 8, 3) := by decide +kernel
theorem dX10_spanWhy_21 : decode cX10_spanWhy 21 = .ok (.bipush 6, 2) := by decide +kernel
theorem dX10_spanWhy_23 : decode cX10_spanWhy 23 = .ok (.goto 4, 3) := by decide +kernel
theorem dX10_spanWhy_26 : decode cX10_spanWhy 26 = .ok (.iconst 0, 1) := by decide +kernel
theorem dX10_spanWhy_27 : decode cX10_spanWhy 27 = .ok (.ireturn, 1) := by decide +kernel
def f_X10_spanWhy (x1 : Int32) (M : Mm) : Option (Int32 × Mm) :=
  bd (f_X10_isCreeper x1 M) fun v2_2 M2_1 => if v2_2 = 0 then (some ((1 : Int32), M2_1)) else (gd (inb x1 5) <| if (M2_1 91 x1.toNatClampNeg) = 0 then (some ((6 : Int32), M2_1)) else (some ((0 : Int32), M2_1)))
set_option maxHeartbeats 4000000 in
set_option maxRecDepth 100000 in
theorem s_X10_spanWhy {l : Launch} {B : BT} (hA : bA B = false) {d : Nat} {r : Int32} {M' : Mm} {x1 : Int32} {M : Mm}  (h : f_X10_spanWhy x1 M = some (r, M')) : Con l B LY (d + 2) yX10_spanWhy cX10_spanWhy 2 (some .int) 0 0 [.ref 81, .int x1] 97 M (PI r M') := by
  refine con_of (by decide) (Nat.le_of_ble_eq_true rfl) ?_
  show GG l B LY (d + 2) yX10_spanWhy cX10_spanWhy 2 (some .int) 0 0 (PI r M') 97 0 0 0 [(0, .ref 81), (1, .int x1)] [] M
  rw [f_X10_spanWhy] at h
  refine g_aload_n dX10_spanWhy_0 rfl 0 rfl ?_
  refine g_iload_n dX10_spanWhy_1 rfl 1 rfl ?_
  obtain ⟨v2_2, M2_1, eM2_1, h⟩ := bd_e h
  refine m_callVi (As := [.int x1]) (st := []) (s_X10_isCreeper (d := d + 0) hA  eM2_1) rfl okX10 ck_X10_isCreeper w_1572 rfl (Nat.le_of_ble_eq_true rfl) dX10_spanWhy_2 ?_
  refine g_if_ne (tgt := 12) dX10_spanWhy_5 (by decide) (fun c4 => ?_) (fun c4 => ?_)
  · replace h := ite_n c4 h
    refine g_aload_n dX10_spanWhy_12 rfl 0 rfl ?_
    refine m_getr (k := 24) okX10 rfl rfl (by decide) w_1293 rfl dX10_spanWhy_13 ?_
    refine g_iload_n dX10_spanWhy_16 rfl 1 rfl ?_
    obtain ⟨hz, h⟩ := gd_s h
    refine m_iald rfl hz dX10_spanWhy_17 ?_
    refine g_if_ne (tgt := 26) dX10_spanWhy_18 (by decide) (fun c3 => ?_) (fun c3 => ?_)
    · replace h := ite_n c3 h
      refine g_iconst (v := 0) dX10_spanWhy_26 (by decide) ?_
      exact g_zret rfl rfl (pi_of h) dX10_spanWhy_27
    · replace h := ite_p c3 h
      refine g_bipush (v := 6) dX10_spanWhy_21 (by decide) ?_
      refine g_goto (tgt := 27) dX10_spanWhy_23 (by decide) ?_
      exact g_zret rfl rfl (pi_of h) dX10_spanWhy_27
  · replace h := ite_p c4 h
    refine g_iconst (v := 1) dX10_spanWhy_8 (by decide) ?_
    refine g_goto (tgt := 27) dX10_spanWhy_9 (by decide) ?_
    exact g_zret rfl rfl (pi_of h) dX10_spanWhy_27
theorem ck_X10_spanWhy : CKV yX10_spanWhy cX10_spanWhy 2 (some .int) 1 := ⟨⟨by decide, by decide, by decide +kernel⟩, w_1775, w_81, ⟨w_1774, w_64⟩, by decide⟩
theorem dX10_span_0 : decode cX10_span 0 = .ok (.aload_n 0, 1) := by decide +kernel
theorem dX10_span_1 : decode cX10_span 1 = .ok (.invokevirtual 156, 3) := by decide +kernel
theorem dX10_span_4 : decode cX10_span 4 = .ok (.aload_n 0, 1) := by decide +kernel
theorem dX10_span_5 : decode cX10_span 5 = .ok (.iload_n 1, 1) := by decide +kernel
theorem dX10_span_6 : decode cX10_span 6 = .ok (.invokevirtual 377, 3) := by decide +kernel
theorem dX10_span_9 : decode cX10_span 9 = .ok (.istore_n 3, 1) := by decide +kernel
theorem dX10_span_10 : decode cX10_span 10 = .ok (.iload_n 3, 1) := by decide +kernel
theorem dX10_span_11 : decode cX10_span 11 = .ok (.ifCond .eq 11, 3) := by decide +kernel
theorem dX10_span_14 : decode cX10_span 14 = .ok (.aload_n 0, 1) := by decide +kernel
theorem dX10_span_15 : decode cX10_span 15 = .ok (.iload_n 3, 1) := by decide +kernel
theorem dX10_span_16 : decode cX10_span 16 = .ok (.invokevirtual 159, 3) := by decide +kernel
theorem dX10_span_19 : decode cX10_span 19 = .ok (.goto 9, 3) := by decide +kernel
theorem dX10_span_22 : decode cX10_span 22 = .ok (.aload_n 0, 1) := by decide +kernel
theorem dX10_span_23 : decode cX10_span 23 = .ok (.iload_n 1, 1) := by decide +kernel
theorem dX10_span_24 : decode cX10_span 24 = .ok (.iload_n 2, 1) := by decide +kernel
theorem dX10_span_25 : decode cX10_span 25 = .ok (.invokevirtual 380, 3) := by decide +kernel
theorem dX10_span_28 : decode cX10_span 28 = .ok (.ireturn, 1) := by decide +kernel
def f_X10_span (x1 : Int32) (x2 : Int32) (M : Mm) : Option (Int32 × Mm) :=
  bv (f_X10_good  M) fun M1_1 => bd (f_X10_spanWhy x1 M1_1) fun v6_4 M6_3 => if v6_4 = 0 then (bd (f_X10_spanOf x1 x2 M6_3) fun v25_6 M25_5 => some (v25_6, M25_5)) else (bd (f_X10_no v6_4 M6_3) fun v16_8 M16_7 => some (v16_8, M16_7))
set_option maxHeartbeats 4000000 in
set_option maxRecDepth 100000 in
theorem s_X10_span {l : Launch} {B : BT} (hA : bA B = false) {d : Nat} {r : Int32} {M' : Mm} {x1 : Int32} {x2 : Int32} {M : Mm}  (h : f_X10_span x1 x2 M = some (r, M')) : Con l B LY (d + 3) yX10_span cX10_span 4 (some .int) 0 0 [.ref 81, .int x1, .int x2] 97 M (PI r M') := by
  refine con_of (by decide) (Nat.le_of_ble_eq_true rfl) ?_
  show GG l B LY (d + 3) yX10_span cX10_span 4 (some .int) 0 0 (PI r M') 97 0 0 0 [(0, .ref 81), (1, .int x1), (2, .int x2)] [] M
  rw [f_X10_span] at h
  refine g_aload_n dX10_span_0 rfl 0 rfl ?_
  obtain ⟨M1_1, eM1_1, h⟩ := bv_e h
  refine m_callVv (As := []) (st := []) (s_X10_good (d := d + 2) hA  eM1_1) rfl okX10 ck_X10_good w_1381 rfl (Nat.le_of_ble_eq_true rfl) dX10_span_1 ?_
  refine g_aload_n dX10_span_4 rfl 0 rfl ?_
  refine g_iload_n dX10_span_5 rfl 1 rfl ?_
  obtain ⟨v6_4, M6_3, eM6_3, h⟩ := bd_e h
  refine m_callVi (As := [.int x1]) (st := []) (s_X10_spanWhy (d := d + 0) hA  eM6_3) rfl okX10 ck_X10_spanWhy w_1772 rfl (Nat.le_of_ble_eq_true rfl) dX10_span_6 ?_
  refine g_istore_n (lv' := [(3, .int v6_4), (0, .ref 81), (1, .int x1), (2, .int x2)]) dX10_span_9 rfl (by decide) rfl ?_
  refine g_iload_n dX10_span_10 rfl 0 rfl ?_
  refine g_if_eq (tgt := 22) dX10_span_11 (by decide) (fun c9 => ?_) (fun c9 => ?_)
  · replace h := ite_p c9 h
    refine g_aload_n dX10_span_22 rfl 1 rfl ?_
    refine g_iload_n dX10_span_23 rfl 2 rfl ?_
    refine g_iload_n dX10_span_24 rfl 3 rfl ?_
    obtain ⟨v25_6, M25_5, eM25_5, h⟩ := bd_e h
    refine m_callVi (As := [.int x1, .int x2]) (st := []) (s_X10_spanOf (d := d + 0) hA  eM25_5) rfl okX10 ck_X10_spanOf w_1776 rfl (Nat.le_of_ble_eq_true rfl) dX10_span_25 ?_
    exact g_zret rfl rfl (pi_of h) dX10_span_28
  · replace h := ite_n c9 h
    refine g_aload_n dX10_span_14 rfl 1 rfl ?_
    refine g_iload_n dX10_span_15 rfl 0 rfl ?_
    obtain ⟨v16_8, M16_7, eM16_7, h⟩ := bd_e h
    refine m_callVi (As := [.int v6_4]) (st := []) (s_X10_no (d := d + 2) hA  eM16_7) rfl okX10 ck_X10_no w_1388 rfl (Nat.le_of_ble_eq_true rfl) dX10_span_16 ?_
    refine g_goto (tgt := 28) dX10_span_19 (by decide) ?_
    exact g_zret rfl rfl (pi_of h) dX10_span_28
theorem ck_X10_span : CKV yX10_span cX10_span 4 (some .int) 2 := ⟨⟨by decide, by decide, by decide +kernel⟩, w_1771, w_81, ⟨w_1769, w_1770⟩, by decide⟩
theorem dX10_fits_0 : decode cX10_fits 0 = .ok (.aload_n 0, 1) := by decide +kernel
theorem dX10_fits_1 : decode cX10_fits 1 = .ok (.invokevirtual 156, 3) := by decide +kernel
theorem dX10_fits_4 : decode cX10_fits 4 = .ok (.aload_n 0, 1) := by decide +kernel
theorem dX10_fits_5 : decode cX10_fits 5 = .ok (.iload_n 1, 1) := by decide +kernel
theorem dX10_fits_6 : decode cX10_fits 6 = .ok (.invokevirtual 377, 3) := by decide +kernel
theorem dX10_fits_9 : decode cX10_fits 9 = .ok (.istore_n 2, 1) := by decide +kernel
theorem dX10_fits_10 : decode cX10_fits 10 = .ok (.iload_n 2, 1) := by decide +kernel
theorem dX10_fits_11 : decode cX10_fits 11 = .ok (.ifCond .eq 11, 3) := by decide +kernel
theorem dX10_fits_14 : decode cX10_fits 14 = .ok (.aload_n 0, 1) := by decide +kernel
theorem dX10_fits_15 : decode cX10_fits 15 = .ok (.iload_n 2, 1) := by decide +kernel
theorem dX10_fits_16 : decode cX10_fits 16 = .ok (.invokevirtual 159, 3) := by decide +kernel
theorem dX10_fits_19 : decode cX10_fits 19 = .ok (.goto 35, 3) := by decide +kernel
theorem dX10_fits_22 : decode cX10_fits 22 = .ok (.aload_n 0, 1) := by decide +kernel
theorem dX10_fits_23 : decode cX10_fits 23 = .ok (.getfield 20, 3) := by decide +kernel
theorem dX10_fits_26 : decode cX10_fits 26 = .ok (.bipush 66, 2) := by decide +kernel
theorem dX10_fits_28 : decode cX10_fits 28 = .ok (.iload_n 1, 1) := by decide +kernel
theorem dX10_fits_29 : decode cX10_fits 29 = .ok (.iadd, 1) := by decide +kernel
theorem dX10_fits_30 : decode cX10_fits 30 = .ok (.iaload, 1) := by decide +kernel
theorem dX10_fits_31 : decode cX10_fits 31 = .ok (.aload_n 0, 1) := by decide +kernel
theorem dX10_fits_32 : decode cX10_fits 32 = .ok (.iload_n 1, 1) := by decide +kernel
theorem dX10_fits_33 : decode cX10_fits 33 = .ok (.iconst 0, 1) := by decide +kernel
theorem dX10_fits_34 : decode cX10_fits 34 = .ok (.invokevirtual 380, 3) := by decide +kernel
theorem dX10_fits_37 : decode cX10_fits 37 = .ok (.aload_n 0, 1) := by decide +kernel
theorem dX10_fits_38 : decode cX10_fits 38 = .ok (.iload_n 1, 1) := by decide +kernel
theorem dX10_fits_39 : decode cX10_fits 39 = .ok (.iconst 1, 1) := by decide +kernel
theorem dX10_fits_40 : decode cX10_fits 40 = .ok (.invokevirtual 380, 3) := by decide +kernel
theorem dX10_fits_43 : decode cX10_fits 43 = .ok (.invokestatic 144, 3) := by decide +kernel
theorem dX10_fits_46 : decode cX10_fits 46 = .ok (.ifCond .eq 7, 3) := by decide +kernel
theorem dX10_fits_49 : decode cX10_fits 49 = .ok (.iconst 1, 1) := by decide +kernel
theorem dX10_fits_50 : decode cX10_fits 50 = .ok (.goto 4, 3) := by decide +kernel
theorem dX10_fits_53 : decode cX10_fits 53 = .ok (.iconst 0, 1) := by decide +kernel
theorem dX10_fits_54 : decode cX10_fits 54 = .ok (.ireturn, 1) := by decide +kernel
def f_X10_fits (x1 : Int32) (M : Mm) : Option (Int32 × Mm) :=
  bv (f_X10_good  M) fun M1_1 => bd (f_X10_spanWhy x1 M1_1) fun v6_4 M6_3 => if v6_4 = 0 then (gd (inb ((66 : Int32) + x1) 141) <| bd (f_X10_spanOf x1 (0 : Int32) M6_3) fun v34_6 M34_5 => bd (f_X10_spanOf x1 (1 : Int32) M34_5) fun v40_8 M40_7 => bd (f_X10_within (M6_3 84 ((66 : Int32) + x1).toNatClampNeg) v34_6 v40_8 M40_7) fun v43_10 M43_9 => if v43_10 = 0 then (some ((0 : Int32), M43_9)) else (some ((1 : Int32), M43_9))) else (bd (f_X10_no v6_4 M6_3) fun v16_13 M16_12 => some (v16_13, M16_12))
set_option maxHeartbeats 4000000 in
set_option maxRecDepth 100000 in
theorem s_X10_fits {l : Launch} {B : BT} (hA : bA B = false) {d : Nat} {r : Int32} {M' : Mm} {x1 : Int32} {M : Mm}  (h : f_X10_fits x1 M = some (r, M')) : Con l B LY (d + 3) yX10_fits cX10_fits 3 (some .int) 0 0 [.ref 81, .int x1] 97 M (PI r M') := by
  refine con_of (by decide) (Nat.le_of_ble_eq_true rfl) ?_
  show GG l B LY (d + 3) yX10_fits cX10_fits 3 (some .int) 0 0 (PI r M') 97 0 0 0 [(0, .ref 81), (1, .int x1)] [] M
  rw [f_X10_fits] at h
  refine g_aload_n dX10_fits_0 rfl 0 rfl ?_
  obtain ⟨M1_1, eM1_1, h⟩ := bv_e h
  refine m_callVv (As := []) (st := []) (s_X10_good (d := d + 2) hA  eM1_1) rfl okX10 ck_X10_good w_1381 rfl (Nat.le_of_ble_eq_true rfl) dX10_fits_1 ?_
  refine g_aload_n dX10_fits_4 rfl 0 rfl ?_
  refine g_iload_n dX10_fits_5 rfl 1 rfl ?_
  obtain ⟨v6_4, M6_3, eM6_3, h⟩ := bd_e h
  refine m_callVi (As := [.int x1]) (st := []) (s_X10_spanWhy (d := d + 0) hA  eM6_3) rfl okX10 ck_X10_spanWhy w_1772 rfl (Nat.le_of_ble_eq_true rfl) dX10_fits_6 ?_
  refine g_istore_n (lv' := [(2, .int v6_4), (0, .ref 81), (1, .int x1)]) dX10_fits_9 rfl (by decide) rfl ?_
  refine g_iload_n dX10_fits_10 rfl 0 rfl ?_
  refine g_if_eq (tgt := 22) dX10_fits_11 (by decide) (fun c14 => ?_) (fun c14 => ?_)
  · replace h := ite_p c14 h
    refine g_aload_n dX10_fits_22 rfl 1 rfl ?_
    refine m_getr (k := 15) okX10 rfl rfl (by decide) w_1284 rfl dX10_fits_23 ?_
    refine g_bipush (v := 66) dX10_fits_26 (by decide) ?_
    refine g_iload_n dX10_fits_28 rfl 2 rfl ?_
    refine g_iadd dX10_fits_29 ?_
    obtain ⟨hz, h⟩ := gd_s h
    refine m_iald rfl hz dX10_fits_30 ?_
    refine g_aload_n dX10_fits_31 rfl 1 rfl ?_
    refine g_iload_n dX10_fits_32 rfl 2 rfl ?_
    refine g_iconst (v := 0) dX10_fits_33 (by decide) ?_
    obtain ⟨v34_6, M34_5, eM34_5, h⟩ := bd_e h
    refine m_callVi (As := [.int x1, .int (0 : Int32)]) (st := [.int (M6_3 84 ((66 : Int32) + x1).toNatClampNeg)]) (s_X10_spanOf (d := d + 0) hA  eM34_5) rfl okX10 ck_X10_spanOf w_1776 rfl (Nat.le_of_ble_eq_true rfl) dX10_fits_34 ?_
    refine g_aload_n dX10_fits_37 rfl 1 rfl ?_
    refine g_iload_n dX10_fits_38 rfl 2 rfl ?_
    refine g_iconst (v := 1) dX10_fits_39 (by decide) ?_
    obtain ⟨v40_8, M40_7, eM40_7, h⟩ := bd_e h
    refine m_callVi (As := [.int x1, .int (1 : Int32)]) (st := [.int v34_6, .int (M6_3 84 ((66 : Int32) + x1).toNatClampNeg)]) (s_X10_spanOf (d := d + 0) hA  eM40_7) rfl okX10 ck_X10_spanOf w_1776 rfl (Nat.le_of_ble_eq_true rfl) dX10_fits_40 ?_
    obtain ⟨v43_10, M43_9, eM43_9, h⟩ := bd_e h
    refine m_callSi (As := [.int (M6_3 84 ((66 : Int32) + x1).toNatClampNeg), .int v34_6, .int v40_8]) (st := []) (s_X10_within (d := d + 2) hA  eM43_9) ck_X10_within w_1385 rfl (Nat.le_of_ble_eq_true rfl) dX10_fits_43 ?_
    refine g_if_eq (tgt := 53) dX10_fits_46 (by decide) (fun c11 => ?_) (fun c11 => ?_)
    · replace h := ite_p c11 h
      refine g_iconst (v := 0) dX10_fits_53 (by decide) ?_
      exact g_zret rfl rfl (pi_of h) dX10_fits_54
    · replace h := ite_n c11 h
      refine g_iconst (v := 1) dX10_fits_49 (by decide) ?_
      refine g_goto (tgt := 54) dX10_fits_50 (by decide) ?_
      exact g_zret rfl rfl (pi_of h) dX10_fits_54
  · replace h := ite_n c14 h
    refine g_aload_n dX10_fits_14 rfl 1 rfl ?_
    refine g_iload_n dX10_fits_15 rfl 0 rfl ?_
    obtain ⟨v16_13, M16_12, eM16_12, h⟩ := bd_e h
    refine m_callVi (As := [.int v6_4]) (st := []) (s_X10_no (d := d + 2) hA  eM16_12) rfl okX10 ck_X10_no w_1388 rfl (Nat.le_of_ble_eq_true rfl) dX10_fits_16 ?_
    refine g_goto (tgt := 54) dX10_fits_19 (by decide) ?_
    exact g_zret rfl rfl (pi_of h) dX10_fits_54
theorem ck_X10_fits : CKV yX10_fits cX10_fits 3 (some .int) 1 := ⟨⟨by decide, by decide, by decide +kernel⟩, w_1791, w_81, ⟨w_1789, w_1790⟩, by decide⟩
theorem dX10_home_0 : decode cX10_home 0 = .ok (.aload_n 0, 1) := by decide +kernel
theorem dX10_home_1 : decode cX10_home 1 = .ok (.invokevirtual 156, 3) := by decide +kernel
theorem dX10_home_4 : decode cX10_home 4 = .ok (.aload_n 0, 1) := by decide +kernel
theorem dX10_home_5 : decode cX10_home 5 = .ok (.iload_n 1, 1) := by decide +kernel
theorem dX10_home_6 : decode cX10_home 6 = .ok (.invokevirtual 278, 3) := by decide +kernel
theorem dX10_home_9 : decode cX10_home 9 = .ok (.ifCond .ne 9, 3) := by decide +kernel
theorem dX10_home_12 : decode cX10_home 12 = .ok (.aload_n 0, 1) := by decide +kernel
theorem dX10_home_13 : decode cX10_home 13 = .ok (.iconst 1, 1) := by decide +kernel
theorem dX10_home_14 : decode cX10_home 14 = .ok (.invokevirtual 159, 3) := by decide +kernel
theorem dX10_home_17 : decode cX10_home 17 = .ok (.ireturn, 1) := by decide +kernel
theorem dX10_home_18 : decode cX10_home 18 = .ok (.iload_n 2, 1) := by decide +kernel
theorem dX10_home_19 : decode cX10_home 19 = .ok (.iconst 0, 1) := by decide +kernel
theorem dX10_home_20 : decode cX10_home 20 = .ok (.aload_n 0, 1) := by decide +kernel
theorem dX10_home_21 : decode cX10_home 21 = .ok (.getfield 20, 3) := by decide +kernel
theorem dX10_home_24 : decode cX10_home 24 = .ok (.iconst 0, 1) := by decide +kernel
theorem dX10_home_25 : decode cX10_home 25 = .ok (.iaload, 1) := by decide +kernel
theorem dX10_home_26 : decode cX10_home 26 = .ok (.invokestatic 144, 3) := by decide +kernel
theorem dX10_home_29 : decode cX10_home 29 = .ok (.ifCond .eq 20, 3) := by decide +kernel
theorem dX10_home_32 : decode cX10_home 32 = .ok (.aload_n 0, 1) := by decide +kernel
theorem dX10_home_33 : decode cX10_home 33 = .ok (.iload_n 1, 1) := by decide +kernel
theorem dX10_home_34 : decode cX10_home 34 = .ok (.iload_n 2, 1) := by decide +kernel
theorem dX10_home_35 : decode cX10_home 35 = .ok (.invokevirtual 258, 3) := by decide +kernel
theorem dX10_home_38 : decode cX10_home 38 = .ok (.ifCond .eq 7, 3) := by decide +kernel
theorem dX10_home_41 : decode cX10_home 41 = .ok (.iconst 1, 1) := by decide +kernel
theorem dX10_home_42 : decode cX10_home 42 = .ok (.goto 12, 3) := by decide +kernel
theorem dX10_home_45 : decode cX10_home 45 = .ok (.iconst 0, 1) := by decide +kernel
theorem dX10_home_46 : decode cX10_home 46 = .ok (.goto 8, 3) := by decide +kernel
theorem dX10_home_49 : decode cX10_home 49 = .ok (.aload_n 0, 1) := by decide +kernel
theorem dX10_home_50 : decode cX10_home 50 = .ok (.iconst 2, 1) := by decide +kernel
theorem dX10_home_51 : decode cX10_home 51 = .ok (.invokevirtual 159, 3) := by decide +kernel
theorem dX10_home_54 : decode cX10_home 54 = .ok (.ireturn, 1) := by decide +kernel
def f_X10_home (x1 : Int32) (x2 : Int32) (M : Mm) : Option (Int32 × Mm) :=
  bv (f_X10_good  M) fun M1_1 => bd (f_X10_isCreeper x1 M1_1) fun v6_4 M6_3 => if v6_4 = 0 then (bd (f_X10_no (1 : Int32) M6_3) fun v14_14 M14_13 => some (v14_14, M14_13)) else (gd (inb (0 : Int32) 141) <| bd (f_X10_within x2 (0 : Int32) (M6_3 84 (0 : Int32).toNatClampNeg) M6_3) fun v26_6 M26_5 => if v26_6 = 0 then (bd (f_X10_no (2 : Int32) M26_5) fun v51_8 M51_7 => some (v51_8, M51_7)) else (bd (f_X10_isCaught x1 x2 M26_5) fun v35_10 M35_9 => if v35_10 = 0 then (some ((0 : Int32), M35_9)) else (some ((1 : Int32), M35_9))))
set_option maxHeartbeats 4000000 in
set_option maxRecDepth 100000 in
theorem s_X10_home {l : Launch} {B : BT} (hA : bA B = false) {d : Nat} {r : Int32} {M' : Mm} {x1 : Int32} {x2 : Int32} {M : Mm}  (h : f_X10_home x1 x2 M = some (r, M')) : Con l B LY (d + 2) yX10_home cX10_home 3 (some .int) 0 0 [.ref 81, .int x1, .int x2] 97 M (PI r M') := by
  refine con_of (by decide) (Nat.le_of_ble_eq_true rfl) ?_
  show GG l B LY (d + 2) yX10_home cX10_home 3 (some .int) 0 0 (PI r M') 97 0 0 0 [(0, .ref 81), (1, .int x1), (2, .int x2)] [] M
  rw [f_X10_home] at h
  refine g_aload_n dX10_home_0 rfl 0 rfl ?_
  obtain ⟨M1_1, eM1_1, h⟩ := bv_e h
  refine m_callVv (As := []) (st := []) (s_X10_good (d := d + 1) hA  eM1_1) rfl okX10 ck_X10_good w_1381 rfl (Nat.le_of_ble_eq_true rfl) dX10_home_1 ?_
  refine g_aload_n dX10_home_4 rfl 0 rfl ?_
  refine g_iload_n dX10_home_5 rfl 1 rfl ?_
  obtain ⟨v6_4, M6_3, eM6_3, h⟩ := bd_e h
  refine m_callVi (As := [.int x1]) (st := []) (s_X10_isCreeper (d := d + 0) hA  eM6_3) rfl okX10 ck_X10_isCreeper w_1572 rfl (Nat.le_of_ble_eq_true rfl) dX10_home_6 ?_
  refine g_if_ne (tgt := 18) dX10_home_9 (by decide) (fun c15 => ?_) (fun c15 => ?_)
  · replace h := ite_n c15 h
    refine g_iload_n dX10_home_18 rfl 2 rfl ?_
    refine g_iconst (v := 0) dX10_home_19 (by decide) ?_
    refine g_aload_n dX10_home_20 rfl 0 rfl ?_
    refine m_getr (k := 15) okX10 rfl rfl (by decide) w_1284 rfl dX10_home_21 ?_
    refine g_iconst (v := 0) dX10_home_24 (by decide) ?_
    obtain ⟨hz, h⟩ := gd_s h
    refine m_iald rfl hz dX10_home_25 ?_
    obtain ⟨v26_6, M26_5, eM26_5, h⟩ := bd_e h
    refine m_callSi (As := [.int x2, .int (0 : Int32), .int (M6_3 84 (0 : Int32).toNatClampNeg)]) (st := []) (s_X10_within (d := d + 1) hA  eM26_5) ck_X10_within w_1385 rfl (Nat.le_of_ble_eq_true rfl) dX10_home_26 ?_
    refine g_if_eq (tgt := 49) dX10_home_29 (by decide) (fun c12 => ?_) (fun c12 => ?_)
    · replace h := ite_p c12 h
      refine g_aload_n dX10_home_49 rfl 0 rfl ?_
      refine g_iconst (v := 2) dX10_home_50 (by decide) ?_
      obtain ⟨v51_8, M51_7, eM51_7, h⟩ := bd_e h
      refine m_callVi (As := [.int (2 : Int32)]) (st := []) (s_X10_no (d := d + 1) hA  eM51_7) rfl okX10 ck_X10_no w_1388 rfl (Nat.le_of_ble_eq_true rfl) dX10_home_51 ?_
      exact g_zret rfl rfl (pi_of h) dX10_home_54
    · replace h := ite_n c12 h
      refine g_aload_n dX10_home_32 rfl 0 rfl ?_
      refine g_iload_n dX10_home_33 rfl 1 rfl ?_
      refine g_iload_n dX10_home_34 rfl 2 rfl ?_
      obtain ⟨v35_10, M35_9, eM35_9, h⟩ := bd_e h
      refine m_callVi (As := [.int x1, .int x2]) (st := []) (s_X10_isCaught (d := d + 0) hA  eM35_9) rfl okX10 ck_X10_isCaught w_1536 rfl (Nat.le_of_ble_eq_true rfl) dX10_home_35 ?_
      refine g_if_eq (tgt := 45) dX10_home_38 (by decide) (fun c11 => ?_) (fun c11 => ?_)
      · replace h := ite_p c11 h
        refine g_iconst (v := 0) dX10_home_45 (by decide) ?_
        refine g_goto (tgt := 54) dX10_home_46 (by decide) ?_
        exact g_zret rfl rfl (pi_of h) dX10_home_54
      · replace h := ite_n c11 h
        refine g_iconst (v := 1) dX10_home_41 (by decide) ?_
        refine g_goto (tgt := 54) dX10_home_42 (by decide) ?_
        exact g_zret rfl rfl (pi_of h) dX10_home_54
  · replace h := ite_p c15 h
    refine g_aload_n dX10_home_12 rfl 0 rfl ?_
    refine g_iconst (v := 1) dX10_home_13 (by decide) ?_
    obtain ⟨v14_14, M14_13, eM14_13, h⟩ := bd_e h
    refine m_callVi (As := [.int (1 : Int32)]) (st := []) (s_X10_no (d := d + 1) hA  eM14_13) rfl okX10 ck_X10_no w_1388 rfl (Nat.le_of_ble_eq_true rfl) dX10_home_14 ?_
    exact g_zret rfl rfl (pi_of h) dX10_home_17
theorem ck_X10_home : CKV yX10_home cX10_home 3 (some .int) 2 := ⟨⟨by decide, by decide, by decide +kernel⟩, w_1795, w_81, ⟨w_1793, w_1794⟩, by decide⟩
theorem dX10_far_0 : decode cX10_far 0 = .ok (.aload_n 0, 1) := by decide +kernel
theorem dX10_far_1 : decode cX10_far 1 = .ok (.invokevirtual 156, 3) := by decide +kernel
theorem dX10_far_4 : decode cX10_far 4 = .ok (.aload_n 0, 1) := by decide +kernel
theorem dX10_far_5 : decode cX10_far 5 = .ok (.iload_n 1, 1) := by decide +kernel
theorem dX10_far_6 : decode cX10_far 6 = .ok (.invokevirtual 278, 3) := by decide +kernel
theorem dX10_far_9 : decode cX10_far 9 = .ok (.ifCond .ne 9, 3) := by decide +kernel
theorem dX10_far_12 : decode cX10_far 12 = .ok (.aload_n 0, 1) := by decide +kernel
theorem dX10_far_13 : decode cX10_far 13 = .ok (.iconst 1, 1) := by decide +kernel
theorem dX10_far_14 : decode cX10_far 14 = .ok (.invokevirtual 159, 3) := by decide +kernel
theorem dX10_far_17 : decode cX10_far 17 = .ok (.ireturn, 1) := by decide +kernel
theorem dX10_far_18 : decode cX10_far 18 = .ok (.aload_n 0, 1) := by decide +kernel
theorem dX10_far_19 : decode cX10_far 19 = .ok (.getfield 20, 3) := by decide +kernel
theorem dX10_far_22 : decode cX10_far 22 = .ok (.iconst 0, 1) := by decide +kernel
theorem dX10_far_23 : decode cX10_far 23 = .ok (.iaload, 1) := by decide +kernel
theorem dX10_far_24 : decode cX10_far 24 = .ok (.istore_n 2, 1) := by decide +kernel
theorem dX10_far_25 : decode cX10_far 25 = .ok (.aload_n 0, 1) := by decide +kernel
theorem dX10_far_26 : decode cX10_far 26 = .ok (.iload_n 1, 1) := by decide +kernel
theorem dX10_far_27 : decode cX10_far 27 = .ok (.iload_n 2, 1) := by decide +kernel
theorem dX10_far_28 : decode cX10_far 28 = .ok (.invokevirtual 258, 3) := by decide +kernel
theorem dX10_far_31 : decode cX10_far 31 = .ok (.ifCond .eq 9, 3) := by decide +kernel
theorem dX10_far_34 : decode cX10_far 34 = .ok (.iinc 2 (-1), 3) := by decide +kernel
theorem dX10_far_37 : decode cX10_far 37 = .ok (.goto (-12), 3) := by decide +kernel
theorem dX10_far_40 : decode cX10_far 40 = .ok (.iload_n 2, 1) := by decide +kernel
theorem dX10_far_41 : decode cX10_far 41 = .ok (.ireturn, 1) := by decide +kernel
def lp_X10_far_25 (y1 : Int32)  : Nat → Int32 → Mm → Option (Int32 × Mm)
  | 0, _, _ => none
  | n + 1, y2, M =>
    bd (f_X10_isCaught y1 y2 M) fun v28_7 M28_6 => if v28_7 = 0 then (some (y2, M28_6)) else (lp_X10_far_25 y1 n (y2 + (-1 : Int32)) M28_6)
def f_X10_far (x1 : Int32) (M : Mm) : Option (Int32 × Mm) :=
  bv (f_X10_good  M) fun M1_1 => bd (f_X10_isCreeper x1 M1_1) fun v6_4 M6_3 => if v6_4 = 0 then (bd (f_X10_no (1 : Int32) M6_3) fun v14_10 M14_9 => some (v14_10, M14_9)) else (gd (inb (0 : Int32) 141) <| lt ((M6_3 84 (0 : Int32).toNatClampNeg)) fun t5 => lp_X10_far_25 x1  N0 t5 M6_3)
set_option maxHeartbeats 4000000 in
set_option maxRecDepth 100000 in
theorem sl_X10_far_25 {l : Launch} {B : BT} (hA : bA B = false) {d : Nat} {r : Int32} {M' : Mm} {y1 : Int32}    :
    ∀ (n : Nat) (y2 : Int32) (M : Mm), lp_X10_far_25 y1 n y2 M = some (r, M') → GG l B LY (d + 2) yX10_far cX10_far 3 (some .int) 0 0 (PI r M') 97 0 0 25 [(0, .ref 81), (1, .int y1), (2, .int y2)] [] M := by
  intro n
  induction n with
  | zero => intro y2 M h; cases h
  | succ n ih =>
    intro y2 M h
    rw [lp_X10_far_25] at h
    refine g_aload_n dX10_far_25 rfl 0 rfl ?_
    refine g_iload_n dX10_far_26 rfl 1 rfl ?_
    refine g_iload_n dX10_far_27 rfl 2 rfl ?_
    obtain ⟨v28_7, M28_6, eM28_6, h⟩ := bd_e h
    refine m_callVi (As := [.int y1, .int y2]) (st := []) (s_X10_isCaught (d := d + 0) hA  eM28_6) rfl okX10 ck_X10_isCaught w_1536 rfl (Nat.le_of_ble_eq_true rfl) dX10_far_28 ?_
    refine g_if_eq (tgt := 40) dX10_far_31 (by decide) (fun c8 => ?_) (fun c8 => ?_)
    · replace h := ite_p c8 h
      refine g_iload_n dX10_far_40 rfl 2 rfl ?_
      exact g_zret rfl rfl (pi_of h) dX10_far_41
    · replace h := ite_n c8 h
      refine g_iinc (v := (y2 + (-1 : Int32))) (lv' := [(2, .int (y2 + (-1 : Int32))), (0, .ref 81), (1, .int y1)]) dX10_far_34 2 rfl rfl (by decide) rfl ?_
      refine g_goto (tgt := 25) dX10_far_37 (by decide) ?_
      refine g_sub [1, 2, 0] (lv' := [(0, .ref 81), (1, .int y1), (2, .int (y2 + (-1 : Int32)))]) rfl ?_
      exact ih _  _ h
set_option maxHeartbeats 4000000 in
set_option maxRecDepth 100000 in
theorem s_X10_far {l : Launch} {B : BT} (hA : bA B = false) {d : Nat} {r : Int32} {M' : Mm} {x1 : Int32} {M : Mm}  (h : f_X10_far x1 M = some (r, M')) : Con l B LY (d + 2) yX10_far cX10_far 3 (some .int) 0 0 [.ref 81, .int x1] 97 M (PI r M') := by
  refine con_of (by decide) (Nat.le_of_ble_eq_true rfl) ?_
  show GG l B LY (d + 2) yX10_far cX10_far 3 (some .int) 0 0 (PI r M') 97 0 0 0 [(0, .ref 81), (1, .int x1)] [] M
  rw [f_X10_far] at h
  refine g_aload_n dX10_far_0 rfl 0 rfl ?_
  obtain ⟨M1_1, eM1_1, h⟩ := bv_e h
  refine m_callVv (As := []) (st := []) (s_X10_good (d := d + 1) hA  eM1_1) rfl okX10 ck_X10_good w_1381 rfl (Nat.le_of_ble_eq_true rfl) dX10_far_1 ?_
  refine g_aload_n dX10_far_4 rfl 0 rfl ?_
  refine g_iload_n dX10_far_5 rfl 1 rfl ?_
  obtain ⟨v6_4, M6_3, eM6_3, h⟩ := bd_e h
  refine m_callVi (As := [.int x1]) (st := []) (s_X10_isCreeper (d := d + 0) hA  eM6_3) rfl okX10 ck_X10_isCreeper w_1572 rfl (Nat.le_of_ble_eq_true rfl) dX10_far_6 ?_
  refine g_if_ne (tgt := 18) dX10_far_9 (by decide) (fun c11 => ?_) (fun c11 => ?_)
  · replace h := ite_n c11 h
    refine g_aload_n dX10_far_18 rfl 0 rfl ?_
    refine m_getr (k := 15) okX10 rfl rfl (by decide) w_1284 rfl dX10_far_19 ?_
    refine g_iconst (v := 0) dX10_far_22 (by decide) ?_
    obtain ⟨hz, h⟩ := gd_s h
    refine m_iald rfl hz dX10_far_23 ?_
    obtain ⟨t5, et5, h⟩ := lt_e h
    refine g_cuti et5 ?_
    refine g_istore_n (lv' := [(2, .int t5), (0, .ref 81), (1, .int x1)]) dX10_far_24 rfl (by decide) rfl ?_
    refine g_sub [1, 2, 0] (lv' := [(0, .ref 81), (1, .int x1), (2, .int t5)]) rfl ?_
    refine sl_X10_far_25 hA   _ _ _ h
  · replace h := ite_p c11 h
    refine g_aload_n dX10_far_12 rfl 0 rfl ?_
    refine g_iconst (v := 1) dX10_far_13 (by decide) ?_
    obtain ⟨v14_10, M14_9, eM14_9, h⟩ := bd_e h
    refine m_callVi (As := [.int (1 : Int32)]) (st := []) (s_X10_no (d := d + 1) hA  eM14_9) rfl okX10 ck_X10_no w_1388 rfl (Nat.le_of_ble_eq_true rfl) dX10_far_14 ?_
    exact g_zret rfl rfl (pi_of h) dX10_far_17
theorem ck_X10_far : CKV yX10_far cX10_far 3 (some .int) 1 := ⟨⟨by decide, by decide, by decide +kernel⟩, w_1799, w_81, ⟨w_1797, w_1798⟩, by decide⟩
